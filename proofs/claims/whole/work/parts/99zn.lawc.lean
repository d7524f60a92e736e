/-! THE LAW: its cases -/
abbrev lwL (G : GT) (x : Nat) (i : Int32) : List (Nat × Value) := [(0, .ref (gb G)), (1, .ref x), (2, .ref (x + 55)), (3, .int i)]
/-- what goes on behind a case -/
def lwK (G : GT) (d x c : Nat) (i : Int32) (M : Mem) (Q : Po) : Prop := ∀ M' T' w' c', XC w' M' x T' c' → RX M' (x + 55) T' → c' ≤ c + 1 → mN M' ≤ mN M + 100 → mS M' ≤ mS M + 10000 → At G (d + 32) 282 1203 (lwL G x i) [] M' Q
theorem lcmp_self (v : Int64) : lg_cmp v v = 0 := by simp [lg_cmp]
section
variable {G : GT} {d x c : Nat} {w : Nat → Nat} {M : Mem} {T : StT} {i : Int32} {Q : Po}
theorem lwc_go {M1 M2 : Mem} {U : StT} {w1 : Nat → Nat} {c1 : Nat} (hk : lwK G d x c i M Q) (X1 : XC w1 M1 x U c1) (l1 : c1 ≤ c + 1) (C1 : Cu x M M1) (R2 : RX M2 (x + 55) U) (O2 : Ou (x + 55) M1 M2) : At G (d + 32) 282 1203 (lwL G x i) [] M2 Q :=
  hk M2 U w1 c1 (X1.ou O2) R2 l1 (by rw [O2.1]; exact C1.2.1) (by rw [O2.2.1]; exact C1.2.2)
set_option maxRecDepth 100000 in
theorem lwc_0 (J : XC w M x T c) (R : RX M (x + 55) T) (hc : c + 1 < 1000000) (h1 : vp_in (i + 1) (gL G)) (h2 : vp_in (i + 2) (gL G)) (h3 : vp_in (i + 3) (gL G)) (h4 : vp_in (i + 4) (gL G)) (h5 : vp_in (i + 5) (gL G)) (hk : lwK G d x c i M Q) : At G (d + 32) 282 176 (lwL G x i) [] M Q := by
  refine vc ok282 22 57 ?_
  refine Or.inr ⟨rfl, h1, ?_⟩
  refine Or.inr ⟨rfl, h2, ?_⟩
  refine Or.inr ⟨rfl, h3, ?_⟩
  refine Or.inr ⟨rfl, h4, ?_⟩
  refine Or.inr ⟨rfl, h5, ?_⟩
  refine And.intro (Nat.le_of_ble_eq_true rfl) (And.intro (Nat.le_of_ble_eq_true rfl) (And.intro J.xa.1.1 ?_))
  refine Cl.mono (ka_feed (d := d) J hc) (fun r M1 h => ?_)
  obtain ⟨v, rfl, rfl, w1, c1, X1, l1, C1⟩ := h
  refine Or.inr ⟨rfl, h1, ?_⟩
  refine Or.inr ⟨rfl, h2, ?_⟩
  refine Or.inr ⟨rfl, h3, ?_⟩
  refine Or.inr ⟨rfl, h4, ?_⟩
  refine Or.inr ⟨rfl, h5, ?_⟩
  refine And.intro (Nat.le_of_ble_eq_true rfl) (And.intro (Nat.le_of_ble_eq_true rfl) (And.intro (R.cu C1).1.1 ?_))
  refine Cl.mono (ma_feed (d := d) (R.cu C1)) (fun r M2 h => ?_)
  obtain ⟨v, rfl, rfl, R2, O2⟩ := h
  exact And.intro (fun _ => lwc_go hk X1 l1 C1 R2 O2) (fun hn => absurd rfl hn)
set_option maxRecDepth 100000 in
theorem lwc_1 (J : XC w M x T c) (R : RX M (x + 55) T) (hc : c + 1 < 1000000) (h1 : vp_in (i + 1) (gL G)) (hk : lwK G d x c i M Q) : At G (d + 32) 282 239 (lwL G x i) [] M Q := by
  refine vc ok282 79 17 ?_
  refine Or.inr ⟨rfl, h1, ?_⟩
  refine And.intro (Nat.le_of_ble_eq_true rfl) (And.intro (Nat.le_of_ble_eq_true rfl) (And.intro J.xa.1.1 ?_))
  refine Cl.mono (ka_end (d := d) J hc) (fun r M1 h => ?_)
  obtain ⟨v, rfl, rfl, w1, c1, X1, l1, C1⟩ := h
  refine Or.inr ⟨rfl, h1, ?_⟩
  refine And.intro (Nat.le_of_ble_eq_true rfl) (And.intro (Nat.le_of_ble_eq_true rfl) (And.intro (R.cu C1).1.1 ?_))
  refine Cl.mono (ma_end (d := d) (R.cu C1)) (fun r M2 h => ?_)
  obtain ⟨v, rfl, rfl, R2, O2⟩ := h
  exact And.intro (fun _ => lwc_go hk X1 l1 C1 R2 O2) (fun hn => absurd rfl hn)
set_option maxRecDepth 100000 in
theorem lwc_2 (J : XC w M x T c) (R : RX M (x + 55) T) (hc : c + 1 < 1000000) (hk : lwK G d x c i M Q) : At G (d + 32) 282 262 (lwL G x i) [] M Q := by
  refine vc ok282 96 7 ?_
  refine And.intro (Nat.le_of_ble_eq_true rfl) (And.intro (Nat.le_of_ble_eq_true rfl) (And.intro J.xa.1.1 ?_))
  refine Cl.mono (ka_galley (d := d) J hc) (fun r M1 h => ?_)
  obtain ⟨v, rfl, rfl, w1, c1, X1, l1, C1⟩ := h
  refine And.intro (Nat.le_of_ble_eq_true rfl) (And.intro (Nat.le_of_ble_eq_true rfl) (And.intro (R.cu C1).1.1 ?_))
  refine Cl.mono (ma_galley (d := d) (R.cu C1)) (fun r M2 h => ?_)
  obtain ⟨v, rfl, rfl, R2, O2⟩ := h
  exact And.intro (fun _ => lwc_go hk X1 l1 C1 R2 O2) (fun hn => absurd rfl hn)
set_option maxRecDepth 100000 in
theorem lwc_3 (J : XC w M x T c) (R : RX M (x + 55) T) (hc : c + 1 < 1000000) (hk : lwK G d x c i M Q) : At G (d + 32) 282 275 (lwL G x i) [] M Q := by
  refine vc ok282 103 7 ?_
  refine And.intro (Nat.le_of_ble_eq_true rfl) (And.intro (Nat.le_of_ble_eq_true rfl) (And.intro J.xa.1.1 ?_))
  refine Cl.mono (ka_wishes (d := d) J hc) (fun r M1 h => ?_)
  obtain ⟨v, rfl, rfl, w1, c1, X1, l1, C1⟩ := h
  refine And.intro (Nat.le_of_ble_eq_true rfl) (And.intro (Nat.le_of_ble_eq_true rfl) (And.intro (R.cu C1).1.1 ?_))
  refine Cl.mono (ma_wishes (d := d) (R.cu C1)) (fun r M2 h => ?_)
  obtain ⟨v, rfl, rfl, R2, O2⟩ := h
  exact And.intro (fun _ => lwc_go hk X1 l1 C1 R2 O2) (fun hn => absurd rfl hn)
set_option maxRecDepth 100000 in
theorem lwc_4 (J : XC w M x T c) (R : RX M (x + 55) T) (hc : c + 1 < 1000000) (h1 : vp_in (i + 1) (gL G)) (hk : lwK G d x c i M Q) : At G (d + 32) 282 288 (lwL G x i) [] M Q := by
  refine vc ok282 110 17 ?_
  refine Or.inr ⟨rfl, h1, ?_⟩
  refine And.intro (Nat.le_of_ble_eq_true rfl) (And.intro (Nat.le_of_ble_eq_true rfl) (And.intro J.xa.1.1 ?_))
  refine Cl.mono (ka_hand (d := d) J hc) (fun r M1 h => ?_)
  obtain ⟨v, rfl, rfl, w1, c1, X1, l1, C1⟩ := h
  refine Or.inr ⟨rfl, h1, ?_⟩
  refine And.intro (Nat.le_of_ble_eq_true rfl) (And.intro (Nat.le_of_ble_eq_true rfl) (And.intro (R.cu C1).1.1 ?_))
  refine Cl.mono (ma_hand (d := d) (R.cu C1)) (fun r M2 h => ?_)
  obtain ⟨v, rfl, rfl, R2, O2⟩ := h
  exact And.intro (fun _ => lwc_go hk X1 l1 C1 R2 O2) (fun hn => absurd rfl hn)
set_option maxRecDepth 100000 in
theorem lwc_5 (J : XC w M x T c) (R : RX M (x + 55) T) (hc : c + 1 < 1000000) (h1 : vp_in (i + 1) (gL G)) (hk : lwK G d x c i M Q) : At G (d + 32) 282 311 (lwL G x i) [] M Q := by
  refine vc ok282 127 17 ?_
  refine Or.inr ⟨rfl, h1, ?_⟩
  refine And.intro (Nat.le_of_ble_eq_true rfl) (And.intro (Nat.le_of_ble_eq_true rfl) (And.intro J.xa.1.1 ?_))
  refine Cl.mono (ka_marks (d := d) J hc) (fun r M1 h => ?_)
  obtain ⟨v, rfl, rfl, w1, c1, X1, l1, C1⟩ := h
  refine Or.inr ⟨rfl, h1, ?_⟩
  refine And.intro (Nat.le_of_ble_eq_true rfl) (And.intro (Nat.le_of_ble_eq_true rfl) (And.intro (R.cu C1).1.1 ?_))
  refine Cl.mono (ma_marks (d := d) (R.cu C1)) (fun r M2 h => ?_)
  obtain ⟨v, rfl, rfl, R2, O2⟩ := h
  exact And.intro (fun _ => lwc_go hk X1 l1 C1 R2 O2) (fun hn => absurd rfl hn)
set_option maxRecDepth 100000 in
theorem lwc_6 (J : XC w M x T c) (R : RX M (x + 55) T) (hc : c + 1 < 1000000) (hk : lwK G d x c i M Q) : At G (d + 32) 282 334 (lwL G x i) [] M Q := by
  refine vc ok282 144 7 ?_
  refine And.intro (Nat.le_of_ble_eq_true rfl) (And.intro (Nat.le_of_ble_eq_true rfl) (And.intro J.xa.1.1 ?_))
  refine Cl.mono (ka_law (d := d) J hc) (fun r M1 h => ?_)
  obtain ⟨v, rfl, rfl, w1, c1, X1, l1, C1⟩ := h
  refine And.intro (Nat.le_of_ble_eq_true rfl) (And.intro (Nat.le_of_ble_eq_true rfl) (And.intro (R.cu C1).1.1 ?_))
  refine Cl.mono (ma_law (d := d) (R.cu C1)) (fun r M2 h => ?_)
  obtain ⟨v, rfl, rfl, R2, O2⟩ := h
  exact And.intro (fun _ => lwc_go hk X1 l1 C1 R2 O2) (fun hn => absurd rfl hn)
set_option maxRecDepth 100000 in
theorem lwc_7 (J : XC w M x T c) (R : RX M (x + 55) T) (hc : c + 1 < 1000000) (h1 : vp_in (i + 1) (gL G)) (h2 : vp_in (i + 2) (gL G)) (hk : lwK G d x c i M Q) : At G (d + 32) 282 347 (lwL G x i) [] M Q := by
  refine vc ok282 151 27 ?_
  refine Or.inr ⟨rfl, h1, ?_⟩
  refine Or.inr ⟨rfl, h2, ?_⟩
  refine And.intro (Nat.le_of_ble_eq_true rfl) (And.intro (Nat.le_of_ble_eq_true rfl) (And.intro J.xa.1.1 ?_))
  refine Cl.mono (ka_cost (d := d) J hc) (fun r M1 h => ?_)
  obtain ⟨v, rfl, rfl, w1, c1, X1, l1, C1⟩ := h
  refine Or.inr ⟨rfl, h1, ?_⟩
  refine Or.inr ⟨rfl, h2, ?_⟩
  refine And.intro (Nat.le_of_ble_eq_true rfl) (And.intro (Nat.le_of_ble_eq_true rfl) (And.intro (R.cu C1).1.1 ?_))
  refine Cl.mono (ma_cost (d := d) (R.cu C1)) (fun r M2 h => ?_)
  obtain ⟨v, rfl, rfl, R2, O2⟩ := h
  exact And.intro (fun _ => lwc_go hk X1 l1 C1 R2 O2) (fun hn => absurd rfl hn)
set_option maxRecDepth 100000 in
theorem lwc_8 (J : XC w M x T c) (R : RX M (x + 55) T) (hc : c + 1 < 1000000) (h1 : vp_in (i + 1) (gL G)) (h2 : vp_in (i + 2) (gL G)) (hk : lwK G d x c i M Q) : At G (d + 32) 282 380 (lwL G x i) [] M Q := by
  refine vc ok282 178 27 ?_
  refine Or.inr ⟨rfl, h1, ?_⟩
  refine Or.inr ⟨rfl, h2, ?_⟩
  refine And.intro (Nat.le_of_ble_eq_true rfl) (And.intro (Nat.le_of_ble_eq_true rfl) (And.intro J.xa.1.1 ?_))
  refine Cl.mono (ka_at (d := d) J hc) (fun r M1 h => ?_)
  obtain ⟨v, rfl, rfl, w1, c1, X1, l1, C1⟩ := h
  refine Or.inr ⟨rfl, h1, ?_⟩
  refine Or.inr ⟨rfl, h2, ?_⟩
  refine And.intro (Nat.le_of_ble_eq_true rfl) (And.intro (Nat.le_of_ble_eq_true rfl) (And.intro (R.cu C1).1.1 ?_))
  refine Cl.mono (ma_at (d := d) (R.cu C1)) (fun r M2 h => ?_)
  obtain ⟨v, rfl, rfl, R2, O2⟩ := h
  exact And.intro (fun _ => lwc_go hk X1 l1 C1 R2 O2) (fun hn => absurd rfl hn)
set_option maxRecDepth 100000 in
theorem lwc_9 (J : XC w M x T c) (R : RX M (x + 55) T) (hc : c + 1 < 1000000) (h1 : vp_in (i + 1) (gL G)) (h2 : vp_in (i + 2) (gL G)) (h3 : vp_in (i + 3) (gL G)) (hk : lwK G d x c i M Q) : At G (d + 32) 282 413 (lwL G x i) [] M Q := by
  refine vc ok282 205 37 ?_
  refine Or.inr ⟨rfl, h1, ?_⟩
  refine Or.inr ⟨rfl, h2, ?_⟩
  refine Or.inr ⟨rfl, h3, ?_⟩
  refine And.intro (Nat.le_of_ble_eq_true rfl) (And.intro (Nat.le_of_ble_eq_true rfl) (And.intro J.xa.1.1 ?_))
  refine Cl.mono (ka_mark (d := d) J hc) (fun r M1 h => ?_)
  obtain ⟨v, rfl, rfl, w1, c1, X1, l1, C1⟩ := h
  refine Or.inr ⟨rfl, h1, ?_⟩
  refine Or.inr ⟨rfl, h2, ?_⟩
  refine Or.inr ⟨rfl, h3, ?_⟩
  refine And.intro (Nat.le_of_ble_eq_true rfl) (And.intro (Nat.le_of_ble_eq_true rfl) (And.intro (R.cu C1).1.1 ?_))
  refine Cl.mono (ma_mark (d := d) (R.cu C1)) (fun r M2 h => ?_)
  obtain ⟨v, rfl, rfl, R2, O2⟩ := h
  exact And.intro (fun _ => lwc_go hk X1 l1 C1 R2 O2) (fun hn => absurd rfl hn)
set_option maxRecDepth 100000 in
theorem lwc_10 (J : XC w M x T c) (R : RX M (x + 55) T) (hc : c + 1 < 1000000) (h1 : vp_in (i + 1) (gL G)) (h2 : vp_in (i + 2) (gL G)) (h3 : vp_in (i + 3) (gL G)) (hk : lwK G d x c i M Q) : At G (d + 32) 282 456 (lwL G x i) [] M Q := by
  refine vc ok282 242 37 ?_
  refine Or.inr ⟨rfl, h1, ?_⟩
  refine Or.inr ⟨rfl, h2, ?_⟩
  refine Or.inr ⟨rfl, h3, ?_⟩
  refine And.intro (Nat.le_of_ble_eq_true rfl) (And.intro (Nat.le_of_ble_eq_true rfl) (And.intro J.xa.1.1 ?_))
  refine Cl.mono (ka_put (d := d) J hc) (fun r M1 h => ?_)
  obtain ⟨v, rfl, rfl, w1, c1, X1, l1, C1⟩ := h
  refine Or.inr ⟨rfl, h1, ?_⟩
  refine Or.inr ⟨rfl, h2, ?_⟩
  refine Or.inr ⟨rfl, h3, ?_⟩
  refine And.intro (Nat.le_of_ble_eq_true rfl) (And.intro (Nat.le_of_ble_eq_true rfl) (And.intro (R.cu C1).1.1 ?_))
  refine Cl.mono (ma_put (d := d) (R.cu C1)) (fun r M2 h => ?_)
  obtain ⟨v, rfl, rfl, R2, O2⟩ := h
  exact And.intro (fun _ => lwc_go hk X1 l1 C1 R2 O2) (fun hn => absurd rfl hn)
set_option maxRecDepth 100000 in
theorem lwc_11 (J : XC w M x T c) (R : RX M (x + 55) T) (hc : c + 1 < 1000000) (h1 : vp_in (i + 1) (gL G)) (h2 : vp_in (i + 2) (gL G)) (h3 : vp_in (i + 3) (gL G)) (h4 : vp_in (i + 4) (gL G)) (hk : lwK G d x c i M Q) : At G (d + 32) 282 499 (lwL G x i) [] M Q := by
  refine vc ok282 279 47 ?_
  refine Or.inr ⟨rfl, h1, ?_⟩
  refine Or.inr ⟨rfl, h2, ?_⟩
  refine Or.inr ⟨rfl, h3, ?_⟩
  refine Or.inr ⟨rfl, h4, ?_⟩
  refine And.intro (Nat.le_of_ble_eq_true rfl) (And.intro (Nat.le_of_ble_eq_true rfl) (And.intro J.xa.1.1 ?_))
  refine Cl.mono (ka_clash (d := d) J hc) (fun r M1 h => ?_)
  obtain ⟨v, rfl, rfl, w1, c1, X1, l1, C1⟩ := h
  refine Or.inr ⟨rfl, h1, ?_⟩
  refine Or.inr ⟨rfl, h2, ?_⟩
  refine Or.inr ⟨rfl, h3, ?_⟩
  refine Or.inr ⟨rfl, h4, ?_⟩
  refine And.intro (Nat.le_of_ble_eq_true rfl) (And.intro (Nat.le_of_ble_eq_true rfl) (And.intro (R.cu C1).1.1 ?_))
  refine Cl.mono (ma_clash (d := d) (R.cu C1)) (fun r M2 h => ?_)
  obtain ⟨v, rfl, rfl, R2, O2⟩ := h
  exact And.intro (fun _ => lwc_go hk X1 l1 C1 R2 O2) (fun hn => absurd rfl hn)
set_option maxRecDepth 100000 in
theorem lwc_12 (J : XC w M x T c) (R : RX M (x + 55) T) (hc : c + 1 < 1000000) (h1 : vp_in (i + 1) (gL G)) (hk : lwK G d x c i M Q) : At G (d + 32) 282 552 (lwL G x i) [] M Q := by
  refine vc ok282 326 17 ?_
  refine Or.inr ⟨rfl, h1, ?_⟩
  refine And.intro (Nat.le_of_ble_eq_true rfl) (And.intro (Nat.le_of_ble_eq_true rfl) (And.intro J.xa.1.1 ?_))
  refine Cl.mono (ka_clashes (d := d) J hc) (fun r M1 h => ?_)
  obtain ⟨v, rfl, rfl, w1, c1, X1, l1, C1⟩ := h
  refine Or.inr ⟨rfl, h1, ?_⟩
  refine And.intro (Nat.le_of_ble_eq_true rfl) (And.intro (Nat.le_of_ble_eq_true rfl) (And.intro (R.cu C1).1.1 ?_))
  refine Cl.mono (ma_clashes (d := d) (R.cu C1)) (fun r M2 h => ?_)
  obtain ⟨v, rfl, rfl, R2, O2⟩ := h
  exact And.intro (fun _ => lwc_go hk X1 l1 C1 R2 O2) (fun hn => absurd rfl hn)
set_option maxRecDepth 100000 in
theorem lwc_13 (J : XC w M x T c) (R : RX M (x + 55) T) (hc : c + 1 < 1000000) (h1 : vp_in (i + 1) (gL G)) (h2 : vp_in (i + 2) (gL G)) (h3 : vp_in (i + 3) (gL G)) (hk : lwK G d x c i M Q) : At G (d + 32) 282 575 (lwL G x i) [] M Q := by
  refine vc ok282 343 38 ?_
  refine Or.inr ⟨rfl, h1, ?_⟩
  refine Or.inr ⟨rfl, h2, ?_⟩
  refine Or.inr ⟨rfl, h3, ?_⟩
  refine And.intro (Nat.le_of_ble_eq_true rfl) (And.intro (Nat.le_of_ble_eq_true rfl) (And.intro J.xa.1.1 ?_))
  refine Cl.mono (ka_weight (d := d) J hc) (fun r M1 h => ?_)
  obtain ⟨v, rfl, rfl, w1, c1, X1, l1, C1⟩ := h
  refine Or.inr ⟨rfl, h1, ?_⟩
  refine Or.inr ⟨rfl, h2, ?_⟩
  refine Or.inr ⟨rfl, h3, ?_⟩
  refine And.intro (Nat.le_of_ble_eq_true rfl) (And.intro (Nat.le_of_ble_eq_true rfl) (And.intro (R.cu C1).1.1 ?_))
  refine Cl.mono (ma_weight (d := d) (R.cu C1)) (fun r M2 h => ?_)
  obtain ⟨v, rfl, rfl, R2, O2⟩ := h
  exact And.intro (fun _ => lwc_go hk X1 l1 C1 R2 O2) (fun hn => absurd (lcmp_self _) hn)
set_option maxRecDepth 100000 in
theorem lwc_14 (J : XC w M x T c) (R : RX M (x + 55) T) (hc : c + 1 < 1000000) (h1 : vp_in (i + 1) (gL G)) (h2 : vp_in (i + 2) (gL G)) (h3 : vp_in (i + 3) (gL G)) (hk : lwK G d x c i M Q) : At G (d + 32) 282 619 (lwL G x i) [] M Q := by
  refine vc ok282 381 37 ?_
  refine Or.inr ⟨rfl, h1, ?_⟩
  refine Or.inr ⟨rfl, h2, ?_⟩
  refine Or.inr ⟨rfl, h3, ?_⟩
  refine And.intro (Nat.le_of_ble_eq_true rfl) (And.intro (Nat.le_of_ble_eq_true rfl) (And.intro J.xa.1.1 ?_))
  refine Cl.mono (ka_stands (d := d) J hc) (fun r M1 h => ?_)
  obtain ⟨v, rfl, rfl, w1, c1, X1, l1, C1⟩ := h
  refine Or.inr ⟨rfl, h1, ?_⟩
  refine Or.inr ⟨rfl, h2, ?_⟩
  refine Or.inr ⟨rfl, h3, ?_⟩
  refine And.intro (Nat.le_of_ble_eq_true rfl) (And.intro (Nat.le_of_ble_eq_true rfl) (And.intro (R.cu C1).1.1 ?_))
  refine Cl.mono (ma_stands (d := d) (R.cu C1)) (fun r M2 h => ?_)
  obtain ⟨v, rfl, rfl, R2, O2⟩ := h
  exact And.intro (fun _ => lwc_go hk X1 l1 C1 R2 O2) (fun hn => absurd rfl hn)
set_option maxRecDepth 100000 in
theorem lwc_15 (J : XC w M x T c) (R : RX M (x + 55) T) (hc : c + 1 < 1000000) (h1 : vp_in (i + 1) (gL G)) (h2 : vp_in (i + 2) (gL G)) (h3 : vp_in (i + 3) (gL G)) (hk : lwK G d x c i M Q) : At G (d + 32) 282 662 (lwL G x i) [] M Q := by
  refine vc ok282 418 37 ?_
  refine Or.inr ⟨rfl, h1, ?_⟩
  refine Or.inr ⟨rfl, h2, ?_⟩
  refine Or.inr ⟨rfl, h3, ?_⟩
  refine And.intro (Nat.le_of_ble_eq_true rfl) (And.intro (Nat.le_of_ble_eq_true rfl) (And.intro J.xa.1.1 ?_))
  refine Cl.mono (ka_falls (d := d) J hc) (fun r M1 h => ?_)
  obtain ⟨v, rfl, rfl, w1, c1, X1, l1, C1⟩ := h
  refine Or.inr ⟨rfl, h1, ?_⟩
  refine Or.inr ⟨rfl, h2, ?_⟩
  refine Or.inr ⟨rfl, h3, ?_⟩
  refine And.intro (Nat.le_of_ble_eq_true rfl) (And.intro (Nat.le_of_ble_eq_true rfl) (And.intro (R.cu C1).1.1 ?_))
  refine Cl.mono (ma_falls (d := d) (R.cu C1)) (fun r M2 h => ?_)
  obtain ⟨v, rfl, rfl, R2, O2⟩ := h
  exact And.intro (fun _ => lwc_go hk X1 l1 C1 R2 O2) (fun hn => absurd rfl hn)
set_option maxRecDepth 100000 in
theorem lwc_16 (J : XC w M x T c) (R : RX M (x + 55) T) (hc : c + 1 < 1000000) (h1 : vp_in (i + 1) (gL G)) (h2 : vp_in (i + 2) (gL G)) (hk : lwK G d x c i M Q) : At G (d + 32) 282 705 (lwL G x i) [] M Q := by
  refine vc ok282 455 27 ?_
  refine Or.inr ⟨rfl, h1, ?_⟩
  refine Or.inr ⟨rfl, h2, ?_⟩
  refine And.intro (Nat.le_of_ble_eq_true rfl) (And.intro (Nat.le_of_ble_eq_true rfl) (And.intro J.xa.1.1 ?_))
  refine Cl.mono (ka_many (d := d) J hc) (fun r M1 h => ?_)
  obtain ⟨v, rfl, rfl, w1, c1, X1, l1, C1⟩ := h
  refine Or.inr ⟨rfl, h1, ?_⟩
  refine Or.inr ⟨rfl, h2, ?_⟩
  refine And.intro (Nat.le_of_ble_eq_true rfl) (And.intro (Nat.le_of_ble_eq_true rfl) (And.intro (R.cu C1).1.1 ?_))
  refine Cl.mono (ma_many (d := d) (R.cu C1)) (fun r M2 h => ?_)
  obtain ⟨v, rfl, rfl, R2, O2⟩ := h
  exact And.intro (fun _ => lwc_go hk X1 l1 C1 R2 O2) (fun hn => absurd rfl hn)
set_option maxRecDepth 100000 in
theorem lwc_17 (J : XC w M x T c) (R : RX M (x + 55) T) (hc : c + 1 < 1000000) (h1 : vp_in (i + 1) (gL G)) (hk : lwK G d x c i M Q) : At G (d + 32) 282 738 (lwL G x i) [] M Q := by
  refine vc ok282 482 17 ?_
  refine Or.inr ⟨rfl, h1, ?_⟩
  refine And.intro (Nat.le_of_ble_eq_true rfl) (And.intro (Nat.le_of_ble_eq_true rfl) (And.intro J.xa.1.1 ?_))
  refine Cl.mono (ka_out (d := d) J hc) (fun r M1 h => ?_)
  obtain ⟨v, rfl, rfl, w1, c1, X1, l1, C1⟩ := h
  refine Or.inr ⟨rfl, h1, ?_⟩
  refine And.intro (Nat.le_of_ble_eq_true rfl) (And.intro (Nat.le_of_ble_eq_true rfl) (And.intro (R.cu C1).1.1 ?_))
  refine Cl.mono (ma_out (d := d) (R.cu C1)) (fun r M2 h => ?_)
  obtain ⟨v, rfl, rfl, R2, O2⟩ := h
  exact And.intro (fun _ => lwc_go hk X1 l1 C1 R2 O2) (fun hn => absurd rfl hn)
set_option maxRecDepth 100000 in
theorem lwc_18 (J : XC w M x T c) (R : RX M (x + 55) T) (hc : c + 1 < 1000000) (h1 : vp_in (i + 1) (gL G)) (h2 : vp_in (i + 2) (gL G)) (hk : lwK G d x c i M Q) : At G (d + 32) 282 761 (lwL G x i) [] M Q := by
  refine vc ok282 499 27 ?_
  refine Or.inr ⟨rfl, h1, ?_⟩
  refine Or.inr ⟨rfl, h2, ?_⟩
  refine And.intro (Nat.le_of_ble_eq_true rfl) (And.intro (Nat.le_of_ble_eq_true rfl) (And.intro J.xa.1.1 ?_))
  refine Cl.mono (ka_reads (d := d) J hc) (fun r M1 h => ?_)
  obtain ⟨v, rfl, rfl, w1, c1, X1, l1, C1⟩ := h
  refine Or.inr ⟨rfl, h1, ?_⟩
  refine Or.inr ⟨rfl, h2, ?_⟩
  refine And.intro (Nat.le_of_ble_eq_true rfl) (And.intro (Nat.le_of_ble_eq_true rfl) (And.intro (R.cu C1).1.1 ?_))
  refine Cl.mono (ma_reads (d := d) (R.cu C1)) (fun r M2 h => ?_)
  obtain ⟨v, rfl, rfl, R2, O2⟩ := h
  exact And.intro (fun _ => lwc_go hk X1 l1 C1 R2 O2) (fun hn => absurd rfl hn)
set_option maxRecDepth 100000 in
theorem lwc_19 (J : XC w M x T c) (R : RX M (x + 55) T) (hc : c + 1 < 1000000) (h1 : vp_in (i + 1) (gL G)) (h2 : vp_in (i + 2) (gL G)) (hk : lwK G d x c i M Q) : At G (d + 32) 282 794 (lwL G x i) [] M Q := by
  refine vc ok282 526 27 ?_
  refine Or.inr ⟨rfl, h1, ?_⟩
  refine Or.inr ⟨rfl, h2, ?_⟩
  refine And.intro (Nat.le_of_ble_eq_true rfl) (And.intro (Nat.le_of_ble_eq_true rfl) (And.intro J.xa.1.1 ?_))
  refine Cl.mono (ka_lines (d := d) J hc) (fun r M1 h => ?_)
  obtain ⟨v, rfl, rfl, w1, c1, X1, l1, C1⟩ := h
  refine Or.inr ⟨rfl, h1, ?_⟩
  refine Or.inr ⟨rfl, h2, ?_⟩
  refine And.intro (Nat.le_of_ble_eq_true rfl) (And.intro (Nat.le_of_ble_eq_true rfl) (And.intro (R.cu C1).1.1 ?_))
  refine Cl.mono (ma_lines (d := d) (R.cu C1)) (fun r M2 h => ?_)
  obtain ⟨v, rfl, rfl, R2, O2⟩ := h
  exact And.intro (fun _ => lwc_go hk X1 l1 C1 R2 O2) (fun hn => absurd rfl hn)
set_option maxRecDepth 100000 in
theorem lwc_20 (J : XC w M x T c) (R : RX M (x + 55) T) (hc : c + 1 < 1000000) (h1 : vp_in (i + 1) (gL G)) (h2 : vp_in (i + 2) (gL G)) (h3 : vp_in (i + 3) (gL G)) (h4 : vp_in (i + 4) (gL G)) (hk : lwK G d x c i M Q) : At G (d + 32) 282 827 (lwL G x i) [] M Q := by
  refine vc ok282 553 47 ?_
  refine Or.inr ⟨rfl, h1, ?_⟩
  refine Or.inr ⟨rfl, h2, ?_⟩
  refine Or.inr ⟨rfl, h3, ?_⟩
  refine Or.inr ⟨rfl, h4, ?_⟩
  refine And.intro (Nat.le_of_ble_eq_true rfl) (And.intro (Nat.le_of_ble_eq_true rfl) (And.intro J.xa.1.1 ?_))
  refine Cl.mono (ka_line (d := d) J hc) (fun r M1 h => ?_)
  obtain ⟨v, rfl, rfl, w1, c1, X1, l1, C1⟩ := h
  refine Or.inr ⟨rfl, h1, ?_⟩
  refine Or.inr ⟨rfl, h2, ?_⟩
  refine Or.inr ⟨rfl, h3, ?_⟩
  refine Or.inr ⟨rfl, h4, ?_⟩
  refine And.intro (Nat.le_of_ble_eq_true rfl) (And.intro (Nat.le_of_ble_eq_true rfl) (And.intro (R.cu C1).1.1 ?_))
  refine Cl.mono (ma_line (d := d) (R.cu C1)) (fun r M2 h => ?_)
  obtain ⟨v, rfl, rfl, R2, O2⟩ := h
  exact And.intro (fun _ => lwc_go hk X1 l1 C1 R2 O2) (fun hn => absurd rfl hn)
set_option maxRecDepth 100000 in
theorem lwc_21 (J : XC w M x T c) (R : RX M (x + 55) T) (hc : c + 1 < 1000000) (h1 : vp_in (i + 1) (gL G)) (h2 : vp_in (i + 2) (gL G)) (hk : lwK G d x c i M Q) : At G (d + 32) 282 880 (lwL G x i) [] M Q := by
  refine vc ok282 600 27 ?_
  refine Or.inr ⟨rfl, h1, ?_⟩
  refine Or.inr ⟨rfl, h2, ?_⟩
  refine And.intro (Nat.le_of_ble_eq_true rfl) (And.intro (Nat.le_of_ble_eq_true rfl) (And.intro J.xa.1.1 ?_))
  refine Cl.mono (ka_changed (d := d) J hc) (fun r M1 h => ?_)
  obtain ⟨v, rfl, rfl, w1, c1, X1, l1, C1⟩ := h
  refine Or.inr ⟨rfl, h1, ?_⟩
  refine Or.inr ⟨rfl, h2, ?_⟩
  refine And.intro (Nat.le_of_ble_eq_true rfl) (And.intro (Nat.le_of_ble_eq_true rfl) (And.intro (R.cu C1).1.1 ?_))
  refine Cl.mono (ma_changed (d := d) (R.cu C1)) (fun r M2 h => ?_)
  obtain ⟨v, rfl, rfl, R2, O2⟩ := h
  exact And.intro (fun _ => lwc_go hk X1 l1 C1 R2 O2) (fun hn => absurd rfl hn)
set_option maxRecDepth 100000 in
theorem lwc_22 (J : XC w M x T c) (R : RX M (x + 55) T) (hc : c + 1 < 1000000) (h1 : vp_in (i + 1) (gL G)) (h2 : vp_in (i + 2) (gL G)) (h3 : vp_in (i + 3) (gL G)) (hk : lwK G d x c i M Q) : At G (d + 32) 282 913 (lwL G x i) [] M Q := by
  refine vc ok282 627 37 ?_
  refine Or.inr ⟨rfl, h1, ?_⟩
  refine Or.inr ⟨rfl, h2, ?_⟩
  refine Or.inr ⟨rfl, h3, ?_⟩
  refine And.intro (Nat.le_of_ble_eq_true rfl) (And.intro (Nat.le_of_ble_eq_true rfl) (And.intro J.xa.1.1 ?_))
  refine Cl.mono (ka_run (d := d) J hc) (fun r M1 h => ?_)
  obtain ⟨v, rfl, rfl, w1, c1, X1, l1, C1⟩ := h
  refine Or.inr ⟨rfl, h1, ?_⟩
  refine Or.inr ⟨rfl, h2, ?_⟩
  refine Or.inr ⟨rfl, h3, ?_⟩
  refine And.intro (Nat.le_of_ble_eq_true rfl) (And.intro (Nat.le_of_ble_eq_true rfl) (And.intro (R.cu C1).1.1 ?_))
  refine Cl.mono (ma_run (d := d) (R.cu C1)) (fun r M2 h => ?_)
  obtain ⟨v, rfl, rfl, R2, O2⟩ := h
  exact And.intro (fun _ => lwc_go hk X1 l1 C1 R2 O2) (fun hn => absurd rfl hn)
set_option maxRecDepth 100000 in
theorem lwc_23 (J : XC w M x T c) (R : RX M (x + 55) T) (hc : c + 1 < 1000000) (h1 : vp_in (i + 1) (gL G)) (h2 : vp_in (i + 2) (gL G)) (hk : lwK G d x c i M Q) : At G (d + 32) 282 956 (lwL G x i) [] M Q := by
  refine vc ok282 664 27 ?_
  refine Or.inr ⟨rfl, h1, ?_⟩
  refine Or.inr ⟨rfl, h2, ?_⟩
  refine And.intro (Nat.le_of_ble_eq_true rfl) (And.intro (Nat.le_of_ble_eq_true rfl) (And.intro J.xa.1.1 ?_))
  refine Cl.mono (ka_costs (d := d) J hc) (fun r M1 h => ?_)
  obtain ⟨v, rfl, rfl, w1, c1, X1, l1, C1⟩ := h
  refine Or.inr ⟨rfl, h1, ?_⟩
  refine Or.inr ⟨rfl, h2, ?_⟩
  refine And.intro (Nat.le_of_ble_eq_true rfl) (And.intro (Nat.le_of_ble_eq_true rfl) (And.intro (R.cu C1).1.1 ?_))
  refine Cl.mono (ma_costs (d := d) (R.cu C1)) (fun r M2 h => ?_)
  obtain ⟨v, rfl, rfl, R2, O2⟩ := h
  exact And.intro (fun _ => lwc_go hk X1 l1 C1 R2 O2) (fun hn => absurd rfl hn)
set_option maxRecDepth 100000 in
theorem lwc_24 (J : XC w M x T c) (R : RX M (x + 55) T) (hc : c + 1 < 1000000) (h1 : vp_in (i + 1) (gL G)) (hk : lwK G d x c i M Q) : At G (d + 32) 282 989 (lwL G x i) [] M Q := by
  refine vc ok282 691 17 ?_
  refine Or.inr ⟨rfl, h1, ?_⟩
  refine And.intro (Nat.le_of_ble_eq_true rfl) (And.intro (Nat.le_of_ble_eq_true rfl) (And.intro J.xa.1.1 ?_))
  refine Cl.mono (ka_edit (d := d) J hc) (fun r M1 h => ?_)
  obtain ⟨v, rfl, rfl, w1, c1, X1, l1, C1⟩ := h
  refine Or.inr ⟨rfl, h1, ?_⟩
  refine And.intro (Nat.le_of_ble_eq_true rfl) (And.intro (Nat.le_of_ble_eq_true rfl) (And.intro (R.cu C1).1.1 ?_))
  refine Cl.mono (ma_edit (d := d) (R.cu C1)) (fun r M2 h => ?_)
  obtain ⟨v, rfl, rfl, R2, O2⟩ := h
  exact And.intro (fun _ => lwc_go hk X1 l1 C1 R2 O2) (fun hn => absurd rfl hn)
set_option maxRecDepth 100000 in
theorem lwc_25 (J : XC w M x T c) (R : RX M (x + 55) T) (hc : c + 1 < 1000000) (h1 : vp_in (i + 1) (gL G)) (hk : lwK G d x c i M Q) : At G (d + 32) 282 1012 (lwL G x i) [] M Q := by
  refine vc ok282 708 17 ?_
  refine Or.inr ⟨rfl, h1, ?_⟩
  refine And.intro (Nat.le_of_ble_eq_true rfl) (And.intro (Nat.le_of_ble_eq_true rfl) (And.intro J.xa.1.1 ?_))
  refine Cl.mono (ka_moved (d := d) J hc) (fun r M1 h => ?_)
  obtain ⟨v, rfl, rfl, w1, c1, X1, l1, C1⟩ := h
  refine Or.inr ⟨rfl, h1, ?_⟩
  refine And.intro (Nat.le_of_ble_eq_true rfl) (And.intro (Nat.le_of_ble_eq_true rfl) (And.intro (R.cu C1).1.1 ?_))
  refine Cl.mono (ma_moved (d := d) (R.cu C1)) (fun r M2 h => ?_)
  obtain ⟨v, rfl, rfl, R2, O2⟩ := h
  exact And.intro (fun _ => lwc_go hk X1 l1 C1 R2 O2) (fun hn => absurd rfl hn)
set_option maxRecDepth 100000 in
theorem lwc_26 (J : XC w M x T c) (R : RX M (x + 55) T) (hc : c + 1 < 1000000) (hk : lwK G d x c i M Q) : At G (d + 32) 282 1035 (lwL G x i) [] M Q := by
  refine vc ok282 725 7 ?_
  refine And.intro (Nat.le_of_ble_eq_true rfl) (And.intro (Nat.le_of_ble_eq_true rfl) (And.intro J.xa.1.1 ?_))
  refine Cl.mono (ka_fewest (d := d) J hc) (fun r M1 h => ?_)
  obtain ⟨v, rfl, rfl, w1, c1, X1, l1, C1⟩ := h
  refine And.intro (Nat.le_of_ble_eq_true rfl) (And.intro (Nat.le_of_ble_eq_true rfl) (And.intro (R.cu C1).1.1 ?_))
  refine Cl.mono (ma_fewest (d := d) (R.cu C1)) (fun r M2 h => ?_)
  obtain ⟨v, rfl, rfl, R2, O2⟩ := h
  exact And.intro (fun _ => lwc_go hk X1 l1 C1 R2 O2) (fun hn => absurd rfl hn)
set_option maxRecDepth 100000 in
theorem lwc_27 (J : XC w M x T c) (R : RX M (x + 55) T) (hc : c + 1 < 1000000) (h1 : vp_in (i + 1) (gL G)) (h2 : vp_in (i + 2) (gL G)) (h3 : vp_in (i + 3) (gL G)) (h4 : vp_in (i + 4) (gL G)) (hk : lwK G d x c i M Q) : At G (d + 32) 282 1048 (lwL G x i) [] M Q := by
  refine vc ok282 732 47 ?_
  refine Or.inr ⟨rfl, h1, ?_⟩
  refine Or.inr ⟨rfl, h2, ?_⟩
  refine Or.inr ⟨rfl, h3, ?_⟩
  refine Or.inr ⟨rfl, h4, ?_⟩
  refine And.intro (Nat.le_of_ble_eq_true rfl) (And.intro (Nat.le_of_ble_eq_true rfl) (And.intro J.xa.1.1 ?_))
  refine Cl.mono (ka_unseen (d := d) J hc) (fun r M1 h => ?_)
  obtain ⟨v, rfl, rfl, w1, c1, X1, l1, C1⟩ := h
  refine Or.inr ⟨rfl, h1, ?_⟩
  refine Or.inr ⟨rfl, h2, ?_⟩
  refine Or.inr ⟨rfl, h3, ?_⟩
  refine Or.inr ⟨rfl, h4, ?_⟩
  refine And.intro (Nat.le_of_ble_eq_true rfl) (And.intro (Nat.le_of_ble_eq_true rfl) (And.intro (R.cu C1).1.1 ?_))
  refine Cl.mono (ma_unseen (d := d) (R.cu C1)) (fun r M2 h => ?_)
  obtain ⟨v, rfl, rfl, R2, O2⟩ := h
  exact And.intro (fun _ => lwc_go hk X1 l1 C1 R2 O2) (fun hn => absurd rfl hn)
set_option maxRecDepth 100000 in
theorem lwc_28 (J : XC w M x T c) (R : RX M (x + 55) T) (hc : c + 1 < 1000000) (h1 : vp_in (i + 1) (gL G)) (h2 : vp_in (i + 2) (gL G)) (hk : lwK G d x c i M Q) : At G (d + 32) 282 1101 (lwL G x i) [] M Q := by
  refine vc ok282 779 27 ?_
  refine Or.inr ⟨rfl, h1, ?_⟩
  refine Or.inr ⟨rfl, h2, ?_⟩
  refine And.intro (Nat.le_of_ble_eq_true rfl) (And.intro (Nat.le_of_ble_eq_true rfl) (And.intro J.xa.1.1 ?_))
  refine Cl.mono (ka_rate (d := d) J hc) (fun r M1 h => ?_)
  obtain ⟨v, rfl, rfl, w1, c1, X1, l1, C1⟩ := h
  refine Or.inr ⟨rfl, h1, ?_⟩
  refine Or.inr ⟨rfl, h2, ?_⟩
  refine And.intro (Nat.le_of_ble_eq_true rfl) (And.intro (Nat.le_of_ble_eq_true rfl) (And.intro (R.cu C1).1.1 ?_))
  refine Cl.mono (ma_rate (d := d) (R.cu C1)) (fun r M2 h => ?_)
  obtain ⟨v, rfl, rfl, R2, O2⟩ := h
  exact And.intro (fun _ => lwc_go hk X1 l1 C1 R2 O2) (fun hn => absurd rfl hn)
set_option maxRecDepth 100000 in
theorem lwc_29 (J : XC w M x T c) (R : RX M (x + 55) T) (hc : c + 1 < 1000000) (h1 : vp_in (i + 1) (gL G)) (hk : lwK G d x c i M Q) : At G (d + 32) 282 1134 (lwL G x i) [] M Q := by
  refine vc ok282 806 17 ?_
  refine Or.inr ⟨rfl, h1, ?_⟩
  refine And.intro (Nat.le_of_ble_eq_true rfl) (And.intro (Nat.le_of_ble_eq_true rfl) (And.intro J.xa.1.1 ?_))
  refine Cl.mono (ka_count (d := d) J hc) (fun r M1 h => ?_)
  obtain ⟨v, rfl, rfl, w1, c1, X1, l1, C1⟩ := h
  refine Or.inr ⟨rfl, h1, ?_⟩
  refine And.intro (Nat.le_of_ble_eq_true rfl) (And.intro (Nat.le_of_ble_eq_true rfl) (And.intro (R.cu C1).1.1 ?_))
  refine Cl.mono (ma_count (d := d) (R.cu C1)) (fun r M2 h => ?_)
  obtain ⟨v, rfl, rfl, R2, O2⟩ := h
  exact And.intro (fun _ => lwc_go hk X1 l1 C1 R2 O2) (fun hn => absurd rfl hn)
set_option maxRecDepth 100000 in
theorem lwc_30 (J : XC w M x T c) (R : RX M (x + 55) T) (hc : c + 1 < 1000000) (h1 : vp_in (i + 1) (gL G)) (hk : lwK G d x c i M Q) : At G (d + 32) 282 1157 (lwL G x i) [] M Q := by
  refine vc ok282 823 17 ?_
  refine Or.inr ⟨rfl, h1, ?_⟩
  refine And.intro (Nat.le_of_ble_eq_true rfl) (And.intro (Nat.le_of_ble_eq_true rfl) (And.intro J.xa.1.1 ?_))
  refine Cl.mono (ka_image (d := d) J hc) (fun r M1 h => ?_)
  obtain ⟨v, rfl, rfl, w1, c1, X1, l1, C1⟩ := h
  refine Or.inr ⟨rfl, h1, ?_⟩
  refine And.intro (Nat.le_of_ble_eq_true rfl) (And.intro (Nat.le_of_ble_eq_true rfl) (And.intro (R.cu C1).1.1 ?_))
  refine Cl.mono (ma_image (d := d) (R.cu C1)) (fun r M2 h => ?_)
  obtain ⟨v, rfl, rfl, R2, O2⟩ := h
  exact And.intro (fun _ => lwc_go hk X1 l1 C1 R2 O2) (fun hn => absurd rfl hn)
set_option maxRecDepth 100000 in
theorem lwc_31 (J : XC w M x T c) (R : RX M (x + 55) T) (hc : c + 1 < 1000000) (h1 : vp_in (i + 1) (gL G)) (hk : lwK G d x c i M Q) : At G (d + 32) 282 1180 (lwL G x i) [] M Q := by
  refine vc ok282 840 17 ?_
  refine Or.inr ⟨rfl, h1, ?_⟩
  refine And.intro (Nat.le_of_ble_eq_true rfl) (And.intro (Nat.le_of_ble_eq_true rfl) (And.intro J.xa.1.1 ?_))
  refine Cl.mono (ka_back (d := d) J hc) (fun r M1 h => ?_)
  obtain ⟨v, rfl, rfl, w1, c1, X1, l1, C1⟩ := h
  refine Or.inr ⟨rfl, h1, ?_⟩
  refine And.intro (Nat.le_of_ble_eq_true rfl) (And.intro (Nat.le_of_ble_eq_true rfl) (And.intro (R.cu C1).1.1 ?_))
  refine Cl.mono (ma_back (d := d) (R.cu C1)) (fun r M2 h => ?_)
  obtain ⟨v, rfl, rfl, R2, O2⟩ := h
  exact And.intro (fun _ => lwc_go hk X1 l1 C1 R2 O2) (fun hn => absurd rfl hn)
end
