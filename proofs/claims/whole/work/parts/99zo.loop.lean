/-! THE LAW: its loop, its beginning -/
/-- the end: true; how much was made -/
def lwQ (G : GT) : Po := fun r M => r = some (.int 1) ∧ mN M ≤ g0 G + 20000 ∧ mS M ≤ 2000000
theorem lw_in {G : GT} {n j : Nat} (h : 6 * n + j < gL G) (hL : gL G ≤ 384) : vp_in (nI (6 * n) + nI j) (gL G) := by
  rw [nI_add]
  exact vp_in_nI h (by omega)
set_option maxRecDepth 100000 in
theorem lw_next {G : GT} {d x : Nat} {i j : Int32} {M : Mem} {Q : Po} (e : i + 6 = j) (h : At G (d + 32) 282 18 (lwL G x j) [] M Q) : At G (d + 32) 282 1203 (lwL G x i) [] M Q := by
  subst e
  refine vc ok282 857 2 ?_
  exact h
set_option maxRecDepth 100000 in
theorem lw_end {G : GT} {d : Nat} {ls : List (Nat × Value)} {M : Mem} {Q : Po} (h : Q (some (.int 1)) M) : At G (d + 32) 282 1209 ls [] M Q := by
  refine vc ok282 859 2 ?_
  exact And.intro (fun _ => Or.inr rfl) h
set_option maxRecDepth 100000 in
theorem lw_head {G : GT} {d x n c : Nat} {w : Nat → Nat} {M : Mem} {T : StT} {Q : Po} (hL : gL G ≤ 384) (J : XC w M x T c) (R : RX M (x + 55) T) (hc : c + 1 < 1000000) (he : Q (some (.int 1)) M) (hk : 6 * n + 6 ≤ gL G → lwK G d x c (nI (6 * n)) M Q) (hl : 6 * n ≤ gL G) : At G (d + 32) 282 18 (lwL G x (nI (6 * n))) [] M Q := by
  refine vc ok282 10 12 ?_
  refine Or.inr (And.intro rfl ?_)
  refine And.intro (fun h => lw_end he) (fun h => ?_)
  have hn : 6 * n + 6 ≤ gL G := by
    rcases Nat.lt_or_ge (gL G) (6 * n + 6) with z | z
    · exfalso
      apply h
      rw [Int32.lt_iff_toInt_lt, show (6 : Int32) = nI 6 from rfl, pk_sub_toInt (by omega) (by omega), nI_toIntN (by omega)]
      omega
    · exact z
  replace hk := hk hn
  have h0 : vp_in (nI (6 * n)) (gL G) := vp_in_nI (by omega) (by omega)
  have h1 : vp_in (nI (6 * n) + 1) (gL G) := lw_in (j := 1) (by omega) hL
  have h2 : vp_in (nI (6 * n) + 2) (gL G) := lw_in (j := 2) (by omega) hL
  have h3 : vp_in (nI (6 * n) + 3) (gL G) := lw_in (j := 3) (by omega) hL
  have h4 : vp_in (nI (6 * n) + 4) (gL G) := lw_in (j := 4) (by omega) hL
  have h5 : vp_in (nI (6 * n) + 5) (gL G) := lw_in (j := 5) (by omega) hL
  refine Or.inr (And.intro rfl (And.intro h0 ?_))
  refine And.intro (fun _ => hk M T w c J R (by omega) (by omega) (by omega)) ?_
  refine And.intro (fun _ => lwc_0 J R hc h1 h2 h3 h4 h5 hk) ?_
  refine And.intro (fun _ => lwc_1 J R hc h1 hk) ?_
  refine And.intro (fun _ => lwc_2 J R hc hk) ?_
  refine And.intro (fun _ => lwc_3 J R hc hk) ?_
  refine And.intro (fun _ => lwc_4 J R hc h1 hk) ?_
  refine And.intro (fun _ => lwc_5 J R hc h1 hk) ?_
  refine And.intro (fun _ => lwc_6 J R hc hk) ?_
  refine And.intro (fun _ => lwc_7 J R hc h1 h2 hk) ?_
  refine And.intro (fun _ => lwc_8 J R hc h1 h2 hk) ?_
  refine And.intro (fun _ => lwc_9 J R hc h1 h2 h3 hk) ?_
  refine And.intro (fun _ => lwc_10 J R hc h1 h2 h3 hk) ?_
  refine And.intro (fun _ => lwc_11 J R hc h1 h2 h3 h4 hk) ?_
  refine And.intro (fun _ => lwc_12 J R hc h1 hk) ?_
  refine And.intro (fun _ => lwc_13 J R hc h1 h2 h3 hk) ?_
  refine And.intro (fun _ => lwc_14 J R hc h1 h2 h3 hk) ?_
  refine And.intro (fun _ => lwc_15 J R hc h1 h2 h3 hk) ?_
  refine And.intro (fun _ => lwc_16 J R hc h1 h2 hk) ?_
  refine And.intro (fun _ => lwc_17 J R hc h1 hk) ?_
  refine And.intro (fun _ => lwc_18 J R hc h1 h2 hk) ?_
  refine And.intro (fun _ => lwc_19 J R hc h1 h2 hk) ?_
  refine And.intro (fun _ => lwc_20 J R hc h1 h2 h3 h4 hk) ?_
  refine And.intro (fun _ => lwc_21 J R hc h1 h2 hk) ?_
  refine And.intro (fun _ => lwc_22 J R hc h1 h2 h3 hk) ?_
  refine And.intro (fun _ => lwc_23 J R hc h1 h2 hk) ?_
  refine And.intro (fun _ => lwc_24 J R hc h1 hk) ?_
  refine And.intro (fun _ => lwc_25 J R hc h1 hk) ?_
  refine And.intro (fun _ => lwc_26 J R hc hk) ?_
  refine And.intro (fun _ => lwc_27 J R hc h1 h2 h3 h4 hk) ?_
  refine And.intro (fun _ => lwc_28 J R hc h1 h2 hk) ?_
  refine And.intro (fun _ => lwc_29 J R hc h1 hk) ?_
  refine And.intro (fun _ => lwc_30 J R hc h1 hk) ?_
  refine And.intro (fun _ => lwc_31 J R hc h1 hk) ?_
  exact trivial
set_option maxRecDepth 100000 in
theorem lw_loop {G : GT} {d : Nat} (hL : gL G ≤ 384) : ∀ (r n c : Nat) (w : Nat → Nat) (M : Mem) (T : StT), n + r = 65 → 6 * n ≤ gL G → XC w M (g0 G) T c → RX M (g0 G + 55) T → c ≤ n → mN M ≤ g0 G + 101 + 100 * n → mS M ≤ 200000 + 10000 * n → At G (d + 32) 282 18 (lwL G (g0 G) (nI (6 * n))) [] M (lwQ G)
  | 0, n, c, w, M, T, h, hl, J, R, hc, hN, hS => by omega
  | r + 1, n, c, w, M, T, h, hl, J, R, hc, hN, hS => by
    refine lw_head hL J R (by omega) ⟨rfl, by omega, by omega⟩ (fun hn M' T' w' c' J' R' hc' hN' hS' => ?_) hl
    exact lw_next (j := nI (6 * (n + 1))) (nI_add (6 * n) 6) (lw_loop hL r (n + 1) c' w' M' T' (by omega) (by omega) J' R' (by omega) (by omega) (by omega))
/-- nothing is made yet -/
def Me (G : GT) : Mem := (g0 G, 0, fun _ => 0, fun _ => 0, fun _ _ => 0, fun _ _ => 0, fun _ _ => none)
theorem Me_fr {G : GT} : frM (Me G) := fun _ _ => rfl
set_option maxRecDepth 100000 in
theorem lw_all {G : GT} {d : Nat} (hL : gL G ≤ 384) : At G (d + 32) 282 0 [(0, .ref (gb G))] [] (Me G) (lwQ G) := by
  refine vc ok282 0 10 ?_
  refine And.intro (Nat.le_of_ble_eq_true rfl) (And.intro (Nat.le_of_ble_eq_true rfl) ?_)
  have O0 : mK (mnew (Me G) 12 16) (g0 G) = 12 := by rw [mK_mnew, if_pos (show g0 G = mN (Me G) from rfl)]
  have z0 : vi (mnew (Me G) 12 16) (g0 G) = (fun _ => 0) := by rw [vi_mnew, if_pos (show g0 G = mN (Me G) from rfl)]
  refine Cl.mono (ki_X11 (d := d + 28) (Q := fun M1 => Xn (g0 G) M1 ∧ mS M1 ≤ 20016) O0 (fr_mnew Me_fr) rfl z0 (fun M' h1 h2 h3 => ⟨h1, by have h4 : mS M' ≤ 0 + 16 + 20000 := h2; omega⟩)) (fun r M1 h => ?_)
  obtain ⟨rfl, hX, hS⟩ := h
  have n1 : mN M1 = g0 G + 55 := hX.2.2.1
  have O1 : mK (mnew M1 13 68) (mN M1) = 13 := by rw [mK_mnew, if_pos rfl]
  refine And.intro (Nat.le_of_ble_eq_true rfl) (And.intro (Nat.le_of_ble_eq_true rfl) ?_)
  refine Cl.mono (ki_X12 (d := d + 30) (o := mN M1) (Q := fun M2 => M2 = bld (mN M1) l_X12 (mnew M1 13 68)) O1 (fr_mnew hX.2.1) (by rw [mN_mnew]; omega) rfl) (fun r M2 h => ?_)
  obtain ⟨rfl, e2⟩ := h
  obtain ⟨R, kp, F2, N2, S2⟩ := rx0 hX.2.1 rfl e2
  have J := xc0 hX kp F2 N2
  rw [n1] at R
  have sz : sumN l_X12 ≤ 100000 := by decide
  have := lw_loop (d := d) hL 65 0 0 (w0 (g0 G)) M2 T0 (by omega) (by omega) J R (by omega) (by omega) (by omega)
  rw [n1]
  exact this
