/-! READING THE TAPE: runs of bytes, words; the reference -/
noncomputable def runF (P : Nat → Prop) : Nat → Nat → Nat
  | 0, _ => 0
  | f + 1, p => cif (P p) (runF P f (p + 1) + 1) 0
/-- how many from p on, below n -/
noncomputable def run (P : Nat → Prop) (p n : Nat) : Nat := runF P (n - p) p
theorem run_y {P : Nat → Prop} {p n : Nat} (h : p < n) (hP : P p) : run P p n = run P (p + 1) n + 1 := by
  unfold run
  rw [show n - p = (n - (p + 1)) + 1 by omega]
  show cif (P p) (runF P (n - (p + 1)) (p + 1) + 1) 0 = _
  rw [cif_T hP]
theorem run_n {P : Nat → Prop} {p n : Nat} (h : ¬ (p < n ∧ P p)) : run P p n = 0 := by
  unfold run
  rcases Nat.lt_or_ge p n with z | z
  · rw [show n - p = (n - (p + 1)) + 1 by omega]
    show cif (P p) _ 0 = _
    rw [cif_F (fun y => h ⟨z, y⟩)]
  · rw [show n - p = 0 by omega]; rfl
theorem run_le (P : Nat → Prop) (n : Nat) : ∀ k p, n - p = k → p + run P p n ≤ n ∨ run P p n = 0
  | 0, p, h => Or.inr (run_n (fun z => by omega))
  | k + 1, p, h => by
    by_cases c : P p
    · rw [run_y (by omega) c]
      rcases run_le P n k (p + 1) (by omega) with z | z
      · exact Or.inl (by omega)
      · exact Or.inl (by omega)
    · exact Or.inr (run_n (fun z => c z.2))
theorem run_le' {P : Nat → Prop} {p n : Nat} (h : p ≤ n) : p + run P p n ≤ n := by
  rcases run_le P n (n - p) p rfl with z | z <;> omega
theorem run_in {P : Nat → Prop} {n : Nat} : ∀ k p, n - p = k → ∀ i, i < run P p n → P (p + i)
  | 0, p, h, i, hi => by rw [run_n (fun z => by omega)] at hi; omega
  | k + 1, p, h, i, hi => by
    by_cases c : P p
    · rw [run_y (by omega) c] at hi
      rcases i with _ | i
      · exact c
      · have := run_in (P := P) (n := n) k (p + 1) (by omega) i (by omega)
        rw [show p + (i + 1) = p + 1 + i by omega]
        exact this
    · rw [run_n (fun z => c z.2)] at hi; omega
theorem run_end {P : Nat → Prop} {n : Nat} : ∀ k p, n - p = k → ¬ (p + run P p n < n ∧ P (p + run P p n))
  | 0, p, h => fun z => by omega
  | k + 1, p, h => by
    by_cases c : P p
    · rw [run_y (by omega) c]
      have := run_end (P := P) (n := n) k (p + 1) (by omega)
      rw [show p + (run P (p + 1) n + 1) = p + 1 + run P (p + 1) n by omega]
      exact this
    · rw [run_n (fun z => c z.2)]
      exact fun z => c z.2
abbrev TpT : Type := Nat × (Nat → Int32)
/-- behind the blanks -/
noncomputable def skB (t : TpT) (p : Nat) : Nat := p + run (fun i => t.2 i = 32) p t.1
noncomputable def wl (t : TpT) (p : Nat) : Nat := run (fun i => isS (t.2 i)) p t.1
def isD (c : Int32) : Prop := 48 ≤ c.toInt ∧ c.toInt ≤ 57
noncomputable def dl (t : TpT) (p : Nat) : Nat := run (fun i => isD (t.2 i)) p t.1
noncomputable def wAt (t : TpT) (p : Nat) : List Int32 := (List.range (wl t p)).map (fun i => t.2 (p + i))
theorem skB_le {t : TpT} {p : Nat} (h : p ≤ t.1) : p ≤ skB t p ∧ skB t p ≤ t.1 := ⟨Nat.le_add_right _ _, run_le' h⟩
theorem skB_y {t : TpT} {p : Nat} (h : p < t.1) (h2 : t.2 p = 32) : skB t p = skB t (p + 1) := by
  unfold skB
  rw [run_y (P := fun i => t.2 i = 32) h h2]
  omega
theorem skB_n {t : TpT} {p : Nat} (h : ¬ (p < t.1 ∧ t.2 p = 32)) : skB t p = p := by
  unfold skB
  rw [run_n (P := fun i => t.2 i = 32) h]
  rfl
theorem skB_end (t : TpT) (p : Nat) : ¬ (skB t p < t.1 ∧ t.2 (skB t p) = 32) := run_end (P := fun i => t.2 i = 32) _ p rfl
theorem skB_id (t : TpT) (p : Nat) : skB t (skB t p) = skB t p := skB_n (skB_end t p)
/-- what stands at a place: the byte, or -1 -/
noncomputable def pk (t : TpT) (p : Nat) : Int32 := cif (p < t.1) (t.2 p) (-1)
/-- a FAULT -/
def flt (p c : Nat) : Nat := 1 + 8 * p + c
/-- a byte as the reference holds it -/
theorem sb_cmp8 {c : Int32} (h : 0 ≤ c.toInt ∧ c.toInt ≤ 255) : c.toInt8.toInt32.toInt = if c.toInt < 128 then c.toInt else c.toInt - 256 := by
  rw [Int8.toInt_toInt32, Int32.toInt_toInt8]
  by_cases z : c.toInt < 128
  · rw [if_pos z]; exact Int.bmod_eq_of_le (by omega) (by omega)
  · rw [if_neg z]
    have e : c.toInt.bmod (2 ^ 8) = (c.toInt - 256).bmod (2 ^ 8) := bmod8 (by omega)
    rw [e]; exact Int.bmod_eq_of_le (by omega) (by omega)
theorem sb_inj {c e : Int32} (h : 0 ≤ c.toInt ∧ c.toInt ≤ 255) (h2 : 0 ≤ e.toInt ∧ e.toInt ≤ 127) : c.toInt8.toInt32 = e ↔ c = e := by
  rw [fa_eq, sb_cmp8 h, fa_eq]
  by_cases z : c.toInt < 128
  · rw [if_pos z]
  · rw [if_neg z]; omega
section
variable {G : GT} {d : Nat} {M : Mem} {m p : Nat} {T : StT}
theorem s_sign {Q : Int32 → Mem → Prop} (W : RX M m T) (hp : vi M m 14 = nI p) (p4 : p < 1000) (hq : Q (pk T.1 p) M) : CI G (d + 1) 174 [.ref m] M Q := by
  have t4 := W.t4
  have e1 : T.1.1 = tN T := rfl
  refine r_sign W.1 ?_
  rw [W.t, hp, le_I (by omega) (by omega)]
  unfold pk at hq
  refine ⟨fun c => ?_, fun c => ⟨vp_in_nI (by omega) (by omega), ?_⟩⟩
  · rw [cif_F (by omega)] at hq
    exact hq
  · rw [cif_T (show p < T.1.1 by omega)] at hq
    rw [nI_clamp (by omega), W.tb (by omega), and255 (W.tk (by omega))]
    exact hq
theorem pk_32 {t : TpT} {p : Nat} : pk t p = 32 ↔ p < t.1 ∧ t.2 p = 32 := by
  unfold pk
  by_cases c : p < t.1
  · rw [cif_T c]; exact ⟨fun h => ⟨c, h⟩, fun h => h.2⟩
  · rw [cif_F c]; exact ⟨fun h => absurd h (by decide), fun h => absurd h.1 c⟩
theorem s_blanks {Q : Mem → Prop} (W : RX M m T) (hp : vi M m 14 = nI p) (p4 : p < 1000) (hq : ∀ M', Frl m [14] [] M M' → vi M' m 14 = nI (skB T.1 p) → Q M') : CV G (d + 2) 175 [.ref m] M Q := by
  have t4 : T.1.1 ≤ 400 := W.t4
  have key : ∀ (n p : Nat) (M1 : Mem), T.1.1 - p = n → p < 1000 → Frl m [14] [] M M1 → vi M1 m 14 = nI p → (∀ M', Frl m [14] [] M M' → vi M' m 14 = nI (skB T.1 p) → Q M') → At G (d + 2) 175 0 [(0, .ref m)] [] M1 (qV Q) := by
    intro n
    induction n with
    | zero => 
      intro p M1 h1 h2 f h3 hq
      refine r_blanks_0 (f.ra W.1) (s_sign (W.fr f (fun o ho => by simp <;> omega) (by decide)) h3 h2 ⟨f.ra W.1, fun _ => ?_, fun c => absurd (pk_32.mp c).1 (by omega)⟩)
      refine hq M1 f ?_
      rw [h3, skB_n (fun z => by omega)]
    | succ n ih => 
      intro p M1 h1 h2 f h3 hq
      refine r_blanks_0 (f.ra W.1) (s_sign (W.fr f (fun o ho => by simp <;> omega) (by decide)) h3 h2 ⟨f.ra W.1, fun c => ?_, fun c => ?_⟩)
      · refine hq M1 f ?_
        rw [h3, skB_n (fun z => c (pk_32.mpr z))]
      · intro M2 e2
        rw [h3, nI_1] at e2
        have z := pk_32.mp c
        refine ih (p + 1) M2 (by omega) (by omega) ?_ ?_ (fun M' f' h' => hq M' f' ?_)
        · rw [e2]; exact f.trans (Frl.sf (by decide))
        · rw [e2, vi_seti, if_pos ⟨rfl, rfl⟩]
        · rw [h', skB_y z.1 z.2]
  refine r_blanks W.1 (s_sign W hp p4 ⟨W.1, fun c => ?_, fun c => ?_⟩)
  · refine hq M Frl.refl ?_
    rw [hp, skB_n (fun z => c (pk_32.mpr z))]
  · intro M2 e2
    rw [hp, nI_1] at e2
    have z := pk_32.mp c
    refine key (T.1.1 - (p + 1)) (p + 1) M2 rfl (by omega) ?_ ?_ (fun M' f' h' => hq M' f' ?_)
    · rw [e2]; exact Frl.sf (by decide)
    · rw [e2, vi_seti, if_pos ⟨rfl, rfl⟩]
    · rw [h', skB_y z.1 z.2]
theorem s_isDigit {Q : Int32 → Mem → Prop} (W : RX M m T) (hp : vi M m 14 = nI p) (p4 : p < 1000) (hq : Q (bI (p < T.1.1 ∧ isD (T.1.2 p))) M) : CI G (d + 2) 176 [.ref m] M Q := by
  refine r_isDigit W.1 (s_sign W hp p4 ⟨W.1, s_in (p < T.1.1 ∧ isD (T.1.2 p)) ?_ ⟨W.1, b01 hq⟩⟩)
  rw [Int32.toInt_toInt64, ll_48, ll_57]
  unfold pk isD
  by_cases c : p < T.1.1
  · rw [cif_T c]; exact ⟨fun h => ⟨c, h⟩, fun h => h.2⟩
  · rw [cif_F c, show (-1 : Int32).toInt = -1 from rfl]
    exact ⟨fun h => by omega, fun h => absurd h.1 c⟩
/-- fails: the first FAULT stays -/
theorem s_fails {c q f : Nat} {Q : Mem → Prop} (R : RefAt M m) (hf : vi M m 15 = nI f) (f4 : f < 100000) (hq4 : q < 1000) (hc4 : c < 8) (hq : ∀ M', Frl m [15] [] M M' → vi M' m 15 = nI (if f = 0 then flt q c else f) → Q M') : CV G (d + 1) 173 [.ref m, .int (nI c), .int (nI q)] M Q := by
  refine r_fails R ?_
  rw [hf, il_0, eq_I (by omega) (by omega)]
  refine ⟨fun z => ?_, fun z => ?_⟩
  · intro M1 e1
    refine hq M1 (by rw [e1]; exact Frl.sf (by decide)) ?_
    rw [e1, vi_seti, if_pos ⟨rfl, rfl⟩, if_neg z]
  · intro M1 e1
    refine hq M1 (by rw [e1]; exact Frl.sf (by decide)) ?_
    rw [e1, vi_seti, if_pos ⟨rfl, rfl⟩, if_pos z, show (8 : Int32) = nI 8 from rfl, pk_mul, show (1 : Int32) = nI 1 from rfl, nI_add, nI_add]
    rfl
theorem wAt_len (t : TpT) (p : Nat) : (wAt t p).length = wl t p := by simp [wAt]
theorem wAt_get {t : TpT} {p i : Nat} (h : i < wl t p) : (wAt t p).getD i 0 = t.2 (p + i) := by
  unfold wAt
  rw [List.getD_eq_getElem?_getD, List.getElem?_map, List.getElem?_range h]
  rfl
theorem s_isAt {i : Nat} {Q : Int32 → Mem → Prop} (W : RX M m T) (hi : i < 27) (hp : vi M m 14 = nI p) (p4 : p ≤ T.1.1) (hq : Q (bI (wAt T.1 p = strB.getD i [])) M) : CI G (d + 5) 177 [.ref m, .ref (gk G i)] M Q := by
  have t4 : T.1.1 ≤ 400 := W.t4
  have sl := strB_len i hi
  have cmp : wl T.1 p = (strB.getD i []).length → ∀ (n k : Nat), n + k = (strB.getD i []).length → (∀ j, j < k → T.1.2 (p + j) = (strB.getD i []).getD j 0) → At G (d + 5) 177 63 [(0, .ref m), (1, .ref (gk G i)), (3, .int 1), (4, .int (nI k))] [] M (qI Q) := by
    intro hl n
    induction n with
    | zero => 
      intro k h1 h2
      refine r_isAt_63 W.1 hi (s_length hi ⟨W.1, fun _ => qT2 hq ?_, fun c => absurd (nI_le (by omega) (by omega)) c⟩)
      refine getD_eq (by rw [wAt_len]; exact hl) (fun j hj => ?_)
      rw [wAt_len] at hj
      rw [wAt_get hj]
      exact h2 j (by omega)
    | succ n ih => 
      intro k h1 h2
      have lp := run_le' (P := fun i => isS (T.1.2 i)) p4
      have lp2 : p + wl T.1 p ≤ T.1.1 := lp
      refine r_isAt_63 W.1 hi (s_length hi ⟨W.1, fun c => absurd c (nI_ge (by omega) (by omega)), fun _ => ⟨fun c => absurd c (by decide), fun _ => ?_⟩⟩)
      rw [hp, nI_add, nI_1]
      refine ⟨vp_in_nI (by omega) (by omega), s_charAt hi (by omega) ⟨W.1, ?_⟩⟩
      have tk := W.tk (k := p + k) (show p + k < T.1.1 by omega)
      have sI : 0 ≤ ((strB.getD i []).getD k 0).toInt ∧ ((strB.getD i []).getD k 0).toInt ≤ 127 := by
        have key : ∀ i, i < 27 → ∀ j, j < (strB.getD i []).length → 0 ≤ ((strB.getD i []).getD j 0).toInt ∧ ((strB.getD i []).getD j 0).toInt ≤ 127 := by decide +kernel
        exact key i hi k (by omega)
      rw [nI_clamp (by omega), W.tb (show p + k < T.1.1 by omega), sb_inj tk sI]
      refine ⟨fun c => ?_, fun c => ih (k + 1) (by omega) (fun j hj => ?_)⟩
      · have ne : ¬ wAt T.1 p = strB.getD i [] := fun e => c (by rw [← e, wAt_get (by omega)]; rfl)
        refine r_isAt_63 W.1 hi (s_length hi ⟨W.1, fun _ => qF2 hq ne, fun _ => ⟨fun _ => qF2 hq ne, fun c => absurd rfl c⟩⟩)
      · rcases Nat.lt_or_ge j k with z | z
        · exact h2 j z
        · rw [show j = k by omega]; exact c
  have fin : ∀ e, e = p + wl T.1 p → CI G (d + 4) 275 [.ref (gk G i)] M (fun v2 M1 => RefAt M1 m ∧ ((¬ (nI e - vi M m 14) = v2 → At G (d + 5) 177 63 [(0, .ref m), (1, .ref (gk G i)), (3, .int 0), (4, .int 0)] [] M1 (qI Q)) ∧ ((nI e - vi M m 14) = v2 → At G (d + 5) 177 63 [(0, .ref m), (1, .ref (gk G i)), (3, .int 1), (4, .int 0)] [] M1 (qI Q)))) := by
    intro e he
    have lp : p + wl T.1 p ≤ T.1.1 := run_le' (P := fun i => isS (T.1.2 i)) p4
    refine s_length hi ⟨W.1, ?_⟩
    rw [hp, pk_sub (by omega), eq_I (by omega) (by omega)]
    refine ⟨fun c => ?_, fun c => cmp (by omega) _ 0 rfl (fun j hj => absurd hj (by omega))⟩
    have ne : ¬ wAt T.1 p = strB.getD i [] := fun z => c (by rw [← z, wAt_len]; omega)
    exact r_isAt_63 W.1 hi (s_length hi ⟨W.1, fun _ => qF2 hq ne, fun _ => ⟨fun _ => qF2 hq ne, fun c => absurd rfl c⟩⟩)
  refine r_isAt W.1 hi ?_
  have key : ∀ (n e : Nat), T.1.1 - e = n → e ≤ T.1.1 → p + wl T.1 p = e + run (fun i => isS (T.1.2 i)) e T.1.1 → At G (d + 5) 177 5 [(0, .ref m), (1, .ref (gk G i)), (2, .int (nI e))] [] M (qI Q) := by
    intro n
    induction n with
    | zero => 
      intro e h1 h2 h3
      refine r_isAt_5 W.1 hi ⟨fun _ => fin e ?_, fun c => absurd (by rw [W.t]; exact nI_le (show tN T ≤ e from (by have : tN T = T.1.1 := rfl; omega)) (by omega)) c⟩
      rw [h3, run_n (fun z => by omega)]; rfl
    | succ n ih => 
      intro e h1 h2 h3
      have he : e < tN T := show e < T.1.1 by omega
      have t5 : tN T ≤ 400 := t4
      have tk := W.tk he
      refine r_isAt_5 W.1 hi ?_
      rw [W.t, nI_clamp (by omega), W.tb he, fa_lt _ 97, fa_lt 122, sb_cmp8 tk, show (97 : Int32).toInt = 97 from rfl, show (122 : Int32).toInt = 122 from rfl, nI_1]
      have ns : ¬ isS (tB T e) → e = p + wl T.1 p := fun z => by
        rw [h3, run_n (P := fun i => isS (T.1.2 i)) (fun y => z y.2)]; rfl
      have v4 : vp_in (nI e) 400 := vp_in_nI (by omega) (by omega)
      refine ⟨fun c => absurd c (nI_ge he (by omega)), fun _ => ⟨v4, fun c => fin e (ns (fun z => ?_)), fun c => ⟨v4, fun c2 => fin e (ns (fun z => ?_)), fun c2 => ih (e + 1) (by omega) (by omega) ?_⟩⟩⟩
      · have := z.1; have := z.2; rw [if_pos (by omega)] at c; omega
      · have := z.1; have := z.2; rw [if_pos (by omega)] at c2; omega
      · have hs : isS (T.1.2 e) := by
          show 97 ≤ (tB T e).toInt ∧ (tB T e).toInt ≤ 122
          by_cases z : (tB T e).toInt < 128
          · rw [if_pos z] at c c2; omega
          · rw [if_neg z] at c c2; omega
        rw [h3, run_y (P := fun i => isS (T.1.2 i)) (show e < T.1.1 from he) hs]; omega
  rw [hp]
  exact key (T.1.1 - p) p rfl p4 rfl
end
