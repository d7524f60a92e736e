/-! EDIT: the reference -/
def oI : Option Nat → Int32
  | none => -1
  | some t => nI t
def eb (M : Mem) (m : Nat) (b : List Int32) : Prop := vi M m 57 = nI b.length ∧ ∀ i, i < b.length → vi M (m + 41) i = b.getD i 0
def eT (M : Mem) (m : Nat) (S : ShT) (b : List Int32) (i j : Nat) : Prop := vi M (m + 40) (201 * i + j) = nI (edL S (b.drop i) ((wL' S).drop j))
section
variable {G : GT} {d : Nat} {M M' : Mem} {m : Nat} {T : StT} {S : ShT} {b : List Int32} {i j s : Nat}
theorem eb.fr (h : eb M m b) {F L : List Nat} (g : Frl m F L M M') (h1 : 57 ∉ F) (h0 : 0 ∉ L) (h3 : 41 ∉ L) : eb M' m b := ⟨by rw [g.f h1 h0]; exact h.1, fun i hi => by rw [g.i h3 (by decide)]; exact h.2 i hi⟩
theorem dr_c {l : List Int32} {i : Nat} (h : i < l.length) : l.drop i = l.getD i 0 :: l.drop (i + 1) := by
  rw [List.drop_eq_getElem_cons h]
  congr 1
  rw [List.getD_eq_getElem?_getD, List.getElem?_eq_getElem h]; rfl
theorem dr_n {l : List Int32} {i : Nat} (h : l.length ≤ i) : l.drop i = [] := List.drop_eq_nil_iff.mpr h
theorem dr_w {j : Nat} (h : j < wN S) : (wL' S).drop j = wB S j :: (wL' S).drop (j + 1) := by rw [dr_c (by rw [wL_len]; exact h), wL_get h]
theorem v_i {k n : Nat} (h : k < n) (h2 : n < 100000) : vp_in (nI k) n := vp_in_nI h (by omega)
theorem s_stepCost {Q : Int32 → Mem → Prop} (R : RS M m S) (B : eb M m b) (b2 : b.length ≤ 200) (hs : s < 5) (hi : i ≤ b.length) (hj : j ≤ wN S) (hq : Q (oI (scL S s (b.drop i) ((wL' S).drop j))) M) : CI G (d + 3) 252 [.ref m, .int (nI s), .int (nI i), .int (nI j)] M Q := by
  have V := R.2.1
  have w2 := V.w
  have e1 : vi M (m + 1) (1 : Int32).toNatClampNeg = nI (wN S) := R.2.2.w
  have k0 : vi M (m + 6) (0 : Int32).toNatClampNeg = nI (kc S 0) := by rw [← (kc_9 V (k := 0) (by decide)).2]; exact R.2.2.k (by decide)
  have k1 : vi M (m + 6) (1 : Int32).toNatClampNeg = nI (kc S 1) := by rw [← (kc_9 V (k := 1) (by decide)).2]; exact R.2.2.k (by decide)
  have k2 : vi M (m + 6) (2 : Int32).toNatClampNeg = nI (kc S 2) := by rw [← (kc_9 V (k := 2) (by decide)).2]; exact R.2.2.k (by decide)
  have k3 : vi M (m + 6) (3 : Int32).toNatClampNeg = nI (kc S 3) := by rw [← (kc_9 V (k := 3) (by decide)).2]; exact R.2.2.k (by decide)
  have v13' : vp_in (1 : Int32) 3 := v_i (k := 1) (by decide) (by decide)
  have v07 : vp_in (0 : Int32) 7 := v_i (k := 0) (by decide) (by decide)
  have v17 : vp_in (1 : Int32) 7 := v_i (k := 1) (by decide) (by decide)
  have v27 : vp_in (2 : Int32) 7 := v_i (k := 2) (by decide) (by decide)
  have v37 : vp_in (3 : Int32) 7 := v_i (k := 3) (by decide) (by decide)
  -- one of the two is at its end
  have nob : ¬ (i < b.length ∧ j < wN S) → At G (d + 3) 252 23 [(0, .ref m), (1, .int (nI s)), (2, .int (nI i)), (3, .int (nI j))] [.int (0 : Int32)] M (qI Q) := fun no => by
    refine r_stepCost_23 R.1 ?_
    rw [nI_toIntN (by omega), e1, B.1, le_I (by omega) (by omega), le_I (by omega) (by omega), k0, k1]
    have sN : s ≠ 1 → s ≠ 2 → Q (-1) M := fun h1 h2 => by
      by_cases ci : i < b.length
      · rw [dr_c ci, dr_n (l := wL' S) (by rw [wL_len]; omega)] at hq
        have hq : Q (oI (if s = 1 then some (kc S 1) else none)) M := hq
        rw [if_neg h1] at hq; exact hq
      · rw [dr_n (l := b) (by omega)] at hq
        by_cases cj : j < wN S
        · rw [dr_w cj] at hq
          have hq : Q (oI (if s = 2 then some (kc S 0) else none)) M := hq
          rw [if_neg h2] at hq; exact hq
        · rw [dr_n (l := wL' S) (by rw [wL_len]; omega)] at hq; exact hq
    refine ⟨fun z => ⟨fun _ => r_stepCost_212 R.1 (r_stepCost_213 R.1 (sN (by omega) (by omega))), fun z => absurd rfl z⟩, fun z => ⟨fun _ => r_stepCost_80 R.1 (r_stepCost_81 R.1 (sN (by omega) (by omega))), fun z => absurd rfl z⟩, fun z => ⟨fun c => r_stepCost_100 R.1 ?_, fun c => ⟨v17, r_stepCost_100 R.1 ?_⟩⟩, fun z => ⟨v13', fun c => r_stepCost_121 R.1 ?_, fun c => ⟨v07, r_stepCost_121 R.1 ?_⟩⟩, fun z => ⟨fun _ => r_stepCost_166 R.1 (r_stepCost_167 R.1 (sN (by omega) (by omega))), fun z => absurd rfl z⟩, trivial⟩
    · have z : s = 1 := by omega
      subst z
      rw [dr_n (l := b) c] at hq
      by_cases cj : j < wN S
      · rw [dr_w cj] at hq; exact hq
      · rw [dr_n (l := wL' S) (by rw [wL_len]; omega)] at hq; exact hq
    · have z : s = 1 := by omega
      subst z
      rw [dr_c (l := b) (by omega), dr_n (l := wL' S) (by rw [wL_len]; omega)] at hq; exact hq
    · have z : s = 2 := by omega
      subst z
      rw [dr_n (l := wL' S) (by rw [wL_len]; omega)] at hq
      by_cases ci : i < b.length
      · rw [dr_c ci] at hq; exact hq
      · rw [dr_n (l := b) (by omega)] at hq; exact hq
    · have z : s = 2 := by omega
      subst z
      rw [dr_n (l := b) (by omega), dr_w (by omega)] at hq; exact hq
  refine r_stepCost R.1 ?_
  rw [B.1, e1, le_I (by omega) (by omega), le_I (by omega) (by omega)]
  refine ⟨fun c => r_stepCost_22 R.1 (nob (by omega)), fun ci => ⟨v13', fun c => r_stepCost_22 R.1 (nob (by omega)), fun cj => r_stepCost_23 R.1 ?_⟩⟩
  have ci : i < b.length := by omega
  have cj : j < wN S := by omega
  rw [dr_c ci, dr_w cj] at hq
  have vi2 : vp_in (nI i) 200 := v_i (by omega) (by decide)
  have vj2 : vp_in (nI j) 200 := v_i (by omega) (by decide)
  have wj : vi M (m + 3) j = wB S j := R.2.2.wb cj
  rw [nI_toIntN (by omega), B.1, e1, le_I (by omega) (by omega), le_I (by omega) (by omega), k0, k1, nI_clamp (n := i) (by omega), nI_clamp (n := j) (by omega), B.2 i ci, wj]
  refine ⟨fun z => ⟨fun z => absurd z (by decide), fun _ => ⟨vi2, s_isCapital ⟨R.1, bz (fun y => ⟨vi2, vj2, ?_⟩) (fun n => ?_)⟩⟩⟩, fun z => ⟨fun z => absurd z (by decide), fun _ => ⟨vi2, vj2, fun ne => ?_, fun eq => ?_⟩⟩, fun z => ⟨fun c => by omega, fun _ => ⟨v17, r_stepCost_100 R.1 ?_⟩⟩, fun z => ⟨v13', fun c => by omega, fun _ => ⟨v07, r_stepCost_121 R.1 ?_⟩⟩, fun z => ⟨fun z => absurd z (by decide), fun _ => ⟨vi2, s_isSmall ⟨R.1, bz (fun y => ⟨vi2, vj2, ?_⟩) (fun n => ?_)⟩⟩⟩, trivial⟩
  · have z : s = 4 := by omega
    subst z
    rw [sc4] at hq
    rw [B.2 i ci, wj, k3]
    refine ⟨fun ne => r_stepCost_212 R.1 (r_stepCost_213 R.1 ?_), fun eq => ⟨v37, r_stepCost_213 R.1 ?_⟩⟩
    · rw [cif_F (fun q => ne q.2)] at hq; exact hq
    · rw [cif_T ⟨y, eq⟩] at hq; exact hq
  · have z : s = 4 := by omega
    subst z
    rw [sc4, cif_F (fun q => n q.1)] at hq
    exact r_stepCost_212 R.1 (r_stepCost_213 R.1 hq)
  · have z : s = 0 := by omega
    subst z
    rw [sc0, cif_F ne] at hq
    exact r_stepCost_80 R.1 (r_stepCost_81 R.1 hq)
  · have z : s = 0 := by omega
    subst z
    rw [sc0, cif_T eq] at hq
    exact r_stepCost_81 R.1 hq
  · have z : s = 1 := by omega
    subst z
    exact hq
  · have z : s = 2 := by omega
    subst z
    exact hq
  · have z : s = 3 := by omega
    subst z
    rw [sc3] at hq
    rw [B.2 i ci, wj, k2]
    refine ⟨fun ne => r_stepCost_166 R.1 (r_stepCost_167 R.1 ?_), fun eq => ⟨v27, r_stepCost_167 R.1 ?_⟩⟩
    · rw [cif_F (fun q => ne q.2)] at hq; exact hq
    · rw [cif_T ⟨y, eq⟩] at hq; exact hq
  · have z : s = 3 := by omega
    subst z
    rw [sc3, cif_F (fun q => n q.1)] at hq
    exact r_stepCost_166 R.1 (r_stepCost_167 R.1 hq)
def bhN (s i j : Nat) : Nat := 201 * (if s = 2 then i else i + 1) + (if s = 1 then j else j + 1)
theorem s_behind {Q : Int32 → Mem → Prop} (R : RefAt M m) (hs : s < 5) (hi : i ≤ 200) (hj : j ≤ 200) (hq : Q (nI (bhN s i j)) M) : CI G (d + 1) 253 [.ref m, .int (nI s), .int (nI i), .int (nI j)] M Q := by
  unfold bhN at hq
  refine r_behind R ?_
  rw [show (2 : Int32) = nI 2 from rfl, show (1 : Int32) = nI 1 from rfl, show (201 : Int32) = nI 201 from rfl, eq_I (by omega) (by omega), eq_I (by omega) (by omega), nI_add, nI_add, pk_mul, nI_add, nI_add, pk_mul, nI_add, nI_add]
  refine ⟨fun n2 => ⟨fun n1 => ?_, fun y1 => ?_⟩, fun y2 => ⟨fun n1 => ?_, fun y1 => ?_⟩⟩
  · rw [if_neg n2, if_neg n1] at hq; exact hq
  · rw [if_neg n2, if_pos y1] at hq; exact hq
  · rw [if_pos y2, if_neg n1] at hq; exact hq
  · omega
/-- where a step leads -/
theorem sc_in {t : Nat} (h : scL S s (b.drop i) ((wL' S).drop j) = some t) (hs : s < 5) (hi : i ≤ b.length) (hj : j ≤ wN S) : (s ≠ 2 → i < b.length) ∧ (s ≠ 1 → j < wN S) := by
  by_cases ci : i < b.length
  · by_cases cj : j < wN S
    · exact ⟨fun _ => ci, fun _ => cj⟩
    · rw [dr_c ci, dr_n (l := wL' S) (by rw [wL_len]; omega)] at h
      have h : (if s = 1 then some (kc S 1) else none) = some t := h
      by_cases z : s = 1
      · exact ⟨fun _ => ci, fun q => absurd z q⟩
      · rw [if_neg z] at h; cases h
  · rw [dr_n (l := b) (by omega)] at h
    by_cases cj : j < wN S
    · rw [dr_w cj] at h
      have h : (if s = 2 then some (kc S 0) else none) = some t := h
      by_cases z : s = 2
      · exact ⟨fun q => absurd z q, fun _ => cj⟩
      · rw [if_neg z] at h; cases h
    · rw [dr_n (l := wL' S) (by rw [wL_len]; omega)] at h; cases h
theorem en_at : enL S s (b.drop i) ((wL' S).drop j) = edL S (b.drop (if s = 2 then i else i + 1)) ((wL' S).drop (if s = 1 then j else j + 1)) := by
  unfold enL
  by_cases y2 : s = 2
  · rw [if_pos y2, if_pos y2]
    by_cases y1 : s = 1
    · rw [if_pos y1, if_pos y1]
    · rw [if_neg y1, if_neg y1, List.tail_drop]
  · rw [if_neg y2, if_neg y2, List.tail_drop]
    by_cases y1 : s = 1
    · rw [if_pos y1, if_pos y1]
    · rw [if_neg y1, if_neg y1, List.tail_drop]
end
