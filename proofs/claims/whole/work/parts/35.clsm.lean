/-! THE CLASS'S MARK: alike, clash -/
section
variable {G : GT} {d : Nat} {M : Mem} {o p n : Nat} {x y : MkT} {Q : Int32 → Mem → Prop}
theorem mkAt.k (h : mkAt M o x) : mK M o = 6 := h.1
theorem mkAt.f0 (h : mkAt M o x) : vi M o 0 = kK x := h.2.1
theorem mkAt.f1 (h : mkAt M o x) : vi M o 1 = kF x := h.2.2.1
theorem mkAt.f2 (h : mkAt M o x) : vi M o 2 = kS x := h.2.2.2.1
theorem mkAt.f3 (h : mkAt M o x) : vi M o 3 = kT x := h.2.2.2.2.1
theorem mkAt.f4 (h : mkAt M o x) : vi M o 4 = kL x := h.2.2.2.2.2.1
theorem mkAt.f6 (h : mkAt M o x) : vi M o 6 = (if kT x = -1 then kF x else if kT x < kF x then kT x else kF x) := h.2.2.2.2.2.2.1
theorem mkAt.f7 (h : mkAt M o x) : vi M o 7 = (if kT x = -1 then kS x else if kS x < kT x then kT x else kS x) := h.2.2.2.2.2.2.2.1
theorem mkAt.f5 (h : mkAt M o x) : (kK x ≠ 0 ∧ vr M o 5 = none) ∨ (kK x = 0 ∧ ∃ t, vr M o 5 = some t ∧ mK M t = 15 ∧ mA M t = (kX x).length ∧ ∀ i, i < (kX x).length → vi M t i = (kX x).getD i 0) := h.2.2.2.2.2.2.2.2
theorem okM.xl (h : okM n x) (c : kK x = 0) : 0 < (kX x).length ∧ (kX x).length ≤ 20 := ⟨(h.2.2.1 c).2.2.1, (h.2.2.1 c).2.2.2.1⟩
theorem okM.x0 (h : okM n x) (c : kK x ≠ 0) : kX x = [] := (h.2.2.2.1 c).1
theorem some_inj {α : Type} {a b : α} {f : Option α} (h : f = some a) (h2 : f = some b) : b = a := by rw [h] at h2; cases h2; rfl
theorem k_sameText (hx : mkAt M o x) (hy : mkAt M p y) (vx : okM n x) (vy : okM n y) (hq : Q (bI (kX x = kX y)) M) : CI G (d + 1) 49 [.ref o, .ref p] M Q := by
  refine c_X5_sameText hx.k hy.k ?_
  rcases hx.f5 with ⟨c1, n1⟩ | ⟨c1, t1, n1, k1, l1, b1⟩
  · rcases hy.f5 with ⟨c2, n2⟩ | ⟨c2, t2, n2, k2, l2, b2⟩
    · rw [n1, n2]
      have e : kX x = kX y := by rw [vx.x0 c1, vy.x0 c2]
      exact ⟨fun r h => (by cases h), fun _ => ⟨fun r h => (by cases h), fun _ => ⟨fun r h => (by cases h), fun _ => qT2 hq e⟩⟩⟩
    · rw [n1, n2]
      have e : ¬ kX x = kX y := fun e => by have := (vy.xl c2).1; rw [← e, vx.x0 c1] at this; exact absurd this (by decide)
      exact ⟨fun r h => (by cases h), fun _ => ⟨fun r h => (by cases h), fun _ => ⟨fun _ _ => qF2 hq e, fun h => (by cases h)⟩⟩⟩
  · rcases hy.f5 with ⟨c2, n2⟩ | ⟨c2, t2, n2, k2, l2, b2⟩
    · rw [n1, n2]
      have e : ¬ kX x = kX y := fun e => by have := (vx.xl c1).1; rw [e, vy.x0 c2] at this; exact absurd this (by decide)
      exact ⟨fun r h => ⟨fun r h => (by cases h), fun _ => ⟨fun _ _ => qF2 hq e, fun h => (by cases h)⟩⟩, fun h => (by cases h)⟩
    · have lx := vx.xl c1
      have ly := vy.xl c2
      have key : ∀ m i : Nat, m + i = (kX x).length → (kX x).length = (kX y).length → (∀ j, j < i → (kX x).getD j 0 = (kX y).getD j 0) → At G (d + 1) 49 51 [(0, .ref o), (1, .ref p), (2, .int (nI i))] [] M (qI Q) := by
        intro m
        induction m with
        | zero => 
          intro i h1 h2 h3
          have e : kX x = kX y := getD_eq h2 (fun j hj => h3 j (by omega))
          refine c_X5_sameText_51 hx.k hy.k ?_
          rw [n1]
          refine ⟨fun r h => ?_, fun h => (by cases h)⟩
          cases h
          rw [k1, l1]
          exact ⟨by decide, fun _ => qT2 hq e, fun c => absurd (nI_le (by omega) (by omega)) c⟩
        | succ m ih => 
          intro i h1 h2 h3
          refine c_X5_sameText_51 hx.k hy.k ?_
          rw [n1, n2]
          refine ⟨fun r h => ?_, fun h => (by cases h)⟩
          cases h
          rw [k1, l1]
          refine ⟨by decide, fun c => absurd c (nI_ge (by omega) (by omega)), fun _ => ⟨fun r h => ?_, fun h => (by cases h)⟩⟩
          cases h
          rw [k2, l2]
          refine ⟨by decide, fun c => absurd c (nI_ge (by omega) (by omega)), fun _ => ⟨fun r h => ?_, fun h => (by cases h)⟩⟩
          cases h
          rw [k1, l1]
          refine ⟨rfl, vp_in_nI (by omega) (by omega), fun r h => ?_, fun h => (by cases h)⟩
          cases h
          rw [k2, l2, nI_clamp (by omega), b1 i (by omega), b2 i (by omega), nI_1]
          refine ⟨rfl, vp_in_nI (by omega) (by omega), fun c => ih (i + 1) (by omega) h2 (fun j hj => ?_), fun c => qF2 hq (fun e => c (by rw [e]))⟩
          rcases Nat.lt_or_ge j i with z | z
          · exact h3 j z
          · rw [show j = i by omega]; exact c
      rw [n1, n2]
      refine ⟨fun r h => ?_, fun h => (by cases h)⟩
      refine ⟨fun r h => ?_, fun h => (by cases h)⟩
      refine ⟨fun r h => ?_, fun h => (by cases h)⟩
      cases h
      rw [k1, l1]
      refine ⟨by decide, fun r h => ?_, fun h => (by cases h)⟩
      cases h
      rw [k2, l2, eq_I (by omega) (by omega)]
      exact ⟨by decide, fun c => key _ 0 rfl c (fun j hj => absurd hj (by omega)), fun c => qF2 hq (fun e => c (by rw [e]))⟩
theorem k_isAlike (hx : mkAt M o x) (hy : mkAt M p y) (vx : okM n x) (vy : okM n y) (hq : Q (bI (x = y)) M) : CI G (d + 2) 48 [.ref o, .ref p] M Q := by
  refine c_X5_isAlike hx.k hy.k ?_
  rw [hx.f0, hx.f1, hx.f2, hx.f3, hy.f0, hy.f1, hy.f2, hy.f3]
  refine ⟨fun c => qF2 hq (fun e => c (by rw [e])), fun h1 => ⟨fun c => qF2 hq (fun e => c (by rw [e])), fun h2 => ⟨fun c => qF2 hq (fun e => c (by rw [e])), fun h3 => ⟨fun c => qF2 hq (fun e => c (by rw [e])), fun h4 => ?_⟩⟩⟩⟩
  exact k_sameText hx hy vx vy ⟨⟨hx.k, hy.k⟩, bz (fun c => qT2 hq (mk_ext h1 h2 h3 h4 c)) (fun c => qF2 hq (fun e => c (by rw [e])))⟩
theorem k_sharesByte (hx : mkAt M o x) (hy : mkAt M p y) (hq : Q (bI (mCo x y)) M) : CI G (d + 1) 53 [.ref o, .ref p] M Q := by
  refine c_X5_sharesByte hx.k hy.k ?_
  rw [hx.f1, hx.f2, hy.f1, hy.f2]
  exact ⟨fun c => qF2 hq (fun h => lt_nle h.1 c), fun c => ⟨fun c2 => qF2 hq (fun h => lt_nle h.2 c2), fun c2 => qT2 hq ⟨nle_lt c, nle_lt c2⟩⟩⟩
theorem kT4 (vx : okM n x) (c : kK x = 4) : ¬ kT x = -1 := fun e => by
  have := (vx.2.2.2.2.1 c).1
  rw [e] at this
  exact absurd this (by decide)
theorem k_liesIn {lo hi : Int32} (hx : mkAt M o x) (vx : okM n x) (c4 : kK x = 4) (hq : Q (bI (mBt x lo hi)) M) : CI G (d + 1) 55 [.ref o, .int lo, .int hi] M Q := by
  refine c_X5_liesIn hx.k ?_
  rw [hx.f6, hx.f7, hx.f3, if_neg (kT4 vx c4), if_neg (kT4 vx c4)]
  have key : mBt x lo hi ↔ (¬ (if kT x < kF x then kT x else kF x) < lo) ∧ (¬ hi < (if kS x < kT x then kT x else kS x)) ∧ (¬ kT x ≤ lo) ∧ ¬ hi ≤ kT x := by
    unfold mBt
    by_cases c1 : kT x < kF x
    · rw [if_pos c1]
      by_cases c2 : kS x < kT x
      · rw [if_pos c2]; simp only [fa_lt, fa_le] at *; omega
      · rw [if_neg c2]; simp only [fa_lt, fa_le] at *; omega
    · rw [if_neg c1]
      by_cases c2 : kS x < kT x
      · rw [if_pos c2]; simp only [fa_lt, fa_le] at *; omega
      · rw [if_neg c2]; simp only [fa_lt, fa_le] at *; omega
  exact ⟨fun c => qF2 hq (fun h => (key.mp h).1 c), fun c1 => ⟨fun c => qF2 hq (fun h => (key.mp h).2.1 c), fun c2 => ⟨fun c => qF2 hq (fun h => (key.mp h).2.2.1 c), fun c3 => ⟨fun c => qF2 hq (fun h => (key.mp h).2.2.2 c), fun c4 => qT2 hq (key.mpr ⟨c1, c2, c3, c4⟩)⟩⟩⟩⟩
theorem o_c (vx : okM n x) (c : kK x = 4) : (kT x ≤ kS x ↔ kT x < kF x) := by
  have h1 := vx.2.2.2.2.1 c
  have h2 := vx.2.2.2.1 (by rw [c]; decide)
  rw [fa_le, fa_lt]
  omega
theorem k_overFrom (hx : mkAt M o x) (vx : okM n x) (c4 : kK x = 4) (hq : Q (oFr x) M) : CI G (d + 1) 56 [.ref o] M Q := by
  refine c_X5_overFrom hx.k ?_
  rw [hx.f2, hx.f3]
  unfold oFr at hq
  rw [o_c vx c4]
  exact ⟨fun c => by rw [if_pos c] at hq; exact hq, fun c => by rw [if_neg c] at hq; exact hq⟩
theorem k_overTo (hx : mkAt M o x) (vx : okM n x) (c4 : kK x = 4) (hq : Q (oTo x) M) : CI G (d + 1) 57 [.ref o] M Q := by
  refine c_X5_overTo hx.k ?_
  rw [hx.f1, hx.f2, hx.f3]
  unfold oTo at hq
  rw [o_c vx c4]
  exact ⟨fun c => by rw [if_pos c] at hq; exact hq, fun c => by rw [if_neg c] at hq; exact hq⟩
theorem k_movesFit (hx : mkAt M o x) (hy : mkAt M p y) (vx : okM n x) (vy : okM n y) (c4 : kK x = 4) (d4 : kK y = 4) (hq : Q (bI (mFit x y)) M) : CI G (d + 2) 54 [.ref o, .ref p] M Q := by
  have e130 : mFit x y → At G (d + 2) 54 130 [] [] M (qI Q) := fun h => c_X5_movesFit_130 hx.k hy.k (c_X5_movesFit_135 hx.k hy.k (qT2 hq h))
  have e70 : ¬ x = y → ¬ ((mHi x ≤ mLo y ∨ mHi y ≤ mLo x) ∧ kT x ≠ kT y) → At G (d + 2) 54 70 [(0, .ref o), (1, .ref p)] [] M (qI Q) := by
    intro n1 n2
    have kk : mK M o = 6 ∧ mK M p = 6 := ⟨hx.k, hy.k⟩
    refine c_X5_movesFit_70 hx.k hy.k ?_
    rw [hy.f1, hy.f2]
    refine k_liesIn hx vx c4 ⟨kk, bnz (fun c => e130 (Or.inr (Or.inr (Or.inl (Or.inl c))))) (fun c1 => ?_)⟩
    refine k_overFrom hy vy d4 ⟨kk, k_overTo hy vy d4 ⟨kk, k_liesIn hx vx c4 ⟨kk, bnz (fun c => e130 (Or.inr (Or.inr (Or.inl (Or.inr c))))) (fun c2 => ?_)⟩⟩⟩
    rw [hx.f1, hx.f2]
    refine k_liesIn hy vy d4 ⟨kk, bnz (fun c => e130 (Or.inr (Or.inr (Or.inr (Or.inl c))))) (fun c3 => ?_)⟩
    refine k_overFrom hx vx c4 ⟨kk, k_overTo hx vx c4 ⟨kk, k_liesIn hy vy d4 ⟨kk, bz (fun c => e130 (Or.inr (Or.inr (Or.inr (Or.inr c))))) (fun c5 => ?_)⟩⟩⟩
    refine c_X5_movesFit_135 hx.k hy.k (qF2 hq (fun h => ?_))
    rcases h with h | h | (h | h) | (h | h)
    · exact n1 h
    · exact n2 h
    · exact c1 h
    · exact c2 h
    · exact c3 h
    · exact c5 h
  have e35 : ¬ x = y → At G (d + 2) 54 35 [(0, .ref o), (1, .ref p)] [] M (qI Q) := by
    intro n1
    refine c_X5_movesFit_35 hx.k hy.k ?_
    rw [hx.f3, hy.f3, hx.f6, hx.f7, hy.f6, hy.f7, if_neg (kT4 vx c4), if_neg (kT4 vx c4), if_neg (kT4 vy d4), if_neg (kT4 vy d4)]
    refine ⟨fun c => e70 n1 (fun h => h.2 c), fun c1 => ⟨fun c => c_X5_movesFit_68 hx.k hy.k (qT2 hq (Or.inr (Or.inl ⟨Or.inl c, c1⟩))), fun c2 => ⟨fun c => e70 n1 (fun h => ?_), fun c => c_X5_movesFit_68 hx.k hy.k (qT2 hq (Or.inr (Or.inl ⟨Or.inr (nlt_le c), c1⟩)))⟩⟩⟩
    exact h.1.elim c2 (lt_nle c)
  have z1 : kX x = [] := vx.x0 (by rw [c4]; decide)
  have z2 : kX y = [] := vy.x0 (by rw [d4]; decide)
  refine c_X5_movesFit hx.k hy.k ?_
  rw [hx.f1, hx.f2, hx.f3, hy.f1, hy.f2, hy.f3]
  refine ⟨fun c => e35 (fun e => c (by rw [e])), fun h1 => ⟨fun c => e35 (fun e => c (by rw [e])), fun h2 => ⟨fun c => e35 (fun e => c (by rw [e])), fun h3 => ?_⟩⟩⟩
  exact qT2 hq (Or.inl (mk_ext (by rw [c4, d4]) h1 h2 h3 (by rw [z1, z2])))
theorem k_insMeets (hx : mkAt M o x) (hy : mkAt M p y) (vx : okM n x) (vy : okM n y) (c0 : kK x = 0) (hq : Q (ck0 x y) M) : CI G (d + 2) 52 [.ref o, .ref p] M Q := by
  refine c_X5_insMeets hx.k hy.k ?_
  rw [hx.f1, hy.f0, hy.f1, hy.f2]
  unfold ck0 at hq
  rw [cif_T c0] at hq
  refine ⟨fun c1 => ⟨fun c2 => ?_, fun c2 => ⟨fun c3 => ⟨fun c4 => ⟨fun c5 => ?_, fun c5 => ?_⟩, fun c4 => ?_⟩, fun c3 => ?_⟩⟩, fun c1 => ⟨fun c2 => ?_, fun c2 => ?_⟩⟩
  · rw [cif_F c1, cif_F (fun h => lt_nle h.2.1 c2)] at hq
    exact hq
  · rw [cif_F c1, cif_F (fun h => h.1.elim c4 c5)] at hq
    exact hq
  · rw [cif_F c1, cif_T ⟨Or.inr c5, nle_lt c2, c3⟩, cif_F c4] at hq
    exact hq
  · rw [cif_F c1, cif_T ⟨Or.inl c4, nle_lt c2, c3⟩, cif_T c4] at hq
    exact hq
  · rw [cif_F c1, cif_F (fun h => c3 h.2.2)] at hq
    exact hq
  · rw [cif_T c1, cif_F (fun h => c2 h.1)] at hq
    exact hq
  · rw [cif_T c1] at hq
    refine k_sameText hx hy vx vy ⟨⟨hx.k, hy.k⟩, bnz (fun c => ?_) (fun c => ?_)⟩
    · have a1 := vx.2.2.1 c0
      have a2 := vy.2.2.1 c1
      rw [cif_F (fun h => h.2 (mk_ext (by rw [c0, c1]) c2 (by rw [a1.1, a2.1]) (by rw [a1.2.1, a2.2.1]) c))] at hq
      exact hq
    · rw [cif_T ⟨c2, fun e => c (by rw [e])⟩] at hq
      exact hq
theorem k_meetsLater (hx : mkAt M o x) (hy : mkAt M p y) (vx : okM n x) (vy : okM n y) (hle : kK x ≤ kK y) (hq : Q (ck0 x y) M) : CI G (d + 3) 51 [.ref o, .ref p] M Q := by
  have kk : mK M o = 6 ∧ mK M p = 6 := ⟨hx.k, hy.k⟩
  have y5 : kK x = 5 → kK y = 5 := fun e => by
    have h1 := vy.1.2
    rw [e] at hle
    rw [fa_le, show (5 : Int32).toInt = 5 from rfl] at hle
    rw [fa_eq, show (5 : Int32).toInt = 5 from rfl]
    omega
  refine c_X5_meetsLater hx.k hy.k ?_
  rw [hx.f0, hy.f0]
  have ne4 : ¬ (4 : Int32) = 5 := by decide
  refine ⟨fun c0 => ⟨fun c4 => ⟨fun c5 => ?_, fun c5 => ?_⟩, fun c4 => ⟨fun d4 => ⟨fun c5 => absurd (c4.symm.trans c5) ne4, fun c5 => ?_⟩, fun d4 => ?_⟩⟩, fun c0 => k_insMeets hx hy vx vy c0 ⟨kk, hq⟩⟩
  · have d5 := y5 c5
    refine qv hq ?_
    simp [ck0, cif, c5, d5]
  · refine k_sharesByte hx hy ⟨kk, bnz (fun s => ?_) (fun s => ?_)⟩
    · rw [hx.f0, hy.f0]
      refine ⟨fun d5 => ⟨fun c1 => ⟨fun c2 => ?_, fun c2 => ⟨fun d3 => ?_, fun d3 => ?_⟩⟩, fun c1 => ⟨fun d2 => ?_, fun d2 => ⟨fun d3 => ⟨fun c2 => ?_, fun c2 => ⟨fun _ => ?_, fun d3' => ?_⟩⟩, fun d3 => ?_⟩⟩⟩, fun d5 => ?_⟩
      · exact qv hq (by simp [ck0, cif, c0, c4, c1, c2, d5, s])
      · exact qv hq (by simp [ck0, cif, c2, d3, d5, s])
      · exact qv hq (by simp [ck0, cif, c2, d3, s])
      · exact qv hq (by simp [ck0, cif, c1, d2, s])
      · exact qv hq (by simp [ck0, cif, c1, d2, d3, d5, s])
      · exact absurd (c1.symm.trans c2) (by decide)
      · exact absurd (c1.symm.trans c2) (by decide)
      · exact qv hq (by simp [ck0, cif, c1, d3, s])
      · exact qv hq (by simp [ck0, cif, c0, c4, c5, d5, s])
    · exact qv hq (by simp [ck0, cif, c0, c4, s])
  · refine k_sharesByte hx hy ⟨kk, bnz (fun s => ?_) (fun s => ?_)⟩
    · rw [hx.f0, hy.f0]
      refine ⟨fun d5 => ⟨fun c1 => ⟨fun c2 => ?_, fun c2 => ⟨fun d3 => ?_, fun d3 => ?_⟩⟩, fun c1 => ⟨fun d2 => ?_, fun d2 => ⟨fun d3 => ⟨fun c2 => ?_, fun c2 => ⟨fun _ => ?_, fun d3' => ?_⟩⟩, fun d3 => ?_⟩⟩⟩, fun d5 => ?_⟩
      · exact qv hq (by simp [ck0, cif, c4, d4, d5, s])
      · exact absurd (c4.symm.trans c2) (by decide)
      · exact absurd (c4.symm.trans c2) (by decide)
      · exact absurd (c4.symm.trans c1) (by decide)
      · exact absurd (c4.symm.trans c1) (by decide)
      · exact absurd (c4.symm.trans c1) (by decide)
      · exact absurd (c4.symm.trans c1) (by decide)
      · exact absurd (c4.symm.trans c1) (by decide)
      · exact qv hq (by simp [ck0, cif, c4, d5, s])
    · exact qv hq (by simp [ck0, cif, c4, d4, s])
  · refine k_movesFit hx hy vx vy c4 d4 ⟨kk, bz (fun c => ?_) (fun c => ?_)⟩
    · exact qv hq (by simp [ck0, cif, c4, d4, c])
    · exact qv hq (by simp [ck0, cif, c4, d4, c])
theorem k_meets (hx : mkAt M o x) (hy : mkAt M p y) (vx : okM n x) (vy : okM n y) (hq : Q (ck x y) M) : CI G (d + 4) 50 [.ref o, .ref p] M Q := by
  have kk : mK M o = 6 ∧ mK M p = 6 := ⟨hx.k, hy.k⟩
  unfold ck at hq
  refine c_X5_meets hx.k hy.k ?_
  rw [hx.f0, hy.f0]
  refine ⟨fun c => ?_, fun c => ?_⟩
  · rw [cif_T c] at hq
    exact k_meetsLater hy hx vy vx (by rw [fa_lt] at c; rw [fa_le]; omega) ⟨kk, hq⟩
  · rw [cif_F c] at hq
    exact k_meetsLater hx hy vx vy (nlt_le c) ⟨kk, hq⟩
end
