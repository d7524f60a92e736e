/-! THE TEXT: the reference; what touches a BYTE, what is put in, all of it -/
def covU (S : ShT) (p : Nat → Prop) (i : Nat) (k : Int32) (q : Nat) : Prop := ∃ s, s < i ∧ p s ∧ kK (kM S s) = k ∧ fN (kM S s) ≤ q ∧ q < sN (kM S s)
noncomputable def ltU (S : ShT) (p : Nat → Prop) (i q : Nat) : Int32 := cif (covU S p i 2 q ∧ isS (gB S q)) (gB S q - 32) (cif (covU S p i 3 q ∧ isU (gB S q)) (gB S q + 32) (gB S q))
theorem mk_ok {n : Nat} {x : MkT} (n2 : n ≤ 200) (h : okM n x) (k0 : kK x ≠ 0) : kF x = nI (fN x) ∧ kS x = nI (sN x) ∧ fN x < sN x ∧ sN x ≤ n := by
  obtain ⟨h1, h2, h3, h4, h5, h6⟩ := h
  have h4 := h4 k0
  obtain ⟨f, hf, ef⟩ := asN (a := kF x) (N := 201) (by omega) (by omega)
  obtain ⟨s, hs, es⟩ := asN (a := kS x) (N := 201) (by omega) (by omega)
  have e1 : fN x = f := by unfold fN; rw [ef, nI_clamp (by omega)]
  have e2 : sN x = s := by unfold sN; rw [es, nI_clamp (by omega)]
  rw [ef, nI_toIntN (by omega), es, nI_toIntN (by omega)] at h4
  rw [e1, e2]
  exact ⟨ef, es, by omega, by omega⟩
section
variable {S : ShT} {p : Nat → Prop} {i i' q : Nat}
/-- no BYTE is both raised and lowered -/
theorem no23 (V : okS S) (hp : pOk S p) (h2 : covU S p i 2 q) (h3 : covU S p i' 3 q) : False := by
  obtain ⟨s, _, ps, ks, s1, s2⟩ := h2
  obtain ⟨o, _, po, ko, o1, o2⟩ := h3
  have a := mk_ok V.g (V.m (hp.1 s ps)) (by rw [ks]; decide)
  have b := mk_ok V.g (V.m (hp.1 o po)) (by rw [ko]; decide)
  have g := V.g
  have c := hp.2 s o ps po
  unfold ck at c
  rw [cif_F (by rw [ks, ko]; decide)] at c
  unfold ck0 at c
  have co : mCo (kM S s) (kM S o) := by
    unfold mCo
    rw [a.1, a.2.1, b.1, b.2.1, lt_I (by omega) (by omega), lt_I (by omega) (by omega)]
    omega
  rw [cif_F (by rw [ks]; decide), cif_F (fun z => absurd (z.1.symm.trans ks) (by decide)), cif_T co, cif_F (fun z => absurd (z.1.symm.trans ks) (by decide)), cif_T ⟨ks, ko⟩] at c
  exact absurd c (by decide)
/-- nor struck and turned -/
theorem no1 {k : Int32} (V : okS S) (hp : pOk S p) (hk : k = 2 ∨ k = 3) (h1 : covU S p i 1 q) (h2 : covU S p i' k q) : False := by
  obtain ⟨s, _, ps, ks, s1, s2⟩ := h1
  obtain ⟨o, _, po, ko, o1, o2⟩ := h2
  have a := mk_ok V.g (V.m (hp.1 s ps)) (by rw [ks]; decide)
  have b := mk_ok V.g (V.m (hp.1 o po)) (by rw [ko]; rcases hk with z | z <;> rw [z] <;> decide)
  have g := V.g
  have c := hp.2 s o ps po
  unfold ck at c
  rw [cif_F (by rw [ks, ko]; rcases hk with z | z <;> rw [z] <;> decide)] at c
  unfold ck0 at c
  have co : mCo (kM S s) (kM S o) := by
    unfold mCo
    rw [a.1, a.2.1, b.1, b.2.1, lt_I (by omega) (by omega), lt_I (by omega) (by omega)]
    omega
  rw [cif_F (by rw [ks]; decide), cif_F (fun z => absurd (z.1.symm.trans ks) (by decide)), cif_T co, cif_T ⟨ks, by rcases hk with z | z <;> rw [ko, z] <;> decide⟩] at c
  exact absurd c (by decide)
theorem covU_s {k : Int32} : covU S p (i + 1) k q ↔ covU S p i k q ∨ (p i ∧ kK (kM S i) = k ∧ fN (kM S i) ≤ q ∧ q < sN (kM S i)) := by
  constructor
  · rintro ⟨s, h1, h2⟩
    by_cases y : s = i
    · rw [y] at h2; exact Or.inr h2
    · exact Or.inl ⟨s, by omega, h2⟩
  · rintro (⟨s, h1, h2⟩ | h)
    · exact ⟨s, by omega, h2⟩
    · exact ⟨i, by omega, h⟩
theorem covU_n {k : Int32} (h : ¬ (p i ∧ kK (kM S i) = k ∧ fN (kM S i) ≤ q ∧ q < sN (kM S i))) : covU S p (i + 1) k q ↔ covU S p i k q := by
  rw [covU_s]; exact ⟨fun z => z.resolve_right h, Or.inl⟩
theorem ltU_n (h2 : covU S p (i + 1) 2 q ↔ covU S p i 2 q) (h3 : covU S p (i + 1) 3 q ↔ covU S p i 3 q) : ltU S p (i + 1) q = ltU S p i q := by
  unfold ltU; rw [propext h2, propext h3]
theorem isS_up {c : Int32} (h : isS c) : ¬ isS (c - 32) := by
  unfold isS at *
  obtain ⟨n, hn, e⟩ := asN (a := c) (N := 123) (by omega) (by omega)
  rw [e, nI_toIntN (by omega)] at h
  rw [e, show (32 : Int32) = nI 32 from rfl, pk_sub (by omega), nI_toIntN (by omega)]
  omega
theorem isU_dn {c : Int32} (h : isU c) : ¬ isU (c + 32) := by
  unfold isU at *
  obtain ⟨n, hn, e⟩ := asN (a := c) (N := 123) (by omega) (by omega)
  rw [e, nI_toIntN (by omega)] at h
  rw [e, show (32 : Int32) = nI 32 from rfl, nI_add, nI_toIntN (by omega)]
  omega
theorem ltU_2 (V : okS S) (hp : pOk S p) (h : p i ∧ kK (kM S i) = 2 ∧ fN (kM S i) ≤ q ∧ q < sN (kM S i)) : (isS (ltU S p i q) → ltU S p (i + 1) q = ltU S p i q - 32) ∧ (¬ isS (ltU S p i q) → ltU S p (i + 1) q = ltU S p i q) := by
  have c2 : covU S p (i + 1) 2 q := covU_s.mpr (Or.inr h)
  have n3 : ¬ covU S p i 3 q := fun z => no23 V hp c2 z
  have n3' : ¬ covU S p (i + 1) 3 q := fun z => no23 V hp c2 z
  have eN : ltU S p (i + 1) q = cif (isS (gB S q)) (gB S q - 32) (gB S q) := by
    unfold ltU
    by_cases s : isS (gB S q)
    · rw [cif_T (show covU S p (i + 1) 2 q ∧ isS (gB S q) from ⟨c2, s⟩), cif_T s]
    · rw [cif_F (show ¬ (covU S p (i + 1) 2 q ∧ isS (gB S q)) from fun z => s z.2), cif_F (show ¬ (covU S p (i + 1) 3 q ∧ isU (gB S q)) from fun z => n3' z.1), cif_F s]
  have eO : ltU S p i q = cif (covU S p i 2 q ∧ isS (gB S q)) (gB S q - 32) (gB S q) := by
    unfold ltU
    rw [cif_F (show ¬ (covU S p i 3 q ∧ isU (gB S q)) from fun z => n3 z.1)]
  rw [eN, eO]
  by_cases s : isS (gB S q)
  · rw [cif_T s]
    by_cases u : covU S p i 2 q
    · rw [cif_T (show covU S p i 2 q ∧ isS (gB S q) from ⟨u, s⟩)]; exact ⟨fun z => absurd z (isS_up s), fun _ => rfl⟩
    · rw [cif_F (show ¬ (covU S p i 2 q ∧ isS (gB S q)) from fun z => u z.1)]; exact ⟨fun _ => rfl, fun z => absurd s z⟩
  · rw [cif_F s, cif_F (show ¬ (covU S p i 2 q ∧ isS (gB S q)) from fun z => s z.2)]; exact ⟨fun z => absurd z s, fun _ => rfl⟩
theorem ltU_3 (V : okS S) (hp : pOk S p) (h : p i ∧ kK (kM S i) = 3 ∧ fN (kM S i) ≤ q ∧ q < sN (kM S i)) : (isU (ltU S p i q) → ltU S p (i + 1) q = ltU S p i q + 32) ∧ (¬ isU (ltU S p i q) → ltU S p (i + 1) q = ltU S p i q) := by
  have c3 : covU S p (i + 1) 3 q := covU_s.mpr (Or.inr h)
  have n2 : ¬ covU S p i 2 q := fun z => no23 V hp z c3
  have n2' : ¬ covU S p (i + 1) 2 q := fun z => no23 V hp z c3
  have eN : ltU S p (i + 1) q = cif (isU (gB S q)) (gB S q + 32) (gB S q) := by
    unfold ltU
    rw [cif_F (show ¬ (covU S p (i + 1) 2 q ∧ isS (gB S q)) from fun z => n2' z.1)]
    by_cases s : isU (gB S q)
    · rw [cif_T (show covU S p (i + 1) 3 q ∧ isU (gB S q) from ⟨c3, s⟩), cif_T s]
    · rw [cif_F (show ¬ (covU S p (i + 1) 3 q ∧ isU (gB S q)) from fun z => s z.2), cif_F s]
  have eO : ltU S p i q = cif (covU S p i 3 q ∧ isU (gB S q)) (gB S q + 32) (gB S q) := by
    unfold ltU
    rw [cif_F (show ¬ (covU S p i 2 q ∧ isS (gB S q)) from fun z => n2 z.1)]
  rw [eN, eO]
  by_cases s : isU (gB S q)
  · rw [cif_T s]
    by_cases u : covU S p i 3 q
    · rw [cif_T (show covU S p i 3 q ∧ isU (gB S q) from ⟨u, s⟩)]; exact ⟨fun z => absurd z (isU_dn s), fun _ => rfl⟩
    · rw [cif_F (show ¬ (covU S p i 3 q ∧ isU (gB S q)) from fun z => u z.1)]; exact ⟨fun _ => rfl, fun z => absurd s z⟩
  · rw [cif_F s, cif_F (show ¬ (covU S p i 3 q ∧ isU (gB S q)) from fun z => s z.2)]; exact ⟨fun z => absurd z s, fun _ => rfl⟩
end
/-- letters and what is gone, by the MARKS below i -/
def tuR (M : Mem) (m : Nat) (S : ShT) (p : Nat → Prop) (i : Nat) : Prop := ∀ q, q < gN S → vi M (m + 29) q = ltU S p i q ∧ vi M (m + 32) q = bI (covU S p i 1 q)
/-- the text so far -/
def txR (M : Mem) (m : Nat) (T : List Int32) : Prop := vi M m 44 = nI T.length ∧ ∀ i, i < T.length → vi M (m + 30) i = T.getD i 0
section
variable {G : GT} {d : Nat} {M M' : Mem} {m : Nat} {S : ShT} {L : List Nat} {p dn : Nat → Prop}
theorem s_isSmall {c : Int32} {Q : Int32 → Mem → Prop} (hq : Q (bI (isS c)) M) : CI G (d + 2) 232 [.int c] M Q := by
  refine r_isSmall (s_in (isS c) ?_ (b01 hq))
  unfold isS
  rw [Int32.toInt_toInt64, show (97 : Int64).toInt = 97 from rfl, show (122 : Int64).toInt = 122 from rfl]
theorem s_isCapital {c : Int32} {Q : Int32 → Mem → Prop} (hq : Q (bI (isU c)) M) : CI G (d + 2) 233 [.int c] M Q := by
  refine r_isCapital (s_in (isU c) ?_ (b01 hq))
  unfold isU
  rw [Int32.toInt_toInt64, show (65 : Int64).toInt = 65 from rfl, show (90 : Int64).toInt = 90 from rfl]
theorem s_touches {i : Nat} {Q : Mem → Prop} (R : RS M m S) (hp : pOk S p) (pi : p i) (hk : kK (kM S i) = 1 ∨ kK (kM S i) = 2 ∨ kK (kM S i) = 3) (h : tuR M m S p i) (hq : ∀ M', Frl m [] [29, 32] M M' → tuR M' m S p (i + 1) → Q M') : CV G (d + 3) 234 [.ref m, .int (nI i)] M Q := by
  have V := R.2.1
  have is := hp.1 i pi
  have i6 := isM_lt V is
  have g2 := V.g
  have k0 : kK (kM S i) ≠ 0 := by rcases hk with z | z | z <;> rw [z] <;> decide
  obtain ⟨a1, a2, a3, a4⟩ := mk_ok g2 (V.m is) k0
  have v6 : vp_in (nI i) 64 := vp_in_nI i6 (by omega)
  have old : ∀ q, ¬ (fN (kM S i) ≤ q ∧ q < sN (kM S i)) → ltU S p (i + 1) q = ltU S p i q ∧ bI (covU S p (i + 1) 1 q) = bI (covU S p i 1 q) := fun q hn =>
    ⟨ltU_n (covU_n (fun z => hn z.2.2)) (covU_n (fun z => hn z.2.2)), bI_c (covU_n (fun z => hn z.2.2))⟩
  have key : ∀ (j k : Nat) (Mx : Mem), j + k = sN (kM S i) → fN (kM S i) ≤ k → Frl m [] [29, 32] M Mx → (∀ q, q < gN S → vi Mx (m + 29) q = cif (q < k) (ltU S p (i + 1) q) (ltU S p i q) ∧ vi Mx (m + 32) q = cif (q < k) (bI (covU S p (i + 1) 1 q)) (bI (covU S p i 1 q))) → At G (d + 3) 234 7 [(0, .ref m), (1, .int (nI i)), (2, .int (nI k))] [] Mx (qV Q) := by
    intro j
    induction j with
    | zero =>
      intro k Mx e fk gx hx
      refine r_touches_7 (gx.ra R.1) ⟨v6, ?_⟩
      rw [nI_clamp (by omega), gx.i (by decide) (by decide), R.2.2.m9 is, a2, le_I (by omega) (by omega)]
      refine ⟨fun _ => hq Mx gx (fun q hq2 => ?_), fun z => absurd (by omega) z⟩
      have z := hx q hq2
      by_cases y : q < k
      · rw [cif_T y, cif_T y] at z; exact z
      · rw [cif_F y, cif_F y] at z
        have o := old q (by omega)
        rw [o.1, o.2]; exact z
    | succ j ih =>
      intro k Mx e fk gx hx
      have kin : fN (kM S i) ≤ k ∧ k < sN (kM S i) := ⟨fk, by omega⟩
      have vk : vp_in (nI k) 200 := vp_in_nI (by omega) (by omega)
      have xk := hx k (by omega)
      rw [cif_F (show ¬ k < k by omega), cif_F (show ¬ k < k by omega)] at xk
      -- a turn's end
      have go : ∀ (M1 : Mem), Frl m [] [29, 32] Mx M1 → (∀ q, q ≠ k → vi M1 (m + 29) q = vi Mx (m + 29) q ∧ vi M1 (m + 32) q = vi Mx (m + 32) q) → vi M1 (m + 29) k = ltU S p (i + 1) k → vi M1 (m + 32) k = bI (covU S p (i + 1) 1 k) → At G (d + 3) 234 7 [(0, .ref m), (1, .int (nI i)), (2, .int (nI (k + 1)))] [] M1 (qV Q) := fun M1 g1 h1 h2 h3 => by
        refine ih (k + 1) M1 (by omega) (by omega) (gx.trans g1) (fun q hq2 => ?_)
        by_cases y : q = k
        · rw [y, cif_T (show k < k + 1 by omega), cif_T (show k < k + 1 by omega)]; exact ⟨h2, h3⟩
        · rw [(h1 q y).1, (h1 q y).2]
          have z := hx q hq2
          by_cases u : q < k
          · rw [cif_T u, cif_T u] at z; rw [cif_T (show q < k + 1 by omega), cif_T (show q < k + 1 by omega)]; exact z
          · rw [cif_F u, cif_F u] at z; rw [cif_F (show ¬ q < k + 1 by omega), cif_F (show ¬ q < k + 1 by omega)]; exact z
      have n1 : kK (kM S i) ≠ 1 → bI (covU S p i 1 k) = bI (covU S p (i + 1) 1 k) := fun n => bI_c (covU_n (fun z => n z.2.1)).symm
      refine r_touches_7 (gx.ra R.1) ⟨v6, ?_⟩
      rw [nI_clamp (n := i) (by omega), nI_clamp (n := k) (by omega), gx.i (by decide) (by decide), gx.i (by decide) (by decide), R.2.2.m9 is, R.2.2.m7 is, a2, le_I (by omega) (by omega), nI_1, xk.1, b1n]
      refine ⟨fun z => absurd z (by omega), fun _ => ⟨v6, fun ne1 => ⟨v6, fun ne2 => ⟨v6, fun ne3 => ?_, fun e3 => ⟨vk, s_isCapital ⟨gx.ra R.1, ?_⟩⟩⟩, fun e2 => ⟨vk, s_isSmall ⟨gx.ra R.1, ?_⟩⟩⟩, fun e1 => ⟨vk, fun M1 h1 => ?_⟩⟩⟩
      · rcases hk with z | z | z
        · exact absurd z ne1
        · exact absurd z ne2
        · exact absurd z ne3
      · have l3 := ltU_3 V hp ⟨pi, e3, kin⟩
        refine bz (fun y => ⟨vk, vk, fun M1 h1 => ?_⟩) (fun y => go Mx Frl.refl (fun q _ => ⟨rfl, rfl⟩) (by rw [xk.1, l3.2 y]) (by rw [xk.2]; exact n1 ne1))
        refine go M1 (by rw [h1]; exact Frl.si (by decide)) (fun q hq2 => ⟨by rw [h1, vi_seti, if_neg (fun z => hq2 z.2)], by rw [h1, vi_seti, if_neg (by omega)]⟩) (by rw [h1, vi_seti, if_pos ⟨rfl, rfl⟩, l3.1 y, xk.1]) (by rw [h1, vi_seti, if_neg (by omega), xk.2]; exact n1 ne1)
      · have l2 := ltU_2 V hp ⟨pi, e2, kin⟩
        refine bz (fun y => ⟨vk, vk, fun M1 h1 => ?_⟩) (fun y => ⟨v6, fun _ => go Mx Frl.refl (fun q _ => ⟨rfl, rfl⟩) (by rw [xk.1, l2.2 y]) (by rw [xk.2]; exact n1 ne1), fun e3 => ?_⟩)
        · refine go M1 (by rw [h1]; exact Frl.si (by decide)) (fun q hq2 => ⟨by rw [h1, vi_seti, if_neg (fun z => hq2 z.2)], by rw [h1, vi_seti, if_neg (by omega)]⟩) (by rw [h1, vi_seti, if_pos ⟨rfl, rfl⟩, l2.1 y, xk.1]) (by rw [h1, vi_seti, if_neg (by omega), xk.2]; exact n1 ne1)
        · rw [gx.i (by decide) (by decide), R.2.2.m7 is, e2] at e3; exact absurd e3 (by decide)
      · refine go M1 (by rw [h1]; exact Frl.si (by decide)) (fun q hq2 => ⟨by rw [h1, vi_seti, if_neg (by omega)], by rw [h1, vi_seti, if_neg (fun z => hq2 z.2)]⟩) ?_ ?_
        · rw [h1, vi_seti, if_neg (by omega), xk.1]
          exact (ltU_n (covU_n (fun z => absurd (z.2.1.symm.trans e1) (by decide))) (covU_n (fun z => absurd (z.2.1.symm.trans e1) (by decide)))).symm
        · rw [h1, vi_seti, if_pos ⟨rfl, rfl⟩]
          exact (bI_T (covU_s.mpr (Or.inr ⟨pi, e1, kin⟩))).symm
  refine r_touches R.1 ⟨v6, ?_⟩
  rw [nI_clamp (by omega), R.2.2.m8 is, a1]
  refine key (sN (kM S i) - fN (kM S i)) (fN (kM S i)) M (by omega) (Nat.le_refl _) Frl.refl (fun q hq2 => ?_)
  have z := h q hq2
  by_cases y : q < fN (kM S i)
  · have o := old q (by omega)
    rw [cif_T y, cif_T y, o.1, o.2]; exact z
  · rw [cif_F y, cif_F y]; exact z
theorem s_writes {c : Int32} {T : List Int32} {Q : Mem → Prop} (R : RefAt M m) (h : txR M m T) (l2 : T.length < 2000) (hq : ∀ M', Frl m [44] [30] M M' → txR M' m (T ++ [c]) → Q M') : CV G (d + 1) 235 [.ref m, .int c] M Q := by
  refine r_writes R ?_
  rw [h.1, nI_clamp (by omega)]
  refine ⟨vp_in_nI l2 (by omega), fun M1 e1 M2 e2 => ?_⟩
  rw [show vi M1 m 44 = nI T.length by rw [e1, vi_seti, if_neg (by omega)]; exact h.1, nI_1] at e2
  refine hq M2 ?_ ⟨?_, fun i hi => ?_⟩
  · rw [e2, e1]; exact (Frl.si (by decide)).trans (Frl.sf (by decide))
  · rw [e2, vi_seti, if_pos ⟨rfl, rfl⟩, List.length_append]; rfl
  · rw [List.length_append] at hi
    have hi : i < T.length + 1 := hi
    rw [e2, vi_seti, if_neg (by omega), e1, vi_seti]
    by_cases y : i = T.length
    · rw [if_pos ⟨rfl, y⟩, y, gA_r]
    · rw [if_neg (fun z => y z.2), gA_l (by omega)]; exact h.2 i (by omega)
theorem s_putsIn {q : Nat} {T : List Int32} {Q : Mem → Prop} (R : RS M m S) (hp : pOk S p) (tk : bR M (m + 31) p) (q2 : q ≤ 200) (h : txR M m T) (l2 : T.length + 20 < 2000) (hq : ∀ M', Frl m [44] [30] M M' → txR M' m (T ++ iTx S p q) → Q M') : CV G (d + 2) 236 [.ref m, .int (nI q)] M Q := by
  have V := R.2.1
  refine r_putsIn R.1 ?_
  have key : ∀ (j i : Nat), j + i = 64 → (∀ o, o < i → ¬ isI S p q o) → At G (d + 2) 236 2 [(0, .ref m), (1, .int (nI q)), (2, .int (nI i))] [] M (qV Q) := by
    intro j
    induction j with
    | zero =>
      intro i e no
      refine r_putsIn_2 R.1 ⟨fun _ => ?_, fun z => absurd (show (64 : Int32) ≤ nI i from nI_le (a := 64) (by omega) (by omega)) z⟩
      have ei : iTx S p q = [] := by unfold iTx; rw [fst_n 64 (fun o ho => no o (by omega)), cif_F (by omega)]
      rw [ei, List.append_nil] at hq
      exact hq M Frl.refl h
    | succ j ih =>
      intro i e no
      have v6 : vp_in (nI i) 64 := vp_in_nI (by omega) (by omega)
      have nx : ¬ isI S p q i → At G (d + 2) 236 2 [(0, .ref m), (1, .int (nI q)), (2, .int (nI (i + 1)))] [] M (qV Q) := fun n => ih (i + 1) (by omega) (fun o ho => by
        rcases Nat.lt_or_ge o i with z | z
        · exact no o z
        · rw [show o = i by omega]; exact n)
      refine r_putsIn_2 R.1 ⟨fun z => absurd z (nI_ge (a := i) (b := 64) (by omega) (by decide)), fun _ => ⟨v6, ?_⟩⟩
      rw [nI_clamp (by omega), tk i (by omega), nI_1]
      refine bz (fun pi => ⟨v6, ?_⟩) (fun pi => nx (fun z => pi z.1))
      have is := hp.1 i pi
      rw [R.2.2.m7 is, R.2.2.m8 is]
      refine ⟨fun n => nx (fun z => n z.2.1), fun e0 => ⟨v6, fun n => nx (fun z => n z.2.2), fun eq => ?_⟩⟩
      have ii : isI S p q i := ⟨pi, e0, eq⟩
      have ei : iTx S p q = kX (kM S i) := by
        unfold iTx
        rw [fst_y (p := isI S p q) ii no 64 (by omega), cif_T (by omega)]
      rw [ei] at hq
      have x20 := len20 V is
      have kl : kL (kM S i) = nI (kX (kM S i)).length := by unfold kL; rw [if_pos e0]
      have k2 : ∀ (j k : Nat) (Mx : Mem), j + k = (kX (kM S i)).length → Frl m [44] [30] M Mx → txR Mx m (T ++ (kX (kM S i)).take k) → At G (d + 2) 236 38 [(0, .ref m), (2, .int (nI i)), (3, .int (nI k))] [] Mx (qV Q) := by
        intro j
        induction j with
        | zero =>
          intro k Mx ek gx tx
          refine r_putsIn_38 (gx.ra R.1) ⟨v6, ?_⟩
          rw [nI_clamp (by omega), gx.i (by decide) (by decide), R.2.2.m11 is, kl, le_I (by omega) (by omega)]
          rw [show k = (kX (kM S i)).length by omega, List.take_length] at tx
          exact ⟨fun _ => hq Mx gx tx, fun z => absurd (by omega) z⟩
        | succ j ih2 =>
          intro k Mx ek gx tx
          have x12 : vi Mx (m + 12) (20 * i + k) = (kX (kM S i)).getD k 0 := by rw [gx.i (by decide) (by decide)]; exact R.2.2.m12 is (by omega)
          refine r_putsIn_38 (gx.ra R.1) ⟨v6, ?_⟩
          rw [nI_clamp (n := i) (by omega), gx.i (by decide) (by decide), R.2.2.m11 is, kl, le_I (by omega) (by omega), show (20 : Int32) = nI 20 from rfl, pk_mul, nI_add, nI_clamp (by omega), x12, nI_1]
          refine ⟨fun z => absurd z (by omega), fun _ => ⟨vp_in_nI (by omega) (by omega), s_writes (gx.ra R.1) tx (by rw [List.length_append, List.length_take]; omega) (fun M1 g1 t1 => ⟨g1.ra (gx.ra R.1), ?_⟩)⟩⟩
          refine ih2 (k + 1) M1 (by omega) (gx.trans g1) ?_
          have ts : (kX (kM S i)).take (k + 1) = (kX (kM S i)).take k ++ [(kX (kM S i)).getD k 0] := by
            rw [List.take_succ_eq_append_getElem (by omega), List.getD_eq_getElem?_getD, List.getElem?_eq_getElem (by omega)]; rfl
          rw [ts, ← List.append_assoc]
          exact t1
      exact k2 _ 0 M rfl Frl.refl (by rw [List.take_zero, List.append_nil]; exact h)
  exact key 64 0 rfl (fun o ho => absurd ho (Nat.not_lt_zero o))
end
