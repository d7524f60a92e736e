/-! FEWEST: the marks in their order; what is found -/
section
variable {p : Nat → Prop} {S : ShT}
theorem psl_at : ∀ (n i : Nat), i < (psl p n).length → (psl p n).getD i 0 < n ∧ p ((psl p n).getD i 0) ∧ ct p ((psl p n).getD i 0) = i
  | 0, i, h => absurd h (Nat.not_lt_zero i)
  | n + 1, i, h => by
    by_cases c : p n
    · rw [psl_y c] at h ⊢
      rw [List.length_append] at h
      have h : i < (psl p n).length + 1 := h
      by_cases e : i = (psl p n).length
      · rw [e, gA_r]
        exact ⟨by omega, c, (psl_ct n).symm⟩
      · rw [gA_l (by omega)]
        have := psl_at n i (by omega)
        exact ⟨by omega, this.2⟩
    · rw [psl_n c] at h ⊢
      have := psl_at n i h
      exact ⟨by omega, this.2⟩
theorem psl_of : ∀ (n s : Nat), s < n → p s → ct p s < (psl p n).length ∧ (psl p n).getD (ct p s) 0 = s
  | 0, s, h, _ => absurd h (Nat.not_lt_zero s)
  | n + 1, s, h, hs => by
    by_cases e : s = n
    · subst e
      rw [psl_y hs, ← psl_ct, gA_r, List.length_append]
      exact ⟨by show _ < _ + 1; omega, rfl⟩
    · have ih := psl_of n s (by omega) hs
      by_cases c : p n
      · rw [psl_y c, List.length_append, gA_l ih.1]
        exact ⟨by show _ < _ + 1; omega, ih.2⟩
      · rw [psl_n c]; exact ih
theorem ct_16 (V : okS S) {h : Nat} : ∀ k, k ≤ 16 → ct (isM S) (16 * h + k) = ct (isM S) (16 * h) + min k (hC S h)
  | 0, _ => by rw [Nat.add_zero]; omega
  | k + 1, hk => by
    have ih := ct_16 V (h := h) k (by omega)
    have e1 : (16 * h + k) / 16 = h := by omega
    have e2 : (16 * h + k) % 16 = k := by omega
    have im : isM S (16 * h + k) ↔ h < hN S ∧ k < hC S h := by unfold isM; rw [e1, e2]
    by_cases c : k < hC S h
    · have hh : h < hN S := by
        rcases Nat.lt_or_ge h (hN S) with z | z
        · exact z
        · have := V.c0 z; omega
      rw [← Nat.add_assoc, ct_y (im.mpr ⟨hh, c⟩), ih]; omega
    · rw [← Nat.add_assoc, ct_n (fun z => c (im.mp z).2), ih]; omega
theorem ct_all (V : okS S) : ∀ h, ct (isM S) (16 * h) = allM S h
  | 0 => rfl
  | h + 1 => by
    have := ct_16 V (h := h) 16 (Nat.le_refl _)
    have c := V.c h
    rw [show 16 * (h + 1) = 16 * h + 16 by omega, this, ct_all V h]
    show _ = allM S h + hC S h
    omega
/-- the marks, in their order -/
noncomputable def tgL (S : ShT) : List Nat := psl (isM S) 64
theorem tg_len (V : okS S) : (tgL S).length = allM S 4 := by unfold tgL; rw [psl_ct, ← ct_all V 4]
theorem tg_at {i : Nat} (h : i < (tgL S).length) : (tgL S).getD i 0 < 64 ∧ isM S ((tgL S).getD i 0) ∧ ct (isM S) ((tgL S).getD i 0) = i := psl_at 64 i h
theorem tg_of (V : okS S) {s : Nat} (h : isM S s) : ct (isM S) s < (tgL S).length ∧ (tgL S).getD (ct (isM S) s) 0 = s := psl_of 64 s (isM_lt V h) h
theorem ch_at {z i : Nat} (h : i < (tgL S).length) : chS S z ((tgL S).getD i 0) ↔ z.testBit i = true := by
  unfold chS
  have := tg_at h
  rw [this.2.2]
  exact ⟨fun q => q.2, fun q => ⟨this.2.1, q⟩⟩
theorem ch_of (V : okS S) {z s : Nat} (h : chS S z s) : ∃ i, i < (tgL S).length ∧ (tgL S).getD i 0 = s ∧ z.testBit i = true := ⟨ct (isM S) s, (tg_of V h.1).1, (tg_of V h.1).2, h.2⟩
theorem tg_inj {i j : Nat} (hi : i < (tgL S).length) (hj : j < (tgL S).length) (h : (tgL S).getD i 0 = (tgL S).getD j 0) : i = j := by
  have h1 := (tg_at hi).2.2
  have h2 := (tg_at hj).2.2
  rw [h] at h1
  omega
/-- no clash among the chosen -/
def fre (S : ShT) (z : Nat) : Prop := ∀ s o, chS S z s → chS S z o → ck (kM S s) (kM S o) = 0
theorem fre_ok {z : Nat} (h : fre S z) : pOk S (chS S z) := ⟨fun s hs => hs.1, h⟩
/-- by their numbers -/
theorem fre_i (V : okS S) {z : Nat} : fre S z ↔ ∀ i, i < (tgL S).length → z.testBit i = true → ∀ j, j < (tgL S).length → z.testBit j = true → ck (kM S ((tgL S).getD i 0)) (kM S ((tgL S).getD j 0)) = 0 := by
  refine ⟨fun h i hi zi j hj zj => h _ _ ((ch_at hi).mpr zi) ((ch_at hj).mpr zj), fun h s o hs ho => ?_⟩
  obtain ⟨i, hi, ei, zi⟩ := ch_of V hs
  obtain ⟨j, hj, ej, zj⟩ := ch_of V ho
  rw [← ei, ← ej]
  exact h i hi zi j hj zj
/-- the clashes of one, as bits -/
def clB (S : ShT) (i n x : Nat) : Prop := x < 4096 ∧ ∀ j, x.testBit j = true ↔ j < n ∧ ¬ ck (kM S ((tgL S).getD i 0)) (kM S ((tgL S).getD j 0)) = 0
theorem clB_0 {i : Nat} : clB S i 0 0 := ⟨by decide, fun j => by rw [Nat.zero_testBit]; exact ⟨fun z => (by cases z), fun z => absurd z.1 (Nat.not_lt_zero j)⟩⟩
theorem clB_n {i n x : Nat} (h : clB S i n x) (c : ck (kM S ((tgL S).getD i 0)) (kM S ((tgL S).getD n 0)) = 0) : clB S i (n + 1) x := ⟨h.1, fun j => by
  rw [h.2]
  refine ⟨fun z => ⟨by omega, z.2⟩, fun z => ⟨?_, z.2⟩⟩
  by_cases e : j = n
  · rw [e] at z; exact absurd c z.2
  · omega⟩
theorem clB_y {i n x : Nat} (n2 : n < 12) (h : clB S i n x) (c : ¬ ck (kM S ((tgL S).getD i 0)) (kM S ((tgL S).getD n 0)) = 0) : clB S i (n + 1) (x ||| 2 ^ n) := by
  refine ⟨?_, fun j => ?_⟩
  · have h2 : 2 ^ n < 2 ^ 12 := Nat.pow_lt_pow_right (by decide) n2
    exact Nat.or_lt_two_pow (n := 12) h.1 h2
  · rw [Nat.testBit_or, Bool.or_eq_true, h.2, Nat.testBit_two_pow, decide_eq_true_iff]
    refine ⟨fun z => ?_, fun z => ?_⟩
    · rcases z with z | z
      · exact ⟨by omega, z.2⟩
      · rw [← z]; exact ⟨by omega, c⟩
    · by_cases e : n = j
      · exact Or.inr e
      · exact Or.inl ⟨by omega, z.2⟩
theorem land_0 {x z : Nat} : (x &&& z) = 0 ↔ ∀ j, ¬ (x.testBit j = true ∧ z.testBit j = true) := by
  refine ⟨fun h j q => ?_, fun h => Nat.eq_of_testBit_eq (fun j => ?_)⟩
  · have : (x &&& z).testBit j = true := by rw [Nat.testBit_and, q.1, q.2]; rfl
    rw [h, Nat.zero_testBit] at this; cases this
  · rw [Nat.zero_testBit, Nat.testBit_and]
    by_cases a : x.testBit j = true
    · by_cases b : z.testBit j = true
      · exact absurd ⟨a, b⟩ (h j)
      · rw [Bool.not_eq_true] at b; rw [b, Bool.and_false]
    · rw [Bool.not_eq_true] at a; rw [a, Bool.false_and]
/-- what the bits of one say of a set -/
theorem cl_and {i x z : Nat} (h : clB S i (tgL S).length x) (hz : z < 2 ^ (tgL S).length) : (x &&& z) = 0 ↔ ∀ j, j < (tgL S).length → z.testBit j = true → ck (kM S ((tgL S).getD i 0)) (kM S ((tgL S).getD j 0)) = 0 := by
  rw [land_0]
  refine ⟨fun q j hj zj => Classical.byContradiction (fun c => q j ⟨(h.2 j).mpr ⟨hj, c⟩, zj⟩), fun q j w => ?_⟩
  have := (h.2 j).mp w.1
  exact this.2 (q j this.1 w.2)
theorem pop_le {y n : Nat} (h : y < 2 ^ n) : ∀ k, pop k y ≤ n
  | 0 => Nat.zero_le _
  | k + 1 => by
    have ih := pop_le h k
    show pop k y + (if y.testBit k then 1 else 0) ≤ n
    by_cases c : k < n
    · have key : ∀ m, pop m y ≤ m := by
        intro m
        induction m with
        | zero => exact Nat.le_refl _
        | succ m ihm => show pop m y + (if y.testBit m then 1 else 0) ≤ m + 1; split <;> omega
      have := key k
      split <;> omega
    · have : y.testBit k = false := Nat.testBit_lt_two_pow (Nat.lt_of_lt_of_le h (Nat.pow_le_pow_right (by decide) (by omega)))
      rw [this]
      simpa using ih
noncomputable def few (S : ShT) : Int32 := Classical.epsilon (fun v => isFew S v)
theorem few_u (V : okS S) (n2 : allM S 4 ≤ 12) {v v' : Int32} (h : isFew S v) (h' : isFew S v') : v = v' := by
  have lt : 2 ^ allM S 4 ≤ 2 ^ 12 := Nat.pow_le_pow_right (by decide) n2
  rcases h with ⟨z, h1, h2, h3, h4⟩ | ⟨h1, h2⟩
  · rcases h' with ⟨z', k1, k2, k3, k4⟩ | ⟨k1, k2⟩
    · have a := h4 z' k1 k3
      have b := k4 z h1 h3
      have : z = z' := by omega
      rw [h2, k2, this]
    · exact absurd h3 (k2 z h1)
  · rcases h' with ⟨z', k1, k2, k3, k4⟩ | ⟨k1, k2⟩
    · exact absurd k3 (h2 z' k1)
    · rw [h1, k1]
theorem few_e (V : okS S) (n2 : allM S 4 ≤ 12) {v : Int32} (h : isFew S v) : few S = v := few_u V n2 (Classical.epsilon_spec (p := fun v => isFew S v) ⟨v, h⟩) h
/-- nothing good before a set -/
def nog (S : ShT) (k z : Nat) : Prop := ∀ y, y < 2 ^ allM S 4 → isGd S y → ¬ (pop 12 y < k ∨ (pop 12 y = k ∧ y < z))
theorem nog_0 : nog S 0 0 := fun y _ _ h => by omega
theorem nog_n {k z : Nat} (h : nog S k z) (c : ¬ (pop 12 z = k ∧ isGd S z)) : nog S k (z + 1) := fun y hy gy q => by
  by_cases e : y = z
  · subst e
    by_cases w : pop 12 y = k
    · exact c ⟨w, gy⟩
    · exact h y hy gy (by omega)
  · exact h y hy gy (by omega)
theorem nog_s {k : Nat} (h : nog S k (2 ^ allM S 4)) : nog S (k + 1) 0 := fun y hy gy q => h y hy gy (by omega)
theorem nog_y {k z : Nat} (h : nog S k z) (hz : z < 2 ^ allM S 4) (c : pop 12 z = k) (g : isGd S z) : isFew S (nI z) := Or.inl ⟨z, hz, rfl, g, fun y hy gy => by
  have := h y hy gy
  omega⟩
theorem nog_e (h : nog S (allM S 4 + 1) 0) : isFew S (-2) := Or.inr ⟨rfl, fun y hy gy => h y hy gy (by have := pop_le hy 12; omega)⟩
end
noncomputable def f_fewest (T : StT) : Int32 := cif (allM (sh T) 4 ≤ 12) (few (sh T)) (-1)
