/-! THE VERIFICATION CONDITION IS SOUND -/
theorem wI_e {st : List Value} {f : Int32 → List Value → Prop} (h : wI st f) : ∃ p st', st = .int p :: st' ∧ f p st' := by
  unfold wI at h; split at h
  · exact ⟨_, _, rfl, h⟩
  · exact h.elim
theorem wII_e {st : List Value} {f : Int32 → Int32 → List Value → Prop} (h : wII st f) : ∃ p q st', st = .int q :: .int p :: st' ∧ f p q st' := by
  unfold wII at h; split at h
  · exact ⟨_, _, _, rfl, h⟩
  · exact h.elim
theorem wL_e {st : List Value} {f : Int64 → List Value → Prop} (h : wL st f) : ∃ p st', st = .long p :: st' ∧ f p st' := by
  unfold wL at h; split at h
  · exact ⟨_, _, rfl, h⟩
  · exact h.elim
theorem wLL_e {st : List Value} {f : Int64 → Int64 → List Value → Prop} (h : wLL st f) : ∃ p q st', st = .long q :: .long p :: st' ∧ f p q st' := by
  unfold wLL at h; split at h
  · exact ⟨_, _, _, rfl, h⟩
  · exact h.elim
theorem wLI_e {st : List Value} {f : Int64 → Int32 → List Value → Prop} (h : wLI st f) : ∃ p q st', st = .int q :: .long p :: st' ∧ f p q st' := by
  unfold wLI at h; split at h
  · exact ⟨_, _, _, rfl, h⟩
  · exact h.elim
theorem wA_e {st : List Value} {f : Nat → List Value → Prop} (h : wA st f) : ∃ p st', st = .ref p :: st' ∧ f p st' := by
  unfold wA at h; split at h
  · exact ⟨_, _, rfl, h⟩
  · exact h.elim
theorem wIA_e {st : List Value} {f : Nat → Int32 → List Value → Prop} (h : wIA st f) : ∃ a i st', st = .int i :: .ref a :: st' ∧ f a i st' := by
  unfold wIA at h; split at h
  · exact ⟨_, _, _, rfl, h⟩
  · exact h.elim
theorem wIIA_e {st : List Value} {f : Nat → Int32 → Int32 → List Value → Prop} (h : wIIA st f) : ∃ a i x st', st = .int x :: .int i :: .ref a :: st' ∧ f a i x st' := by
  unfold wIIA at h; split at h
  · exact ⟨_, _, _, _, rfl, h⟩
  · exact h.elim
theorem wLIA_e {st : List Value} {f : Nat → Int32 → Int64 → List Value → Prop} (h : wLIA st f) : ∃ a i x st', st = .long x :: .int i :: .ref a :: st' ∧ f a i x st' := by
  unfold wLIA at h; split at h
  · exact ⟨_, _, _, _, rfl, h⟩
  · exact h.elim
theorem wAC_e {st : List Value} {f : Int32 → Int32 → Nat → Int32 → Nat → List Value → Prop} (h : wAC st f) : ∃ n dp a1 sp a0 st', st = .int n :: .int dp :: .ref a1 :: .int sp :: .ref a0 :: st' ∧ f n dp a1 sp a0 st' := by
  unfold wAC at h; split at h
  · exact ⟨_, _, _, _, _, _, rfl, h⟩
  · exact h.elim
theorem wV1_e {st : List Value} {f : Value → List Value → Prop} (h : wV1 st f) : ∃ v st', st = v :: st' ∧ v.category = 1 ∧ f v st' := by
  unfold wV1 at h; split at h
  · exact ⟨_, _, rfl, rfl, h⟩
  · exact ⟨_, _, rfl, rfl, h⟩
  · exact ⟨_, _, rfl, rfl, h⟩
  · exact h.elim
theorem w1r_e {o : Option Value} {f : Value → Prop} (h : w1r o f) : (∃ r, o = some (.ref r) ∧ f (.ref r)) ∨ (o = some .null ∧ f .null) := by
  unfold w1r at h; split at h
  · exact Or.inl ⟨_, rfl, h⟩
  · exact Or.inr ⟨rfl, h⟩
  · exact h.elim
theorem w1i_e {o : Option Value} {f : Int32 → Prop} (h : w1i o f) : ∃ x, o = some (.int x) ∧ f x := by
  unfold w1i at h; split at h
  · exact ⟨_, rfl, h⟩
  · exact h.elim
theorem w1l_e {o : Option Value} {f : Int64 → Prop} (h : w1l o f) : ∃ x, o = some (.long x) ∧ f x := by
  unfold w1l at h; split at h
  · exact ⟨_, rfl, h⟩
  · exact h.elim
theorem wRef_e {o : Option Nat} {f : Value → Prop} (h : wRef o f) : ∃ v, va_rf o = v ∧ f v := by
  rcases h with ⟨r, rfl, h⟩ | ⟨rfl, h⟩
  · exact ⟨_, rfl, h⟩
  · exact ⟨_, rfl, h⟩
theorem wPop_e {n : Nat} {st : List Value} {f : List Value → List Value → Prop} (h : wPop n st f) : ∃ as st', st = as.reverse ++ st' ∧ as.length = n ∧ f as st' := by
  obtain ⟨h1, h2⟩ := h
  refine ⟨(st.take n).reverse, st.drop n, by rw [List.reverse_reverse, List.take_append_drop], by rw [List.length_reverse, List.length_take]; omega, h2⟩
theorem wSw_at {x : Int32} {k : Nat → Prop} : ∀ {ts : List Nat} {lo : Int} {j : Nat} {t : Nat}, wSw x lo k ts → ts[j]? = some t → x.toInt = lo + j → k t
  | [], _, _, _, _, h, _ => by simp at h
  | u :: ts, lo, 0, t, hw, h, hx => by
    simp at h
    subst h
    exact hw.1 (by simpa using hx)
  | u :: ts, lo, j + 1, t, hw, h, hx => wSw_at (lo := lo + 1) (j := j) hw.2 (by simpa using h) (by rw [hx]; push_cast; omega)
theorem okb_dec {cd : ByteArray} {own ml : Nat} {init : Bool} {ret : Option FieldType} {pc len a b t : Nat} {ins : Instr} {x : Int32} {z : Int64} {js : List Nat} (h : okb cd own ml init ret (pc, ins, len, a, b, t, x, z, js) = true) : decode cd pc = .ok (ins, len) := by
  unfold okb at h
  simp only [Bool.and_eq_true] at h
  have h1 := h.1
  split at h1
  · rename_i i' l' hd
    simp only [Bool.and_eq_true, decide_eq_true_eq] at h1
    rw [hd, h1.1, h1.2]
  · cases h1
section
variable {G : GT} {d y : Nat} {k : Nat → Cont} {ls : List (Nat × Value)} {st : List Value} {M : Mem} {Q : Po}
theorem snd_iadd {pc len a b t : Nat} {x : Int32} {z : Int64} {js : List Nat} (hk : ∀ t ls st M Q, k t ls st M Q → At G (d + 1) y t ls st M Q) (ho : Ok y (pc, .iadd, len, a, b, t, x, z, js)) (h : wp1 G d y (pc, .iadd, len, a, b, t, x, z, js) k ls st M Q) : At G (d + 1) y pc ls st M Q := by
  have hd := okb_dec ho
  unfold Ok at ho
  simp only [okb, Bool.and_eq_true, decide_eq_true_eq] at ho
  unfold wp1 at h
  dsimp only at h
  obtain ⟨-, e⟩ := ho
  subst e
  obtain ⟨p, q, st, rfl, h⟩ := wII_e h
  exact at_iadd hd (hk _ _ _ _ _ h)
theorem snd_isub {pc len a b t : Nat} {x : Int32} {z : Int64} {js : List Nat} (hk : ∀ t ls st M Q, k t ls st M Q → At G (d + 1) y t ls st M Q) (ho : Ok y (pc, .isub, len, a, b, t, x, z, js)) (h : wp1 G d y (pc, .isub, len, a, b, t, x, z, js) k ls st M Q) : At G (d + 1) y pc ls st M Q := by
  have hd := okb_dec ho
  unfold Ok at ho
  simp only [okb, Bool.and_eq_true, decide_eq_true_eq] at ho
  unfold wp1 at h
  dsimp only at h
  obtain ⟨-, e⟩ := ho
  subst e
  obtain ⟨p, q, st, rfl, h⟩ := wII_e h
  exact at_isub hd (hk _ _ _ _ _ h)
theorem snd_imul {pc len a b t : Nat} {x : Int32} {z : Int64} {js : List Nat} (hk : ∀ t ls st M Q, k t ls st M Q → At G (d + 1) y t ls st M Q) (ho : Ok y (pc, .imul, len, a, b, t, x, z, js)) (h : wp1 G d y (pc, .imul, len, a, b, t, x, z, js) k ls st M Q) : At G (d + 1) y pc ls st M Q := by
  have hd := okb_dec ho
  unfold Ok at ho
  simp only [okb, Bool.and_eq_true, decide_eq_true_eq] at ho
  unfold wp1 at h
  dsimp only at h
  obtain ⟨-, e⟩ := ho
  subst e
  obtain ⟨p, q, st, rfl, h⟩ := wII_e h
  exact at_imul hd (hk _ _ _ _ _ h)
theorem snd_iand {pc len a b t : Nat} {x : Int32} {z : Int64} {js : List Nat} (hk : ∀ t ls st M Q, k t ls st M Q → At G (d + 1) y t ls st M Q) (ho : Ok y (pc, .iand, len, a, b, t, x, z, js)) (h : wp1 G d y (pc, .iand, len, a, b, t, x, z, js) k ls st M Q) : At G (d + 1) y pc ls st M Q := by
  have hd := okb_dec ho
  unfold Ok at ho
  simp only [okb, Bool.and_eq_true, decide_eq_true_eq] at ho
  unfold wp1 at h
  dsimp only at h
  obtain ⟨-, e⟩ := ho
  subst e
  obtain ⟨p, q, st, rfl, h⟩ := wII_e h
  exact at_iand hd (hk _ _ _ _ _ h)
theorem snd_ior {pc len a b t : Nat} {x : Int32} {z : Int64} {js : List Nat} (hk : ∀ t ls st M Q, k t ls st M Q → At G (d + 1) y t ls st M Q) (ho : Ok y (pc, .ior, len, a, b, t, x, z, js)) (h : wp1 G d y (pc, .ior, len, a, b, t, x, z, js) k ls st M Q) : At G (d + 1) y pc ls st M Q := by
  have hd := okb_dec ho
  unfold Ok at ho
  simp only [okb, Bool.and_eq_true, decide_eq_true_eq] at ho
  unfold wp1 at h
  dsimp only at h
  obtain ⟨-, e⟩ := ho
  subst e
  obtain ⟨p, q, st, rfl, h⟩ := wII_e h
  exact at_ior hd (hk _ _ _ _ _ h)
theorem snd_ixor {pc len a b t : Nat} {x : Int32} {z : Int64} {js : List Nat} (hk : ∀ t ls st M Q, k t ls st M Q → At G (d + 1) y t ls st M Q) (ho : Ok y (pc, .ixor, len, a, b, t, x, z, js)) (h : wp1 G d y (pc, .ixor, len, a, b, t, x, z, js) k ls st M Q) : At G (d + 1) y pc ls st M Q := by
  have hd := okb_dec ho
  unfold Ok at ho
  simp only [okb, Bool.and_eq_true, decide_eq_true_eq] at ho
  unfold wp1 at h
  dsimp only at h
  obtain ⟨-, e⟩ := ho
  subst e
  obtain ⟨p, q, st, rfl, h⟩ := wII_e h
  exact at_ixor hd (hk _ _ _ _ _ h)
theorem snd_ishl {pc len a b t : Nat} {x : Int32} {z : Int64} {js : List Nat} (hk : ∀ t ls st M Q, k t ls st M Q → At G (d + 1) y t ls st M Q) (ho : Ok y (pc, .ishl, len, a, b, t, x, z, js)) (h : wp1 G d y (pc, .ishl, len, a, b, t, x, z, js) k ls st M Q) : At G (d + 1) y pc ls st M Q := by
  have hd := okb_dec ho
  unfold Ok at ho
  simp only [okb, Bool.and_eq_true, decide_eq_true_eq] at ho
  unfold wp1 at h
  dsimp only at h
  obtain ⟨-, e⟩ := ho
  subst e
  obtain ⟨p, q, st, rfl, h⟩ := wII_e h
  exact at_ishl hd (hk _ _ _ _ _ h)
theorem snd_ishr {pc len a b t : Nat} {x : Int32} {z : Int64} {js : List Nat} (hk : ∀ t ls st M Q, k t ls st M Q → At G (d + 1) y t ls st M Q) (ho : Ok y (pc, .ishr, len, a, b, t, x, z, js)) (h : wp1 G d y (pc, .ishr, len, a, b, t, x, z, js) k ls st M Q) : At G (d + 1) y pc ls st M Q := by
  have hd := okb_dec ho
  unfold Ok at ho
  simp only [okb, Bool.and_eq_true, decide_eq_true_eq] at ho
  unfold wp1 at h
  dsimp only at h
  obtain ⟨-, e⟩ := ho
  subst e
  obtain ⟨p, q, st, rfl, h⟩ := wII_e h
  exact at_ishr hd (hk _ _ _ _ _ h)
theorem snd_iushr {pc len a b t : Nat} {x : Int32} {z : Int64} {js : List Nat} (hk : ∀ t ls st M Q, k t ls st M Q → At G (d + 1) y t ls st M Q) (ho : Ok y (pc, .iushr, len, a, b, t, x, z, js)) (h : wp1 G d y (pc, .iushr, len, a, b, t, x, z, js) k ls st M Q) : At G (d + 1) y pc ls st M Q := by
  have hd := okb_dec ho
  unfold Ok at ho
  simp only [okb, Bool.and_eq_true, decide_eq_true_eq] at ho
  unfold wp1 at h
  dsimp only at h
  obtain ⟨-, e⟩ := ho
  subst e
  obtain ⟨p, q, st, rfl, h⟩ := wII_e h
  exact at_iushr hd (hk _ _ _ _ _ h)
theorem snd_idiv {pc len a b t : Nat} {x : Int32} {z : Int64} {js : List Nat} (hk : ∀ t ls st M Q, k t ls st M Q → At G (d + 1) y t ls st M Q) (ho : Ok y (pc, .idiv, len, a, b, t, x, z, js)) (h : wp1 G d y (pc, .idiv, len, a, b, t, x, z, js) k ls st M Q) : At G (d + 1) y pc ls st M Q := by
  have hd := okb_dec ho
  unfold Ok at ho
  simp only [okb, Bool.and_eq_true, decide_eq_true_eq] at ho
  unfold wp1 at h
  dsimp only at h
  obtain ⟨-, e⟩ := ho
  subst e
  obtain ⟨p, q, st, rfl, hne, h⟩ := wII_e h
  exact at_idiv hd hne (hk _ _ _ _ _ h)
theorem snd_irem {pc len a b t : Nat} {x : Int32} {z : Int64} {js : List Nat} (hk : ∀ t ls st M Q, k t ls st M Q → At G (d + 1) y t ls st M Q) (ho : Ok y (pc, .irem, len, a, b, t, x, z, js)) (h : wp1 G d y (pc, .irem, len, a, b, t, x, z, js) k ls st M Q) : At G (d + 1) y pc ls st M Q := by
  have hd := okb_dec ho
  unfold Ok at ho
  simp only [okb, Bool.and_eq_true, decide_eq_true_eq] at ho
  unfold wp1 at h
  dsimp only at h
  obtain ⟨-, e⟩ := ho
  subst e
  obtain ⟨p, q, st, rfl, hne, h⟩ := wII_e h
  exact at_irem hd hne (hk _ _ _ _ _ h)
theorem snd_ladd {pc len a b t : Nat} {x : Int32} {z : Int64} {js : List Nat} (hk : ∀ t ls st M Q, k t ls st M Q → At G (d + 1) y t ls st M Q) (ho : Ok y (pc, .ladd, len, a, b, t, x, z, js)) (h : wp1 G d y (pc, .ladd, len, a, b, t, x, z, js) k ls st M Q) : At G (d + 1) y pc ls st M Q := by
  have hd := okb_dec ho
  unfold Ok at ho
  simp only [okb, Bool.and_eq_true, decide_eq_true_eq] at ho
  unfold wp1 at h
  dsimp only at h
  obtain ⟨-, e⟩ := ho
  subst e
  obtain ⟨p, q, st, rfl, h⟩ := wLL_e h
  exact at_ladd hd (hk _ _ _ _ _ h)
theorem snd_lsub {pc len a b t : Nat} {x : Int32} {z : Int64} {js : List Nat} (hk : ∀ t ls st M Q, k t ls st M Q → At G (d + 1) y t ls st M Q) (ho : Ok y (pc, .lsub, len, a, b, t, x, z, js)) (h : wp1 G d y (pc, .lsub, len, a, b, t, x, z, js) k ls st M Q) : At G (d + 1) y pc ls st M Q := by
  have hd := okb_dec ho
  unfold Ok at ho
  simp only [okb, Bool.and_eq_true, decide_eq_true_eq] at ho
  unfold wp1 at h
  dsimp only at h
  obtain ⟨-, e⟩ := ho
  subst e
  obtain ⟨p, q, st, rfl, h⟩ := wLL_e h
  exact at_lsub hd (hk _ _ _ _ _ h)
theorem snd_lmul {pc len a b t : Nat} {x : Int32} {z : Int64} {js : List Nat} (hk : ∀ t ls st M Q, k t ls st M Q → At G (d + 1) y t ls st M Q) (ho : Ok y (pc, .lmul, len, a, b, t, x, z, js)) (h : wp1 G d y (pc, .lmul, len, a, b, t, x, z, js) k ls st M Q) : At G (d + 1) y pc ls st M Q := by
  have hd := okb_dec ho
  unfold Ok at ho
  simp only [okb, Bool.and_eq_true, decide_eq_true_eq] at ho
  unfold wp1 at h
  dsimp only at h
  obtain ⟨-, e⟩ := ho
  subst e
  obtain ⟨p, q, st, rfl, h⟩ := wLL_e h
  exact at_lmul hd (hk _ _ _ _ _ h)
theorem snd_land {pc len a b t : Nat} {x : Int32} {z : Int64} {js : List Nat} (hk : ∀ t ls st M Q, k t ls st M Q → At G (d + 1) y t ls st M Q) (ho : Ok y (pc, .land, len, a, b, t, x, z, js)) (h : wp1 G d y (pc, .land, len, a, b, t, x, z, js) k ls st M Q) : At G (d + 1) y pc ls st M Q := by
  have hd := okb_dec ho
  unfold Ok at ho
  simp only [okb, Bool.and_eq_true, decide_eq_true_eq] at ho
  unfold wp1 at h
  dsimp only at h
  obtain ⟨-, e⟩ := ho
  subst e
  obtain ⟨p, q, st, rfl, h⟩ := wLL_e h
  exact at_land hd (hk _ _ _ _ _ h)
theorem snd_lor {pc len a b t : Nat} {x : Int32} {z : Int64} {js : List Nat} (hk : ∀ t ls st M Q, k t ls st M Q → At G (d + 1) y t ls st M Q) (ho : Ok y (pc, .lor, len, a, b, t, x, z, js)) (h : wp1 G d y (pc, .lor, len, a, b, t, x, z, js) k ls st M Q) : At G (d + 1) y pc ls st M Q := by
  have hd := okb_dec ho
  unfold Ok at ho
  simp only [okb, Bool.and_eq_true, decide_eq_true_eq] at ho
  unfold wp1 at h
  dsimp only at h
  obtain ⟨-, e⟩ := ho
  subst e
  obtain ⟨p, q, st, rfl, h⟩ := wLL_e h
  exact at_lor hd (hk _ _ _ _ _ h)
theorem snd_lxor {pc len a b t : Nat} {x : Int32} {z : Int64} {js : List Nat} (hk : ∀ t ls st M Q, k t ls st M Q → At G (d + 1) y t ls st M Q) (ho : Ok y (pc, .lxor, len, a, b, t, x, z, js)) (h : wp1 G d y (pc, .lxor, len, a, b, t, x, z, js) k ls st M Q) : At G (d + 1) y pc ls st M Q := by
  have hd := okb_dec ho
  unfold Ok at ho
  simp only [okb, Bool.and_eq_true, decide_eq_true_eq] at ho
  unfold wp1 at h
  dsimp only at h
  obtain ⟨-, e⟩ := ho
  subst e
  obtain ⟨p, q, st, rfl, h⟩ := wLL_e h
  exact at_lxor hd (hk _ _ _ _ _ h)
theorem snd_lcmp {pc len a b t : Nat} {x : Int32} {z : Int64} {js : List Nat} (hk : ∀ t ls st M Q, k t ls st M Q → At G (d + 1) y t ls st M Q) (ho : Ok y (pc, .lcmp, len, a, b, t, x, z, js)) (h : wp1 G d y (pc, .lcmp, len, a, b, t, x, z, js) k ls st M Q) : At G (d + 1) y pc ls st M Q := by
  have hd := okb_dec ho
  unfold Ok at ho
  simp only [okb, Bool.and_eq_true, decide_eq_true_eq] at ho
  unfold wp1 at h
  dsimp only at h
  obtain ⟨-, e⟩ := ho
  subst e
  obtain ⟨p, q, st, rfl, h⟩ := wLL_e h
  exact at_lcmp hd (hk _ _ _ _ _ h)
theorem snd_ldiv {pc len a b t : Nat} {x : Int32} {z : Int64} {js : List Nat} (hk : ∀ t ls st M Q, k t ls st M Q → At G (d + 1) y t ls st M Q) (ho : Ok y (pc, .ldiv, len, a, b, t, x, z, js)) (h : wp1 G d y (pc, .ldiv, len, a, b, t, x, z, js) k ls st M Q) : At G (d + 1) y pc ls st M Q := by
  have hd := okb_dec ho
  unfold Ok at ho
  simp only [okb, Bool.and_eq_true, decide_eq_true_eq] at ho
  unfold wp1 at h
  dsimp only at h
  obtain ⟨-, e⟩ := ho
  subst e
  obtain ⟨p, q, st, rfl, hne, h⟩ := wLL_e h
  exact at_ldiv hd hne (hk _ _ _ _ _ h)
theorem snd_lshl {pc len a b t : Nat} {x : Int32} {z : Int64} {js : List Nat} (hk : ∀ t ls st M Q, k t ls st M Q → At G (d + 1) y t ls st M Q) (ho : Ok y (pc, .lshl, len, a, b, t, x, z, js)) (h : wp1 G d y (pc, .lshl, len, a, b, t, x, z, js) k ls st M Q) : At G (d + 1) y pc ls st M Q := by
  have hd := okb_dec ho
  unfold Ok at ho
  simp only [okb, Bool.and_eq_true, decide_eq_true_eq] at ho
  unfold wp1 at h
  dsimp only at h
  obtain ⟨-, e⟩ := ho
  subst e
  obtain ⟨p, q, st, rfl, h⟩ := wLI_e h
  exact at_lshl hd (hk _ _ _ _ _ h)
theorem snd_lushr {pc len a b t : Nat} {x : Int32} {z : Int64} {js : List Nat} (hk : ∀ t ls st M Q, k t ls st M Q → At G (d + 1) y t ls st M Q) (ho : Ok y (pc, .lushr, len, a, b, t, x, z, js)) (h : wp1 G d y (pc, .lushr, len, a, b, t, x, z, js) k ls st M Q) : At G (d + 1) y pc ls st M Q := by
  have hd := okb_dec ho
  unfold Ok at ho
  simp only [okb, Bool.and_eq_true, decide_eq_true_eq] at ho
  unfold wp1 at h
  dsimp only at h
  obtain ⟨-, e⟩ := ho
  subst e
  obtain ⟨p, q, st, rfl, h⟩ := wLI_e h
  exact at_lushr hd (hk _ _ _ _ _ h)
theorem snd_i2l {pc len a b t : Nat} {x : Int32} {z : Int64} {js : List Nat} (hk : ∀ t ls st M Q, k t ls st M Q → At G (d + 1) y t ls st M Q) (ho : Ok y (pc, .i2l, len, a, b, t, x, z, js)) (h : wp1 G d y (pc, .i2l, len, a, b, t, x, z, js) k ls st M Q) : At G (d + 1) y pc ls st M Q := by
  have hd := okb_dec ho
  unfold Ok at ho
  simp only [okb, Bool.and_eq_true, decide_eq_true_eq] at ho
  unfold wp1 at h
  dsimp only at h
  obtain ⟨-, e⟩ := ho
  subst e
  obtain ⟨p, st, rfl, h⟩ := wI_e h
  exact at_i2l hd (hk _ _ _ _ _ h)
theorem snd_i2b {pc len a b t : Nat} {x : Int32} {z : Int64} {js : List Nat} (hk : ∀ t ls st M Q, k t ls st M Q → At G (d + 1) y t ls st M Q) (ho : Ok y (pc, .i2b, len, a, b, t, x, z, js)) (h : wp1 G d y (pc, .i2b, len, a, b, t, x, z, js) k ls st M Q) : At G (d + 1) y pc ls st M Q := by
  have hd := okb_dec ho
  unfold Ok at ho
  simp only [okb, Bool.and_eq_true, decide_eq_true_eq] at ho
  unfold wp1 at h
  dsimp only at h
  obtain ⟨-, e⟩ := ho
  subst e
  obtain ⟨p, st, rfl, h⟩ := wI_e h
  exact at_i2b hd (hk _ _ _ _ _ h)
theorem snd_i2c {pc len a b t : Nat} {x : Int32} {z : Int64} {js : List Nat} (hk : ∀ t ls st M Q, k t ls st M Q → At G (d + 1) y t ls st M Q) (ho : Ok y (pc, .i2c, len, a, b, t, x, z, js)) (h : wp1 G d y (pc, .i2c, len, a, b, t, x, z, js) k ls st M Q) : At G (d + 1) y pc ls st M Q := by
  have hd := okb_dec ho
  unfold Ok at ho
  simp only [okb, Bool.and_eq_true, decide_eq_true_eq] at ho
  unfold wp1 at h
  dsimp only at h
  obtain ⟨-, e⟩ := ho
  subst e
  obtain ⟨p, st, rfl, h⟩ := wI_e h
  exact at_i2c hd (hk _ _ _ _ _ h)
theorem snd_l2i {pc len a b t : Nat} {x : Int32} {z : Int64} {js : List Nat} (hk : ∀ t ls st M Q, k t ls st M Q → At G (d + 1) y t ls st M Q) (ho : Ok y (pc, .l2i, len, a, b, t, x, z, js)) (h : wp1 G d y (pc, .l2i, len, a, b, t, x, z, js) k ls st M Q) : At G (d + 1) y pc ls st M Q := by
  have hd := okb_dec ho
  unfold Ok at ho
  simp only [okb, Bool.and_eq_true, decide_eq_true_eq] at ho
  unfold wp1 at h
  dsimp only at h
  obtain ⟨-, e⟩ := ho
  subst e
  obtain ⟨p, st, rfl, h⟩ := wL_e h
  exact at_l2i hd (hk _ _ _ _ _ h)
theorem snd_aconst_null {pc len a b t : Nat} {x : Int32} {z : Int64} {js : List Nat} (hk : ∀ t ls st M Q, k t ls st M Q → At G (d + 1) y t ls st M Q) (ho : Ok y (pc, .aconst_null, len, a, b, t, x, z, js)) (h : wp1 G d y (pc, .aconst_null, len, a, b, t, x, z, js) k ls st M Q) : At G (d + 1) y pc ls st M Q := by
  have hd := okb_dec ho
  unfold Ok at ho
  simp only [okb, Bool.and_eq_true, decide_eq_true_eq] at ho
  unfold wp1 at h
  dsimp only at h
  obtain ⟨-, e⟩ := ho
  subst e
  exact at_null hd (hk _ _ _ _ _ h)
theorem snd_dup {pc len a b t : Nat} {x : Int32} {z : Int64} {js : List Nat} (hk : ∀ t ls st M Q, k t ls st M Q → At G (d + 1) y t ls st M Q) (ho : Ok y (pc, .dup, len, a, b, t, x, z, js)) (h : wp1 G d y (pc, .dup, len, a, b, t, x, z, js) k ls st M Q) : At G (d + 1) y pc ls st M Q := by
  have hd := okb_dec ho
  unfold Ok at ho
  simp only [okb, Bool.and_eq_true, decide_eq_true_eq] at ho
  unfold wp1 at h
  dsimp only at h
  obtain ⟨-, e⟩ := ho
  subst e
  obtain ⟨v, st, rfl, hc, h⟩ := wV1_e h
  exact at_dup hd hc (hk _ _ _ _ _ h)
theorem snd_pop {pc len a b t : Nat} {x : Int32} {z : Int64} {js : List Nat} (hk : ∀ t ls st M Q, k t ls st M Q → At G (d + 1) y t ls st M Q) (ho : Ok y (pc, .pop, len, a, b, t, x, z, js)) (h : wp1 G d y (pc, .pop, len, a, b, t, x, z, js) k ls st M Q) : At G (d + 1) y pc ls st M Q := by
  have hd := okb_dec ho
  unfold Ok at ho
  simp only [okb, Bool.and_eq_true, decide_eq_true_eq] at ho
  unfold wp1 at h
  dsimp only at h
  obtain ⟨-, e⟩ := ho
  subst e
  obtain ⟨v, st, rfl, hc, h⟩ := wV1_e h
  exact at_pop hd hc (hk _ _ _ _ _ h)
theorem snd_dup2 {pc len a b t : Nat} {x : Int32} {z : Int64} {js : List Nat} (hk : ∀ t ls st M Q, k t ls st M Q → At G (d + 1) y t ls st M Q) (ho : Ok y (pc, .dup2, len, a, b, t, x, z, js)) (h : wp1 G d y (pc, .dup2, len, a, b, t, x, z, js) k ls st M Q) : At G (d + 1) y pc ls st M Q := by
  have hd := okb_dec ho
  unfold Ok at ho
  simp only [okb, Bool.and_eq_true, decide_eq_true_eq] at ho
  unfold wp1 at h
  dsimp only at h
  obtain ⟨-, e⟩ := ho
  subst e
  obtain ⟨v, st, rfl, hc, h⟩ := wV1_e h
  obtain ⟨w, st, rfl, hc2, h⟩ := wV1_e h
  exact at_dup2 hd hc hc2 (hk _ _ _ _ _ h)
theorem snd_iload_n {pc len a b t : Nat} {x : Int32} {z : Int64} {js : List Nat} {n : Fin 4} (hk : ∀ t ls st M Q, k t ls st M Q → At G (d + 1) y t ls st M Q) (ho : Ok y (pc, .iload_n n, len, a, b, t, x, z, js)) (h : wp1 G d y (pc, .iload_n n, len, a, b, t, x, z, js) k ls st M Q) : At G (d + 1) y pc ls st M Q := by
  have hd := okb_dec ho
  unfold Ok at ho
  simp only [okb, Bool.and_eq_true, decide_eq_true_eq] at ho
  unfold wp1 at h
  dsimp only at h
  obtain ⟨-, e1, e2⟩ := ho
  subst e2
  obtain ⟨v, hg, h⟩ := w1i_e h
  exact at_iload_n hd e1 hg (hk _ _ _ _ _ h)
theorem snd_iload {pc len a b t : Nat} {x : Int32} {z : Int64} {js : List Nat} {n : Nat} (hk : ∀ t ls st M Q, k t ls st M Q → At G (d + 1) y t ls st M Q) (ho : Ok y (pc, .iload n, len, a, b, t, x, z, js)) (h : wp1 G d y (pc, .iload n, len, a, b, t, x, z, js) k ls st M Q) : At G (d + 1) y pc ls st M Q := by
  have hd := okb_dec ho
  unfold Ok at ho
  simp only [okb, Bool.and_eq_true, decide_eq_true_eq] at ho
  unfold wp1 at h
  dsimp only at h
  obtain ⟨-, e1, e2⟩ := ho
  subst e2
  subst e1
  obtain ⟨v, hg, h⟩ := w1i_e h
  exact at_iload hd hg (hk _ _ _ _ _ h)
theorem snd_lload_n {pc len a b t : Nat} {x : Int32} {z : Int64} {js : List Nat} {n : Fin 4} (hk : ∀ t ls st M Q, k t ls st M Q → At G (d + 1) y t ls st M Q) (ho : Ok y (pc, .lload_n n, len, a, b, t, x, z, js)) (h : wp1 G d y (pc, .lload_n n, len, a, b, t, x, z, js) k ls st M Q) : At G (d + 1) y pc ls st M Q := by
  have hd := okb_dec ho
  unfold Ok at ho
  simp only [okb, Bool.and_eq_true, decide_eq_true_eq] at ho
  unfold wp1 at h
  dsimp only at h
  obtain ⟨-, e1, e2⟩ := ho
  subst e2
  obtain ⟨v, hg, h⟩ := w1l_e h
  exact at_lload_n hd e1 hg (hk _ _ _ _ _ h)
theorem snd_lload {pc len a b t : Nat} {x : Int32} {z : Int64} {js : List Nat} {n : Nat} (hk : ∀ t ls st M Q, k t ls st M Q → At G (d + 1) y t ls st M Q) (ho : Ok y (pc, .lload n, len, a, b, t, x, z, js)) (h : wp1 G d y (pc, .lload n, len, a, b, t, x, z, js) k ls st M Q) : At G (d + 1) y pc ls st M Q := by
  have hd := okb_dec ho
  unfold Ok at ho
  simp only [okb, Bool.and_eq_true, decide_eq_true_eq] at ho
  unfold wp1 at h
  dsimp only at h
  obtain ⟨-, e1, e2⟩ := ho
  subst e2
  subst e1
  obtain ⟨v, hg, h⟩ := w1l_e h
  exact at_lload hd hg (hk _ _ _ _ _ h)
theorem snd_aload_n {pc len a b t : Nat} {x : Int32} {z : Int64} {js : List Nat} {n : Fin 4} (hk : ∀ t ls st M Q, k t ls st M Q → At G (d + 1) y t ls st M Q) (ho : Ok y (pc, .aload_n n, len, a, b, t, x, z, js)) (h : wp1 G d y (pc, .aload_n n, len, a, b, t, x, z, js) k ls st M Q) : At G (d + 1) y pc ls st M Q := by
  have hd := okb_dec ho
  unfold Ok at ho
  simp only [okb, Bool.and_eq_true, decide_eq_true_eq] at ho
  unfold wp1 at h
  dsimp only at h
  obtain ⟨-, e1, e2⟩ := ho
  subst e2
  rcases w1r_e h with ⟨v, hg, h⟩ | ⟨hg, h⟩
  · exact at_aload_n hd e1 hg (hk _ _ _ _ _ h)
  · exact at_aload_nN hd e1 hg (hk _ _ _ _ _ h)
theorem snd_aload {pc len a b t : Nat} {x : Int32} {z : Int64} {js : List Nat} {n : Nat} (hk : ∀ t ls st M Q, k t ls st M Q → At G (d + 1) y t ls st M Q) (ho : Ok y (pc, .aload n, len, a, b, t, x, z, js)) (h : wp1 G d y (pc, .aload n, len, a, b, t, x, z, js) k ls st M Q) : At G (d + 1) y pc ls st M Q := by
  have hd := okb_dec ho
  unfold Ok at ho
  simp only [okb, Bool.and_eq_true, decide_eq_true_eq] at ho
  unfold wp1 at h
  dsimp only at h
  obtain ⟨-, e1, e2⟩ := ho
  subst e2
  subst e1
  rcases w1r_e h with ⟨v, hg, h⟩ | ⟨hg, h⟩
  · exact at_aload hd hg (hk _ _ _ _ _ h)
  · exact at_aloadN hd hg (hk _ _ _ _ _ h)
theorem snd_istore_n {pc len a b t : Nat} {x : Int32} {z : Int64} {js : List Nat} {n : Fin 4} (hk : ∀ t ls st M Q, k t ls st M Q → At G (d + 1) y t ls st M Q) (ho : Ok y (pc, .istore_n n, len, a, b, t, x, z, js)) (h : wp1 G d y (pc, .istore_n n, len, a, b, t, x, z, js) k ls st M Q) : At G (d + 1) y pc ls st M Q := by
  have hd := okb_dec ho
  unfold Ok at ho
  simp only [okb, Bool.and_eq_true, decide_eq_true_eq] at ho
  unfold wp1 at h
  dsimp only at h
  obtain ⟨-, ⟨e1, e2⟩, e3⟩ := ho
  subst e2
  obtain ⟨p, st, rfl, h⟩ := wI_e h
  exact at_istore_n hd e1 e3 (hk _ _ _ _ _ h)
theorem snd_istore {pc len a b t : Nat} {x : Int32} {z : Int64} {js : List Nat} {n : Nat} (hk : ∀ t ls st M Q, k t ls st M Q → At G (d + 1) y t ls st M Q) (ho : Ok y (pc, .istore n, len, a, b, t, x, z, js)) (h : wp1 G d y (pc, .istore n, len, a, b, t, x, z, js) k ls st M Q) : At G (d + 1) y pc ls st M Q := by
  have hd := okb_dec ho
  unfold Ok at ho
  simp only [okb, Bool.and_eq_true, decide_eq_true_eq] at ho
  unfold wp1 at h
  dsimp only at h
  obtain ⟨-, ⟨e1, e2⟩, e3⟩ := ho
  subst e2
  subst e1
  obtain ⟨p, st, rfl, h⟩ := wI_e h
  exact at_istore hd e3 (hk _ _ _ _ _ h)
theorem snd_lstore_n {pc len a b t : Nat} {x : Int32} {z : Int64} {js : List Nat} {n : Fin 4} (hk : ∀ t ls st M Q, k t ls st M Q → At G (d + 1) y t ls st M Q) (ho : Ok y (pc, .lstore_n n, len, a, b, t, x, z, js)) (h : wp1 G d y (pc, .lstore_n n, len, a, b, t, x, z, js) k ls st M Q) : At G (d + 1) y pc ls st M Q := by
  have hd := okb_dec ho
  unfold Ok at ho
  simp only [okb, Bool.and_eq_true, decide_eq_true_eq] at ho
  unfold wp1 at h
  dsimp only at h
  obtain ⟨-, ⟨e1, e2⟩, e3⟩ := ho
  subst e2
  obtain ⟨p, st, rfl, h⟩ := wL_e h
  exact at_lstore_n hd e1 e3 (hk _ _ _ _ _ h)
theorem snd_lstore {pc len a b t : Nat} {x : Int32} {z : Int64} {js : List Nat} {n : Nat} (hk : ∀ t ls st M Q, k t ls st M Q → At G (d + 1) y t ls st M Q) (ho : Ok y (pc, .lstore n, len, a, b, t, x, z, js)) (h : wp1 G d y (pc, .lstore n, len, a, b, t, x, z, js) k ls st M Q) : At G (d + 1) y pc ls st M Q := by
  have hd := okb_dec ho
  unfold Ok at ho
  simp only [okb, Bool.and_eq_true, decide_eq_true_eq] at ho
  unfold wp1 at h
  dsimp only at h
  obtain ⟨-, ⟨e1, e2⟩, e3⟩ := ho
  subst e2
  subst e1
  obtain ⟨p, st, rfl, h⟩ := wL_e h
  exact at_lstore hd e3 (hk _ _ _ _ _ h)
theorem snd_astore_n {pc len a b t : Nat} {x : Int32} {z : Int64} {js : List Nat} {n : Fin 4} (hk : ∀ t ls st M Q, k t ls st M Q → At G (d + 1) y t ls st M Q) (ho : Ok y (pc, .astore_n n, len, a, b, t, x, z, js)) (h : wp1 G d y (pc, .astore_n n, len, a, b, t, x, z, js) k ls st M Q) : At G (d + 1) y pc ls st M Q := by
  have hd := okb_dec ho
  unfold Ok at ho
  simp only [okb, Bool.and_eq_true, decide_eq_true_eq] at ho
  unfold wp1 at h
  dsimp only at h
  obtain ⟨-, ⟨e1, e2⟩, e3⟩ := ho
  subst e2
  split at h
  · exact at_astore_n hd e1 e3 (hk _ _ _ _ _ h)
  · exact at_astore_nN hd e1 e3 (hk _ _ _ _ _ h)
  · exact h.elim
theorem snd_astore {pc len a b t : Nat} {x : Int32} {z : Int64} {js : List Nat} {n : Nat} (hk : ∀ t ls st M Q, k t ls st M Q → At G (d + 1) y t ls st M Q) (ho : Ok y (pc, .astore n, len, a, b, t, x, z, js)) (h : wp1 G d y (pc, .astore n, len, a, b, t, x, z, js) k ls st M Q) : At G (d + 1) y pc ls st M Q := by
  have hd := okb_dec ho
  unfold Ok at ho
  simp only [okb, Bool.and_eq_true, decide_eq_true_eq] at ho
  unfold wp1 at h
  dsimp only at h
  obtain ⟨-, ⟨e1, e2⟩, e3⟩ := ho
  subst e2
  subst e1
  split at h
  · exact at_astore hd e3 (hk _ _ _ _ _ h)
  · exact at_astoreN hd e3 (hk _ _ _ _ _ h)
  · exact h.elim
theorem snd_iconst {pc len a b t : Nat} {x : Int32} {z : Int64} {js : List Nat} {n : Int} (hk : ∀ t ls st M Q, k t ls st M Q → At G (d + 1) y t ls st M Q) (ho : Ok y (pc, .iconst n, len, a, b, t, x, z, js)) (h : wp1 G d y (pc, .iconst n, len, a, b, t, x, z, js) k ls st M Q) : At G (d + 1) y pc ls st M Q := by
  have hd := okb_dec ho
  unfold Ok at ho
  simp only [okb, Bool.and_eq_true, decide_eq_true_eq] at ho
  unfold wp1 at h
  dsimp only at h
  obtain ⟨-, e1, e2⟩ := ho
  subst e2
  exact at_iconst hd e1 (hk _ _ _ _ _ h)
theorem snd_bipush {pc len a b t : Nat} {x : Int32} {z : Int64} {js : List Nat} {n : Int} (hk : ∀ t ls st M Q, k t ls st M Q → At G (d + 1) y t ls st M Q) (ho : Ok y (pc, .bipush n, len, a, b, t, x, z, js)) (h : wp1 G d y (pc, .bipush n, len, a, b, t, x, z, js) k ls st M Q) : At G (d + 1) y pc ls st M Q := by
  have hd := okb_dec ho
  unfold Ok at ho
  simp only [okb, Bool.and_eq_true, decide_eq_true_eq] at ho
  unfold wp1 at h
  dsimp only at h
  obtain ⟨-, e1, e2⟩ := ho
  subst e2
  exact at_bipush hd e1 (hk _ _ _ _ _ h)
theorem snd_sipush {pc len a b t : Nat} {x : Int32} {z : Int64} {js : List Nat} {n : Int} (hk : ∀ t ls st M Q, k t ls st M Q → At G (d + 1) y t ls st M Q) (ho : Ok y (pc, .sipush n, len, a, b, t, x, z, js)) (h : wp1 G d y (pc, .sipush n, len, a, b, t, x, z, js) k ls st M Q) : At G (d + 1) y pc ls st M Q := by
  have hd := okb_dec ho
  unfold Ok at ho
  simp only [okb, Bool.and_eq_true, decide_eq_true_eq] at ho
  unfold wp1 at h
  dsimp only at h
  obtain ⟨-, e1, e2⟩ := ho
  subst e2
  exact at_sipush hd e1 (hk _ _ _ _ _ h)
theorem snd_lconst {pc len a b t : Nat} {x : Int32} {z : Int64} {js : List Nat} {n : Fin 2} (hk : ∀ t ls st M Q, k t ls st M Q → At G (d + 1) y t ls st M Q) (ho : Ok y (pc, .lconst n, len, a, b, t, x, z, js)) (h : wp1 G d y (pc, .lconst n, len, a, b, t, x, z, js) k ls st M Q) : At G (d + 1) y pc ls st M Q := by
  have hd := okb_dec ho
  unfold Ok at ho
  simp only [okb, Bool.and_eq_true, decide_eq_true_eq] at ho
  unfold wp1 at h
  dsimp only at h
  obtain ⟨-, e1, e2⟩ := ho
  subst e2
  exact at_lconst hd e1 (hk _ _ _ _ _ h)
theorem snd_ldc2_w {pc len a b t : Nat} {x : Int32} {z : Int64} {js : List Nat} {n : Nat} (hk : ∀ t ls st M Q, k t ls st M Q → At G (d + 1) y t ls st M Q) (ho : Ok y (pc, .ldc2_w n, len, a, b, t, x, z, js)) (h : wp1 G d y (pc, .ldc2_w n, len, a, b, t, x, z, js) k ls st M Q) : At G (d + 1) y pc ls st M Q := by
  have hd := okb_dec ho
  unfold Ok at ho
  simp only [okb, Bool.and_eq_true, decide_eq_true_eq] at ho
  unfold wp1 at h
  dsimp only at h
  obtain ⟨-, e1, e2⟩ := ho
  subst e1
  exact at_ldc2 hd e2 (hk _ _ _ _ _ h)
theorem snd_ldc {pc len a b t : Nat} {x : Int32} {z : Int64} {js : List Nat} {n : Nat} (hk : ∀ t ls st M Q, k t ls st M Q → At G (d + 1) y t ls st M Q) (ho : Ok y (pc, .ldc n, len, a, b, t, x, z, js)) (h : wp1 G d y (pc, .ldc n, len, a, b, t, x, z, js) k ls st M Q) : At G (d + 1) y pc ls st M Q := by
  have hd := okb_dec ho
  unfold Ok at ho
  simp only [okb, Bool.and_eq_true, decide_eq_true_eq] at ho
  unfold wp1 at h
  dsimp only at h
  obtain ⟨-, e1, e2⟩ := ho
  subst e1
  simp only [Bool.or_eq_true, Bool.and_eq_true, decide_eq_true_eq] at e2
  rcases e2 with ⟨rfl, e2⟩ | ⟨rfl, e2⟩
  · exact at_ldc hd e2 (hk _ _ _ _ _ h)
  · split at e2
    · rename_i q hq
      simp only [Bool.and_eq_true, decide_eq_true_eq] at e2
      obtain ⟨q1, q2, q3⟩ := q
      obtain ⟨rfl, rfl⟩ := e2
      exact at_ldcS hd hq (hk _ _ _ _ _ h)
    · cases e2
theorem snd_ldc_w {pc len a b t : Nat} {x : Int32} {z : Int64} {js : List Nat} {n : Nat} (hk : ∀ t ls st M Q, k t ls st M Q → At G (d + 1) y t ls st M Q) (ho : Ok y (pc, .ldc_w n, len, a, b, t, x, z, js)) (h : wp1 G d y (pc, .ldc_w n, len, a, b, t, x, z, js) k ls st M Q) : At G (d + 1) y pc ls st M Q := by
  have hd := okb_dec ho
  unfold Ok at ho
  simp only [okb, Bool.and_eq_true, decide_eq_true_eq] at ho
  unfold wp1 at h
  dsimp only at h
  obtain ⟨-, e1, e2⟩ := ho
  subst e1
  simp only [Bool.or_eq_true, Bool.and_eq_true, decide_eq_true_eq] at e2
  rcases e2 with ⟨rfl, e2⟩ | ⟨rfl, e2⟩
  · exact at_ldcw hd e2 (hk _ _ _ _ _ h)
  · split at e2
    · rename_i q hq
      simp only [Bool.and_eq_true, decide_eq_true_eq] at e2
      obtain ⟨q1, q2, q3⟩ := q
      obtain ⟨rfl, rfl⟩ := e2
      exact at_ldcwS hd hq (hk _ _ _ _ _ h)
    · cases e2
theorem snd_iinc {pc len a b t : Nat} {x : Int32} {z : Int64} {js : List Nat} {n : Nat} {c : Int} (hk : ∀ t ls st M Q, k t ls st M Q → At G (d + 1) y t ls st M Q) (ho : Ok y (pc, .iinc n c, len, a, b, t, x, z, js)) (h : wp1 G d y (pc, .iinc n c, len, a, b, t, x, z, js) k ls st M Q) : At G (d + 1) y pc ls st M Q := by
  have hd := okb_dec ho
  unfold Ok at ho
  simp only [okb, Bool.and_eq_true, decide_eq_true_eq] at ho
  unfold wp1 at h
  dsimp only at h
  obtain ⟨-, ⟨⟨e1, e2⟩, e3⟩, e4⟩ := ho
  subst e2
  subst e1
  obtain ⟨v, hg, h⟩ := w1i_e h
  exact at_iinc hd e3 e4 hg (hk _ _ _ _ _ h)
theorem snd_goto {pc len a b t : Nat} {x : Int32} {z : Int64} {js : List Nat} {off : Int} (hk : ∀ t ls st M Q, k t ls st M Q → At G (d + 1) y t ls st M Q) (ho : Ok y (pc, .goto off, len, a, b, t, x, z, js)) (h : wp1 G d y (pc, .goto off, len, a, b, t, x, z, js) k ls st M Q) : At G (d + 1) y pc ls st M Q := by
  have hd := okb_dec ho
  unfold Ok at ho
  simp only [okb, Bool.and_eq_true, decide_eq_true_eq] at ho
  unfold wp1 at h
  dsimp only at h
  obtain ⟨-, e1, e2⟩ := ho
  subst e2
  exact at_goto hd e1 (hk _ _ _ _ _ h)
theorem snd_if_eq {pc len a b t : Nat} {x : Int32} {z : Int64} {js : List Nat} {off : Int} (hk : ∀ t ls st M Q, k t ls st M Q → At G (d + 1) y t ls st M Q) (ho : Ok y (pc, .ifCond .eq off, len, a, b, t, x, z, js)) (h : wp1 G d y (pc, .ifCond .eq off, len, a, b, t, x, z, js) k ls st M Q) : At G (d + 1) y pc ls st M Q := by
  have hd := okb_dec ho
  unfold Ok at ho
  simp only [okb, Bool.and_eq_true, decide_eq_true_eq] at ho
  unfold wp1 at h
  dsimp only at h
  obtain ⟨-, e1, e2⟩ := ho
  subst e2
  obtain ⟨p, st, rfl, h⟩ := wI_e h
  exact at_if_eq hd e1 (fun c => hk _ _ _ _ _ (h.1 c)) (fun c => hk _ _ _ _ _ (h.2 c))
theorem snd_icmp_eq {pc len a b t : Nat} {x : Int32} {z : Int64} {js : List Nat} {off : Int} (hk : ∀ t ls st M Q, k t ls st M Q → At G (d + 1) y t ls st M Q) (ho : Ok y (pc, .if_icmp .eq off, len, a, b, t, x, z, js)) (h : wp1 G d y (pc, .if_icmp .eq off, len, a, b, t, x, z, js) k ls st M Q) : At G (d + 1) y pc ls st M Q := by
  have hd := okb_dec ho
  unfold Ok at ho
  simp only [okb, Bool.and_eq_true, decide_eq_true_eq] at ho
  unfold wp1 at h
  dsimp only at h
  obtain ⟨-, e1, e2⟩ := ho
  subst e2
  obtain ⟨p, q, st, rfl, h⟩ := wII_e h
  exact at_icmp_eq hd e1 (fun c => hk _ _ _ _ _ (h.1 c)) (fun c => hk _ _ _ _ _ (h.2 c))
theorem snd_if_ne {pc len a b t : Nat} {x : Int32} {z : Int64} {js : List Nat} {off : Int} (hk : ∀ t ls st M Q, k t ls st M Q → At G (d + 1) y t ls st M Q) (ho : Ok y (pc, .ifCond .ne off, len, a, b, t, x, z, js)) (h : wp1 G d y (pc, .ifCond .ne off, len, a, b, t, x, z, js) k ls st M Q) : At G (d + 1) y pc ls st M Q := by
  have hd := okb_dec ho
  unfold Ok at ho
  simp only [okb, Bool.and_eq_true, decide_eq_true_eq] at ho
  unfold wp1 at h
  dsimp only at h
  obtain ⟨-, e1, e2⟩ := ho
  subst e2
  obtain ⟨p, st, rfl, h⟩ := wI_e h
  exact at_if_ne hd e1 (fun c => hk _ _ _ _ _ (h.1 c)) (fun c => hk _ _ _ _ _ (h.2 c))
theorem snd_icmp_ne {pc len a b t : Nat} {x : Int32} {z : Int64} {js : List Nat} {off : Int} (hk : ∀ t ls st M Q, k t ls st M Q → At G (d + 1) y t ls st M Q) (ho : Ok y (pc, .if_icmp .ne off, len, a, b, t, x, z, js)) (h : wp1 G d y (pc, .if_icmp .ne off, len, a, b, t, x, z, js) k ls st M Q) : At G (d + 1) y pc ls st M Q := by
  have hd := okb_dec ho
  unfold Ok at ho
  simp only [okb, Bool.and_eq_true, decide_eq_true_eq] at ho
  unfold wp1 at h
  dsimp only at h
  obtain ⟨-, e1, e2⟩ := ho
  subst e2
  obtain ⟨p, q, st, rfl, h⟩ := wII_e h
  exact at_icmp_ne hd e1 (fun c => hk _ _ _ _ _ (h.1 c)) (fun c => hk _ _ _ _ _ (h.2 c))
theorem snd_if_lt {pc len a b t : Nat} {x : Int32} {z : Int64} {js : List Nat} {off : Int} (hk : ∀ t ls st M Q, k t ls st M Q → At G (d + 1) y t ls st M Q) (ho : Ok y (pc, .ifCond .lt off, len, a, b, t, x, z, js)) (h : wp1 G d y (pc, .ifCond .lt off, len, a, b, t, x, z, js) k ls st M Q) : At G (d + 1) y pc ls st M Q := by
  have hd := okb_dec ho
  unfold Ok at ho
  simp only [okb, Bool.and_eq_true, decide_eq_true_eq] at ho
  unfold wp1 at h
  dsimp only at h
  obtain ⟨-, e1, e2⟩ := ho
  subst e2
  obtain ⟨p, st, rfl, h⟩ := wI_e h
  exact at_if_lt hd e1 (fun c => hk _ _ _ _ _ (h.1 c)) (fun c => hk _ _ _ _ _ (h.2 c))
theorem snd_icmp_lt {pc len a b t : Nat} {x : Int32} {z : Int64} {js : List Nat} {off : Int} (hk : ∀ t ls st M Q, k t ls st M Q → At G (d + 1) y t ls st M Q) (ho : Ok y (pc, .if_icmp .lt off, len, a, b, t, x, z, js)) (h : wp1 G d y (pc, .if_icmp .lt off, len, a, b, t, x, z, js) k ls st M Q) : At G (d + 1) y pc ls st M Q := by
  have hd := okb_dec ho
  unfold Ok at ho
  simp only [okb, Bool.and_eq_true, decide_eq_true_eq] at ho
  unfold wp1 at h
  dsimp only at h
  obtain ⟨-, e1, e2⟩ := ho
  subst e2
  obtain ⟨p, q, st, rfl, h⟩ := wII_e h
  exact at_icmp_lt hd e1 (fun c => hk _ _ _ _ _ (h.1 c)) (fun c => hk _ _ _ _ _ (h.2 c))
theorem snd_if_ge {pc len a b t : Nat} {x : Int32} {z : Int64} {js : List Nat} {off : Int} (hk : ∀ t ls st M Q, k t ls st M Q → At G (d + 1) y t ls st M Q) (ho : Ok y (pc, .ifCond .ge off, len, a, b, t, x, z, js)) (h : wp1 G d y (pc, .ifCond .ge off, len, a, b, t, x, z, js) k ls st M Q) : At G (d + 1) y pc ls st M Q := by
  have hd := okb_dec ho
  unfold Ok at ho
  simp only [okb, Bool.and_eq_true, decide_eq_true_eq] at ho
  unfold wp1 at h
  dsimp only at h
  obtain ⟨-, e1, e2⟩ := ho
  subst e2
  obtain ⟨p, st, rfl, h⟩ := wI_e h
  exact at_if_ge hd e1 (fun c => hk _ _ _ _ _ (h.1 c)) (fun c => hk _ _ _ _ _ (h.2 c))
theorem snd_icmp_ge {pc len a b t : Nat} {x : Int32} {z : Int64} {js : List Nat} {off : Int} (hk : ∀ t ls st M Q, k t ls st M Q → At G (d + 1) y t ls st M Q) (ho : Ok y (pc, .if_icmp .ge off, len, a, b, t, x, z, js)) (h : wp1 G d y (pc, .if_icmp .ge off, len, a, b, t, x, z, js) k ls st M Q) : At G (d + 1) y pc ls st M Q := by
  have hd := okb_dec ho
  unfold Ok at ho
  simp only [okb, Bool.and_eq_true, decide_eq_true_eq] at ho
  unfold wp1 at h
  dsimp only at h
  obtain ⟨-, e1, e2⟩ := ho
  subst e2
  obtain ⟨p, q, st, rfl, h⟩ := wII_e h
  exact at_icmp_ge hd e1 (fun c => hk _ _ _ _ _ (h.1 c)) (fun c => hk _ _ _ _ _ (h.2 c))
theorem snd_if_gt {pc len a b t : Nat} {x : Int32} {z : Int64} {js : List Nat} {off : Int} (hk : ∀ t ls st M Q, k t ls st M Q → At G (d + 1) y t ls st M Q) (ho : Ok y (pc, .ifCond .gt off, len, a, b, t, x, z, js)) (h : wp1 G d y (pc, .ifCond .gt off, len, a, b, t, x, z, js) k ls st M Q) : At G (d + 1) y pc ls st M Q := by
  have hd := okb_dec ho
  unfold Ok at ho
  simp only [okb, Bool.and_eq_true, decide_eq_true_eq] at ho
  unfold wp1 at h
  dsimp only at h
  obtain ⟨-, e1, e2⟩ := ho
  subst e2
  obtain ⟨p, st, rfl, h⟩ := wI_e h
  exact at_if_gt hd e1 (fun c => hk _ _ _ _ _ (h.1 c)) (fun c => hk _ _ _ _ _ (h.2 c))
theorem snd_icmp_gt {pc len a b t : Nat} {x : Int32} {z : Int64} {js : List Nat} {off : Int} (hk : ∀ t ls st M Q, k t ls st M Q → At G (d + 1) y t ls st M Q) (ho : Ok y (pc, .if_icmp .gt off, len, a, b, t, x, z, js)) (h : wp1 G d y (pc, .if_icmp .gt off, len, a, b, t, x, z, js) k ls st M Q) : At G (d + 1) y pc ls st M Q := by
  have hd := okb_dec ho
  unfold Ok at ho
  simp only [okb, Bool.and_eq_true, decide_eq_true_eq] at ho
  unfold wp1 at h
  dsimp only at h
  obtain ⟨-, e1, e2⟩ := ho
  subst e2
  obtain ⟨p, q, st, rfl, h⟩ := wII_e h
  exact at_icmp_gt hd e1 (fun c => hk _ _ _ _ _ (h.1 c)) (fun c => hk _ _ _ _ _ (h.2 c))
theorem snd_if_le {pc len a b t : Nat} {x : Int32} {z : Int64} {js : List Nat} {off : Int} (hk : ∀ t ls st M Q, k t ls st M Q → At G (d + 1) y t ls st M Q) (ho : Ok y (pc, .ifCond .le off, len, a, b, t, x, z, js)) (h : wp1 G d y (pc, .ifCond .le off, len, a, b, t, x, z, js) k ls st M Q) : At G (d + 1) y pc ls st M Q := by
  have hd := okb_dec ho
  unfold Ok at ho
  simp only [okb, Bool.and_eq_true, decide_eq_true_eq] at ho
  unfold wp1 at h
  dsimp only at h
  obtain ⟨-, e1, e2⟩ := ho
  subst e2
  obtain ⟨p, st, rfl, h⟩ := wI_e h
  exact at_if_le hd e1 (fun c => hk _ _ _ _ _ (h.1 c)) (fun c => hk _ _ _ _ _ (h.2 c))
theorem snd_icmp_le {pc len a b t : Nat} {x : Int32} {z : Int64} {js : List Nat} {off : Int} (hk : ∀ t ls st M Q, k t ls st M Q → At G (d + 1) y t ls st M Q) (ho : Ok y (pc, .if_icmp .le off, len, a, b, t, x, z, js)) (h : wp1 G d y (pc, .if_icmp .le off, len, a, b, t, x, z, js) k ls st M Q) : At G (d + 1) y pc ls st M Q := by
  have hd := okb_dec ho
  unfold Ok at ho
  simp only [okb, Bool.and_eq_true, decide_eq_true_eq] at ho
  unfold wp1 at h
  dsimp only at h
  obtain ⟨-, e1, e2⟩ := ho
  subst e2
  obtain ⟨p, q, st, rfl, h⟩ := wII_e h
  exact at_icmp_le hd e1 (fun c => hk _ _ _ _ _ (h.1 c)) (fun c => hk _ _ _ _ _ (h.2 c))
theorem snd_ifnull {pc len a b t : Nat} {x : Int32} {z : Int64} {js : List Nat} {off : Int} (hk : ∀ t ls st M Q, k t ls st M Q → At G (d + 1) y t ls st M Q) (ho : Ok y (pc, .ifnull off, len, a, b, t, x, z, js)) (h : wp1 G d y (pc, .ifnull off, len, a, b, t, x, z, js) k ls st M Q) : At G (d + 1) y pc ls st M Q := by
  have hd := okb_dec ho
  unfold Ok at ho
  simp only [okb, Bool.and_eq_true, decide_eq_true_eq] at ho
  unfold wp1 at h
  dsimp only at h
  obtain ⟨-, e1, e2⟩ := ho
  subst e2
  split at h
  · exact at_ifnull hd e1 (hk _ _ _ _ _ h)
  · exact at_ifnullN hd e1 (hk _ _ _ _ _ h)
  · exact h.elim
theorem snd_ifnonnull {pc len a b t : Nat} {x : Int32} {z : Int64} {js : List Nat} {off : Int} (hk : ∀ t ls st M Q, k t ls st M Q → At G (d + 1) y t ls st M Q) (ho : Ok y (pc, .ifnonnull off, len, a, b, t, x, z, js)) (h : wp1 G d y (pc, .ifnonnull off, len, a, b, t, x, z, js) k ls st M Q) : At G (d + 1) y pc ls st M Q := by
  have hd := okb_dec ho
  unfold Ok at ho
  simp only [okb, Bool.and_eq_true, decide_eq_true_eq] at ho
  unfold wp1 at h
  dsimp only at h
  obtain ⟨-, e1, e2⟩ := ho
  subst e2
  split at h
  · exact at_ifnonnull hd e1 (hk _ _ _ _ _ h)
  · exact at_ifnonnullN hd e1 (hk _ _ _ _ _ h)
  · exact h.elim
theorem snd_tableswitch {pc len a b t : Nat} {x : Int32} {z : Int64} {js : List Nat} {df lo hi : Int} {offs : Array Int} (hk : ∀ t ls st M Q, k t ls st M Q → At G (d + 1) y t ls st M Q) (ho : Ok y (pc, .tableswitch df lo hi offs, len, a, b, t, x, z, js)) (h : wp1 G d y (pc, .tableswitch df lo hi offs, len, a, b, t, x, z, js) k ls st M Q) : At G (d + 1) y pc ls st M Q := by
  have hd := okb_dec ho
  unfold Ok at ho
  simp only [okb, Bool.and_eq_true, decide_eq_true_eq] at ho
  unfold wp1 at h
  dsimp only at h
  obtain ⟨-, ⟨e1, e2⟩, e3⟩ := ho
  obtain ⟨p, st, rfl, h⟩ := wI_e h
  by_cases hc : p.toInt < lo ∨ hi < p.toInt
  · exact at_tableOut hd hc e1 (hk _ _ _ _ _ (h.1 hc))
  · have hj : (p.toInt - lo).toNat < js.length := by omega
    have hl : offs.toList.length = js.length := by simpa using congrArg List.length e2
    have hj2 : (p.toInt - lo).toNat < offs.size := by rw [← Array.length_toList, hl]; exact hj
    have e4 := congrArg (fun l => l[(p.toInt - lo).toNat]?) e2
    simp only [List.getElem?_map, List.getElem?_eq_getElem hj, List.getElem?_eq_getElem (show (p.toInt - lo).toNat < offs.toList.length by rw [hl]; exact hj), Option.map_some, Option.some.injEq] at e4
    refine at_tableIn (off := offs.toList[(p.toInt - lo).toNat]'(by rw [hl]; exact hj)) (tgt := js[(p.toInt - lo).toNat]) hd (fun c => hc (Or.inl c)) (fun c => hc (Or.inr c)) ?_ e4 (hk _ _ _ _ _ (wSw_at h.2 (List.getElem?_eq_getElem hj) (by omega)))
    rw [Array.getElem?_eq_getElem hj2]
    simp
theorem snd_getfield {pc len a b t : Nat} {x : Int32} {z : Int64} {js : List Nat} {n : Nat} (hk : ∀ t ls st M Q, k t ls st M Q → At G (d + 1) y t ls st M Q) (ho : Ok y (pc, .getfield n, len, a, b, t, x, z, js)) (h : wp1 G d y (pc, .getfield n, len, a, b, t, x, z, js) k ls st M Q) : At G (d + 1) y pc ls st M Q := by
  have hd := okb_dec ho
  unfold Ok at ho
  simp only [okb, Bool.and_eq_true, decide_eq_true_eq] at ho
  unfold wp1 at h
  dsimp only at h
  obtain ⟨-, e1, e2⟩ := ho
  subst e1
  simp only [Bool.or_eq_true, decide_eq_true_eq] at e2
  obtain ⟨p, st, rfl, h0, h⟩ := wA_e h
  have key : ∃ fin, (mOwn y, n, a, b, t, fin) ∈ fldTab := e2.elim (fun e => ⟨0, e⟩) (fun e => ⟨1, e⟩)
  obtain ⟨fin, hq⟩ := key
  have hty := fld_ty hq
  have h4 : t = 0 ∨ t = 3 ∨ t = 1 ∨ t = 2 := by obtain ⟨-, -, -, o4, -⟩ := fldTab_ok _ hq; dsimp only at o4; omega
  rcases h4 with rfl | rfl | rfl | rfl
  · exact at_getf hd hq h0 (by rw [hty.1 rfl]; rfl) (hk _ _ _ _ _ h)
  · exact at_getf hd hq h0 (by rw [hty.2.1 rfl]; rfl) (hk _ _ _ _ _ h)
  · exact at_getf hd hq h0 (by rw [hty.2.2.1 rfl]; rfl) (hk _ _ _ _ _ h)
  · obtain ⟨v, hv, h⟩ := wRef_e h
    exact at_getf hd hq h0 (by rw [fval_ref (hty.2.2.2 rfl)]; exact hv) (hk _ _ _ _ _ h)
theorem snd_putfield {pc len a b t : Nat} {x : Int32} {z : Int64} {js : List Nat} {n : Nat} (hk : ∀ t ls st M Q, k t ls st M Q → At G (d + 1) y t ls st M Q) (ho : Ok y (pc, .putfield n, len, a, b, t, x, z, js)) (h : wp1 G d y (pc, .putfield n, len, a, b, t, x, z, js) k ls st M Q) : At G (d + 1) y pc ls st M Q := by
  have hd := okb_dec ho
  unfold Ok at ho
  simp only [okb, Bool.and_eq_true, decide_eq_true_eq] at ho
  unfold wp1 at h
  dsimp only at h
  obtain ⟨-, e1, e2⟩ := ho
  subst e1
  simp only [Bool.or_eq_true, Bool.and_eq_true, decide_eq_true_eq] at e2
  have key : ∃ fin, (mOwn y, n, a, b, t, fin) ∈ fldTab ∧ (fin = 0 ∨ (fin = 1 ∧ (mNm y).name = "<init>" ∧ a = mOwn y)) := e2.elim (fun e => ⟨0, e, Or.inl rfl⟩) (fun e => ⟨1, e.1.1, Or.inr ⟨rfl, e.1.2, e.2⟩⟩)
  obtain ⟨fin, hq, hfin⟩ := key
  have hty := fld_ty hq
  have h4 : t = 0 ∨ t = 3 ∨ t = 1 ∨ t = 2 := by obtain ⟨-, -, -, o4, -⟩ := fldTab_ok _ hq; dsimp only at o4; omega
  split at h
  · obtain ⟨h0, ht, h3, h⟩ := h
    exact at_puti hd hq h0 hfin (ht.elim Or.inl (fun e => Or.inr ⟨e, h3 e⟩)) (hk _ _ _ _ _ h)
  · obtain ⟨h0, ht, h⟩ := h
    exact at_putl hd hq h0 hfin ht (hk _ _ _ _ _ h)
  · obtain ⟨h0, ht, h⟩ := h
    exact at_putr rfl hd hq h0 hfin ht (hk _ _ _ _ _ h)
  · obtain ⟨h0, ht, h⟩ := h
    exact at_putr rfl hd hq h0 hfin ht (hk _ _ _ _ _ h)
  · exact h.elim
theorem snd_iaload {pc len a b t : Nat} {x : Int32} {z : Int64} {js : List Nat} (hk : ∀ t ls st M Q, k t ls st M Q → At G (d + 1) y t ls st M Q) (ho : Ok y (pc, .iaload, len, a, b, t, x, z, js)) (h : wp1 G d y (pc, .iaload, len, a, b, t, x, z, js) k ls st M Q) : At G (d + 1) y pc ls st M Q := by
  have hd := okb_dec ho
  unfold Ok at ho
  simp only [okb, Bool.and_eq_true, decide_eq_true_eq] at ho
  unfold wp1 at h
  dsimp only at h
  obtain ⟨-, e⟩ := ho
  subst e
  obtain ⟨r, i, st, rfl, h⟩ := wIA_e h
  rcases h with ⟨h1, h2, h5⟩ | ⟨rfl, h2, h5⟩
  · exact at_iaload hd h1 h2 (hk _ _ _ _ _ h5)
  · exact at_ialoadS hd h2 (hk _ _ _ _ _ h5)
theorem snd_baload {pc len a b t : Nat} {x : Int32} {z : Int64} {js : List Nat} (hk : ∀ t ls st M Q, k t ls st M Q → At G (d + 1) y t ls st M Q) (ho : Ok y (pc, .baload, len, a, b, t, x, z, js)) (h : wp1 G d y (pc, .baload, len, a, b, t, x, z, js) k ls st M Q) : At G (d + 1) y pc ls st M Q := by
  have hd := okb_dec ho
  unfold Ok at ho
  simp only [okb, Bool.and_eq_true, decide_eq_true_eq] at ho
  unfold wp1 at h
  dsimp only at h
  obtain ⟨-, e⟩ := ho
  subst e
  obtain ⟨r, i, st, rfl, h1, h2, h⟩ := wIA_e h
  exact at_baload hd h1 h2 (hk _ _ _ _ _ h)
theorem snd_laload {pc len a b t : Nat} {x : Int32} {z : Int64} {js : List Nat} (hk : ∀ t ls st M Q, k t ls st M Q → At G (d + 1) y t ls st M Q) (ho : Ok y (pc, .laload, len, a, b, t, x, z, js)) (h : wp1 G d y (pc, .laload, len, a, b, t, x, z, js) k ls st M Q) : At G (d + 1) y pc ls st M Q := by
  have hd := okb_dec ho
  unfold Ok at ho
  simp only [okb, Bool.and_eq_true, decide_eq_true_eq] at ho
  unfold wp1 at h
  dsimp only at h
  obtain ⟨-, e⟩ := ho
  subst e
  obtain ⟨r, i, st, rfl, h1, h2, h⟩ := wIA_e h
  exact at_laload hd h1 h2 (hk _ _ _ _ _ h)
theorem snd_aaload {pc len a b t : Nat} {x : Int32} {z : Int64} {js : List Nat} (hk : ∀ t ls st M Q, k t ls st M Q → At G (d + 1) y t ls st M Q) (ho : Ok y (pc, .aaload, len, a, b, t, x, z, js)) (h : wp1 G d y (pc, .aaload, len, a, b, t, x, z, js) k ls st M Q) : At G (d + 1) y pc ls st M Q := by
  have hd := okb_dec ho
  unfold Ok at ho
  simp only [okb, Bool.and_eq_true, decide_eq_true_eq] at ho
  unfold wp1 at h
  dsimp only at h
  obtain ⟨-, e⟩ := ho
  subst e
  obtain ⟨r, i, st, rfl, h1, h2, h⟩ := wIA_e h
  obtain ⟨v, hv, h⟩ := wRef_e h
  exact at_aaload hd h1.1 h1.2 h2 hv (hk _ _ _ _ _ h)
theorem snd_iastore {pc len a b t : Nat} {x : Int32} {z : Int64} {js : List Nat} (hk : ∀ t ls st M Q, k t ls st M Q → At G (d + 1) y t ls st M Q) (ho : Ok y (pc, .iastore, len, a, b, t, x, z, js)) (h : wp1 G d y (pc, .iastore, len, a, b, t, x, z, js) k ls st M Q) : At G (d + 1) y pc ls st M Q := by
  have hd := okb_dec ho
  unfold Ok at ho
  simp only [okb, Bool.and_eq_true, decide_eq_true_eq] at ho
  unfold wp1 at h
  dsimp only at h
  obtain ⟨-, e⟩ := ho
  subst e
  obtain ⟨r, i, v, st, rfl, h1, h2, h⟩ := wIIA_e h
  exact at_iastore hd h1 h2 (hk _ _ _ _ _ h)
theorem snd_bastore {pc len a b t : Nat} {x : Int32} {z : Int64} {js : List Nat} (hk : ∀ t ls st M Q, k t ls st M Q → At G (d + 1) y t ls st M Q) (ho : Ok y (pc, .bastore, len, a, b, t, x, z, js)) (h : wp1 G d y (pc, .bastore, len, a, b, t, x, z, js) k ls st M Q) : At G (d + 1) y pc ls st M Q := by
  have hd := okb_dec ho
  unfold Ok at ho
  simp only [okb, Bool.and_eq_true, decide_eq_true_eq] at ho
  unfold wp1 at h
  dsimp only at h
  obtain ⟨-, e⟩ := ho
  subst e
  obtain ⟨r, i, v, st, rfl, h⟩ := wIIA_e h
  rcases h with ⟨h1, h2, h⟩ | ⟨h1, h2, h⟩
  · exact at_bastore hd h1 h2 (hk _ _ _ _ _ h)
  · exact at_zastore hd h1 h2 (hk _ _ _ _ _ h)
theorem snd_lastore {pc len a b t : Nat} {x : Int32} {z : Int64} {js : List Nat} (hk : ∀ t ls st M Q, k t ls st M Q → At G (d + 1) y t ls st M Q) (ho : Ok y (pc, .lastore, len, a, b, t, x, z, js)) (h : wp1 G d y (pc, .lastore, len, a, b, t, x, z, js) k ls st M Q) : At G (d + 1) y pc ls st M Q := by
  have hd := okb_dec ho
  unfold Ok at ho
  simp only [okb, Bool.and_eq_true, decide_eq_true_eq] at ho
  unfold wp1 at h
  dsimp only at h
  obtain ⟨-, e⟩ := ho
  subst e
  obtain ⟨r, i, v, st, rfl, h1, h2, h⟩ := wLIA_e h
  exact at_lastore hd h1 h2 (hk _ _ _ _ _ h)
theorem snd_aastore {pc len a b t : Nat} {x : Int32} {z : Int64} {js : List Nat} (hk : ∀ t ls st M Q, k t ls st M Q → At G (d + 1) y t ls st M Q) (ho : Ok y (pc, .aastore, len, a, b, t, x, z, js)) (h : wp1 G d y (pc, .aastore, len, a, b, t, x, z, js) k ls st M Q) : At G (d + 1) y pc ls st M Q := by
  have hd := okb_dec ho
  unfold Ok at ho
  simp only [okb, Bool.and_eq_true, decide_eq_true_eq] at ho
  unfold wp1 at h
  dsimp only at h
  obtain ⟨-, e⟩ := ho
  subst e
  split at h
  · obtain ⟨h1, h2, h3, h⟩ := h
    exact at_aastore hd h1.1 h1.2 h2 h3 (hk _ _ _ _ _ h)
  · obtain ⟨h1, h2, h⟩ := h
    exact at_aastoreN hd h1.1 h1.2 h2 (hk _ _ _ _ _ h)
  · exact h.elim
theorem snd_arraylength {pc len a b t : Nat} {x : Int32} {z : Int64} {js : List Nat} (hk : ∀ t ls st M Q, k t ls st M Q → At G (d + 1) y t ls st M Q) (ho : Ok y (pc, .arraylength, len, a, b, t, x, z, js)) (h : wp1 G d y (pc, .arraylength, len, a, b, t, x, z, js) k ls st M Q) : At G (d + 1) y pc ls st M Q := by
  have hd := okb_dec ho
  unfold Ok at ho
  simp only [okb, Bool.and_eq_true, decide_eq_true_eq] at ho
  unfold wp1 at h
  dsimp only at h
  obtain ⟨-, e⟩ := ho
  subst e
  obtain ⟨r, st, rfl, h⟩ := wA_e h
  rcases h with ⟨h1, h5⟩ | ⟨rfl, h5⟩
  · exact at_alen hd h1.1 h1.2 (hk _ _ _ _ _ h5)
  · exact at_alenS hd (hk _ _ _ _ _ h5)
theorem snd_new {pc len a b t : Nat} {x : Int32} {z : Int64} {js : List Nat} {n : Nat} (hk : ∀ t ls st M Q, k t ls st M Q → At G (d + 1) y t ls st M Q) (ho : Ok y (pc, .new n, len, a, b, t, x, z, js)) (h : wp1 G d y (pc, .new n, len, a, b, t, x, z, js) k ls st M Q) : At G (d + 1) y pc ls st M Q := by
  have hd := okb_dec ho
  unfold Ok at ho
  simp only [okb, Bool.and_eq_true, decide_eq_true_eq] at ho
  unfold wp1 at h
  dsimp only at h
  obtain ⟨-, e1, e2⟩ := ho
  subst e1
  exact at_new hd e2 (hk _ _ _ _ _ h)
theorem snd_newarray {pc len a b t : Nat} {x : Int32} {z : Int64} {js : List Nat} {ty : ArrayType} (hk : ∀ t ls st M Q, k t ls st M Q → At G (d + 1) y t ls st M Q) (ho : Ok y (pc, .newarray ty, len, a, b, t, x, z, js)) (h : wp1 G d y (pc, .newarray ty, len, a, b, t, x, z, js) k ls st M Q) : At G (d + 1) y pc ls st M Q := by
  have hd := okb_dec ho
  unfold Ok at ho
  simp only [okb, Bool.and_eq_true, decide_eq_true_eq] at ho
  unfold wp1 at h
  dsimp only at h
  obtain ⟨-, ⟨e1, e2⟩, e3⟩ := ho
  subst e1
  subst e2
  obtain ⟨p, st, rfl, h1, h2, h⟩ := wI_e h
  exact at_newarray hd e3 h1 h2 (hk _ _ _ _ _ h)
theorem snd_anewarray {pc len a b t : Nat} {x : Int32} {z : Int64} {js : List Nat} {n : Nat} (hk : ∀ t ls st M Q, k t ls st M Q → At G (d + 1) y t ls st M Q) (ho : Ok y (pc, .anewarray n, len, a, b, t, x, z, js)) (h : wp1 G d y (pc, .anewarray n, len, a, b, t, x, z, js) k ls st M Q) : At G (d + 1) y pc ls st M Q := by
  have hd := okb_dec ho
  unfold Ok at ho
  simp only [okb, Bool.and_eq_true, decide_eq_true_eq] at ho
  unfold wp1 at h
  dsimp only at h
  obtain ⟨-, e1, e2⟩ := ho
  subst e1
  obtain ⟨p, st, rfl, h1, h2, h⟩ := wI_e h
  exact at_anewarray hd e2 h1 h2 (hk _ _ _ _ _ h)
theorem snd_invokevirtual {pc len a b t : Nat} {x : Int32} {z : Int64} {js : List Nat} {n : Nat} (hk : ∀ t ls st M Q, k t ls st M Q → At G (d + 1) y t ls st M Q) (ho : Ok y (pc, .invokevirtual n, len, a, b, t, x, z, js)) (h : wp1 G d y (pc, .invokevirtual n, len, a, b, t, x, z, js) k ls st M Q) : At G (d + 1) y pc ls st M Q := by
  have hd := okb_dec ho
  unfold Ok at ho
  simp only [okb, Bool.and_eq_true, decide_eq_true_eq] at ho
  unfold wp1 at h
  dsimp only at h
  obtain ⟨-, e1, e2⟩ := ho
  subst e1
  simp only [Bool.or_eq_true, Bool.and_eq_true, decide_eq_true_eq] at e2
  rcases e2 with (⟨rfl, e2⟩ | ⟨rfl, e2⟩) | ⟨⟨rfl, rfl⟩, e2⟩
  · obtain ⟨as, st, rfl, hn, h⟩ := wPop_e h
    obtain ⟨r, st, rfl, hc, h1, h⟩ := wA_e h
    exact At.callV hd e2 h1 hn hc rfl (h.mono (fun _ _ h => hk _ _ _ _ _ h))
  · obtain ⟨as, st, rfl, hn, h⟩ := wPop_e h
    obtain ⟨r, st, rfl, hc, i, hi, rfl, h⟩ := wA_e h
    exact At.callVS hd e2 hi hn hc rfl (h.mono (fun _ _ h => hk _ _ _ _ _ h))
  · obtain ⟨r, st, rfl, hc, h1, h⟩ := wA_e h
    exact at_clone e2 hd h1 hc (hk _ _ _ _ _ h)
theorem snd_checkcast {pc len a b t : Nat} {x : Int32} {z : Int64} {js : List Nat} {n : Nat} (hk : ∀ t ls st M Q, k t ls st M Q → At G (d + 1) y t ls st M Q) (ho : Ok y (pc, .checkcast n, len, a, b, t, x, z, js)) (h : wp1 G d y (pc, .checkcast n, len, a, b, t, x, z, js) k ls st M Q) : At G (d + 1) y pc ls st M Q := by
  have hd := okb_dec ho
  unfold Ok at ho
  simp only [okb, Bool.and_eq_true, decide_eq_true_eq] at ho
  unfold wp1 at h
  dsimp only at h
  obtain ⟨-, ⟨e1, rfl⟩, e2⟩ := ho
  subst e1
  obtain ⟨r, st, rfl, h1, h⟩ := wA_e h
  exact at_castA e2 hd h1 (hk _ _ _ _ _ h)
theorem snd_invokestatic {pc len a b t : Nat} {x : Int32} {z : Int64} {js : List Nat} {n : Nat} (hk : ∀ t ls st M Q, k t ls st M Q → At G (d + 1) y t ls st M Q) (ho : Ok y (pc, .invokestatic n, len, a, b, t, x, z, js)) (h : wp1 G d y (pc, .invokestatic n, len, a, b, t, x, z, js) k ls st M Q) : At G (d + 1) y pc ls st M Q := by
  have hd := okb_dec ho
  unfold Ok at ho
  simp only [okb, Bool.and_eq_true, decide_eq_true_eq] at ho
  unfold wp1 at h
  dsimp only at h
  obtain ⟨-, e1, e2⟩ := ho
  subst e1
  simp only [Bool.or_eq_true, Bool.and_eq_true, decide_eq_true_eq] at e2
  rcases e2 with (((⟨rfl, e2⟩ | ⟨rfl, e2⟩) | ⟨rfl, e2⟩) | ⟨rfl, e2⟩) | ⟨rfl, e2⟩
  · obtain ⟨n1, dp, a1, sp, a0, st, rfl, hc, h1, h2, h3, h4, h5, h⟩ := wAC_e h
    rcases h with ⟨k0, k1, h⟩ | ⟨k0, k1, h⟩ | ⟨k0, k1, h6, h⟩
    · exact at_copyi hd e2 hc k0 k1 h1 h2 h3 h4 h5 (hk _ _ _ _ _ h)
    · exact at_copyl hd e2 hc k0 k1 h1 h2 h3 h4 h5 (hk _ _ _ _ _ h)
    · exact at_copyr hd e2 hc k0 k1 h1 h2 h3 h4 h5 h6 (hk _ _ _ _ _ h)
  · obtain ⟨p, q, st, rfl, hc, h⟩ := wII_e h
    exact at_mmin hd e2 hc (hk _ _ _ _ _ h)
  · obtain ⟨p, q, st, rfl, hc, h⟩ := wII_e h
    exact at_mmax hd e2 hc (hk _ _ _ _ _ h)
  · obtain ⟨as, st, rfl, hn, hc, h⟩ := wPop_e h
    exact At.callS hd e2 hn hc rfl (h.mono (fun _ _ h => hk _ _ _ _ _ h))
  · obtain ⟨as, st, rfl, hn, hc, h⟩ := wPop_e h
    exact At.callSN hd e2 hn hc rfl (h.mono (fun _ _ h => hk _ _ _ _ _ h))
theorem snd_invokespecial {pc len a b t : Nat} {x : Int32} {z : Int64} {js : List Nat} {n : Nat} (hk : ∀ t ls st M Q, k t ls st M Q → At G (d + 1) y t ls st M Q) (ho : Ok y (pc, .invokespecial n, len, a, b, t, x, z, js)) (h : wp1 G d y (pc, .invokespecial n, len, a, b, t, x, z, js) k ls st M Q) : At G (d + 1) y pc ls st M Q := by
  have hd := okb_dec ho
  unfold Ok at ho
  simp only [okb, Bool.and_eq_true, decide_eq_true_eq] at ho
  unfold wp1 at h
  dsimp only at h
  obtain ⟨-, e1, e2⟩ := ho
  subst e1
  simp only [Bool.or_eq_true, Bool.and_eq_true, decide_eq_true_eq] at e2
  rcases e2 with (⟨rfl, e2⟩ | ⟨⟨rfl, e2⟩, e3⟩) | ⟨⟨rfl, e2⟩, e3⟩
  · obtain ⟨r, st, rfl, hc, h⟩ := wA_e h
    exact at_objInit hd e2 hc (hk _ _ _ _ _ h)
  · obtain ⟨as, st, rfl, hn, h⟩ := wPop_e h
    obtain ⟨r, st, rfl, hc, h⟩ := wA_e h
    exact At.callI hd e2 e3 hn hc rfl (h.mono (fun _ _ h => hk _ _ _ _ _ h))
  · obtain ⟨as, st, rfl, hn, h⟩ := wPop_e h
    obtain ⟨r, st, rfl, hc, h⟩ := wA_e h
    exact At.callIN hd e2 e3 hn hc rfl (h.mono (fun _ _ h => hk _ _ _ _ _ h))
theorem snd_ireturn {pc len a b t : Nat} {x : Int32} {z : Int64} {js : List Nat} (hk : ∀ t ls st M Q, k t ls st M Q → At G (d + 1) y t ls st M Q) (ho : Ok y (pc, .ireturn, len, a, b, t, x, z, js)) (h : wp1 G d y (pc, .ireturn, len, a, b, t, x, z, js) k ls st M Q) : At G (d + 1) y pc ls st M Q := by
  have hd := okb_dec ho
  unfold Ok at ho
  simp only [okb, Bool.and_eq_true, decide_eq_true_eq] at ho
  unfold wp1 at h
  dsimp only at h
  obtain ⟨-, e1, e2⟩ := ho
  subst e1
  simp only [Bool.or_eq_true, Bool.and_eq_true, decide_eq_true_eq] at e2
  split at h
  · rename_i v
    obtain ⟨h1, h⟩ := h
    rcases e2 with ⟨rfl, e2⟩ | ⟨rfl, e2⟩
    · exact At.ret h (Or.inl ⟨v, _, rfl, hd, e2, rfl⟩) rfl
    · refine At.ret h (Or.inl ⟨v, _, rfl, hd, e2, ?_⟩) rfl
      rcases h1 rfl with rfl | rfl
      · rfl
      · rfl
  · exact h.elim
theorem snd_lreturn {pc len a b t : Nat} {x : Int32} {z : Int64} {js : List Nat} (hk : ∀ t ls st M Q, k t ls st M Q → At G (d + 1) y t ls st M Q) (ho : Ok y (pc, .lreturn, len, a, b, t, x, z, js)) (h : wp1 G d y (pc, .lreturn, len, a, b, t, x, z, js) k ls st M Q) : At G (d + 1) y pc ls st M Q := by
  have hd := okb_dec ho
  unfold Ok at ho
  simp only [okb, Bool.and_eq_true, decide_eq_true_eq] at ho
  unfold wp1 at h
  dsimp only at h
  obtain ⟨-, e1, e2⟩ := ho
  subst e1
  split at h
  · exact At.ret h (Or.inr (Or.inl ⟨_, rfl, hd, e2⟩)) rfl
  · exact h.elim
theorem snd_areturn {pc len a b t : Nat} {x : Int32} {z : Int64} {js : List Nat} (hk : ∀ t ls st M Q, k t ls st M Q → At G (d + 1) y t ls st M Q) (ho : Ok y (pc, .areturn, len, a, b, t, x, z, js)) (h : wp1 G d y (pc, .areturn, len, a, b, t, x, z, js) k ls st M Q) : At G (d + 1) y pc ls st M Q := by
  have hd := okb_dec ho
  unfold Ok at ho
  simp only [okb, Bool.and_eq_true, decide_eq_true_eq] at ho
  unfold wp1 at h
  dsimp only at h
  obtain ⟨-, e1, e2⟩ := ho
  subst e1
  have hr : ∃ rt, mRet y = some rt ∧ ((∃ n, rt = .object n) ∨ ∃ t, rt = .array t) := by
    split at e2
    · rename_i n hr; exact ⟨_, hr, Or.inl ⟨n, rfl⟩⟩
    · rename_i n hr; exact ⟨_, hr, Or.inr ⟨n, rfl⟩⟩
    · cases e2
  obtain ⟨rt, hr, hrt⟩ := hr
  split at h
  · exact At.ret h (Or.inr (Or.inr (Or.inl ⟨_, rt, rfl, Or.inr ⟨_, rfl⟩, hd, hr, hrt⟩))) rfl
  · exact At.ret h (Or.inr (Or.inr (Or.inl ⟨_, rt, rfl, Or.inl rfl, hd, hr, hrt⟩))) rfl
  · exact h.elim
theorem snd_return_ {pc len a b t : Nat} {x : Int32} {z : Int64} {js : List Nat} (hk : ∀ t ls st M Q, k t ls st M Q → At G (d + 1) y t ls st M Q) (ho : Ok y (pc, .return_, len, a, b, t, x, z, js)) (h : wp1 G d y (pc, .return_, len, a, b, t, x, z, js) k ls st M Q) : At G (d + 1) y pc ls st M Q := by
  have hd := okb_dec ho
  unfold Ok at ho
  simp only [okb, Bool.and_eq_true, decide_eq_true_eq] at ho
  unfold wp1 at h
  dsimp only at h
  obtain ⟨-, e1, e2⟩ := ho
  subst e1
  split at h
  · exact At.ret h (Or.inr (Or.inr (Or.inr ⟨rfl, hd, e2⟩))) rfl
  · exact h.elim
theorem wp1_snd {i : Ins} (hk : ∀ t ls st M Q, k t ls st M Q → At G (d + 1) y t ls st M Q) (ho : Ok y i) (h : wp1 G d y i k ls st M Q) : At G (d + 1) y i.1 ls st M Q := by
  obtain ⟨pc, ins, len, a, b, t, x, z, js⟩ := i
  show At G (d + 1) y pc ls st M Q
  cases ins with
  | iadd => exact snd_iadd hk ho h
  | isub => exact snd_isub hk ho h
  | imul => exact snd_imul hk ho h
  | iand => exact snd_iand hk ho h
  | ior => exact snd_ior hk ho h
  | ixor => exact snd_ixor hk ho h
  | ishl => exact snd_ishl hk ho h
  | ishr => exact snd_ishr hk ho h
  | iushr => exact snd_iushr hk ho h
  | idiv => exact snd_idiv hk ho h
  | irem => exact snd_irem hk ho h
  | ladd => exact snd_ladd hk ho h
  | lsub => exact snd_lsub hk ho h
  | lmul => exact snd_lmul hk ho h
  | land => exact snd_land hk ho h
  | lor => exact snd_lor hk ho h
  | lxor => exact snd_lxor hk ho h
  | lcmp => exact snd_lcmp hk ho h
  | ldiv => exact snd_ldiv hk ho h
  | lshl => exact snd_lshl hk ho h
  | lushr => exact snd_lushr hk ho h
  | i2l => exact snd_i2l hk ho h
  | i2b => exact snd_i2b hk ho h
  | i2c => exact snd_i2c hk ho h
  | l2i => exact snd_l2i hk ho h
  | aconst_null => exact snd_aconst_null hk ho h
  | dup => exact snd_dup hk ho h
  | pop => exact snd_pop hk ho h
  | dup2 => exact snd_dup2 hk ho h
  | iload_n n => exact snd_iload_n hk ho h
  | iload n => exact snd_iload hk ho h
  | lload_n n => exact snd_lload_n hk ho h
  | lload n => exact snd_lload hk ho h
  | aload_n n => exact snd_aload_n hk ho h
  | aload n => exact snd_aload hk ho h
  | istore_n n => exact snd_istore_n hk ho h
  | istore n => exact snd_istore hk ho h
  | lstore_n n => exact snd_lstore_n hk ho h
  | lstore n => exact snd_lstore hk ho h
  | astore_n n => exact snd_astore_n hk ho h
  | astore n => exact snd_astore hk ho h
  | iconst n => exact snd_iconst hk ho h
  | bipush n => exact snd_bipush hk ho h
  | sipush n => exact snd_sipush hk ho h
  | lconst n => exact snd_lconst hk ho h
  | ldc2_w n => exact snd_ldc2_w hk ho h
  | ldc n => exact snd_ldc hk ho h
  | ldc_w n => exact snd_ldc_w hk ho h
  | iinc n c => exact snd_iinc hk ho h
  | goto off => exact snd_goto hk ho h
  | ifnull off => exact snd_ifnull hk ho h
  | ifnonnull off => exact snd_ifnonnull hk ho h
  | tableswitch df lo hi offs => exact snd_tableswitch hk ho h
  | getfield n => exact snd_getfield hk ho h
  | putfield n => exact snd_putfield hk ho h
  | iaload => exact snd_iaload hk ho h
  | baload => exact snd_baload hk ho h
  | laload => exact snd_laload hk ho h
  | aaload => exact snd_aaload hk ho h
  | iastore => exact snd_iastore hk ho h
  | bastore => exact snd_bastore hk ho h
  | lastore => exact snd_lastore hk ho h
  | aastore => exact snd_aastore hk ho h
  | arraylength => exact snd_arraylength hk ho h
  | new n => exact snd_new hk ho h
  | newarray ty => exact snd_newarray hk ho h
  | anewarray n => exact snd_anewarray hk ho h
  | invokevirtual n => exact snd_invokevirtual hk ho h
  | checkcast n => exact snd_checkcast hk ho h
  | invokestatic n => exact snd_invokestatic hk ho h
  | invokespecial n => exact snd_invokespecial hk ho h
  | ireturn => exact snd_ireturn hk ho h
  | lreturn => exact snd_lreturn hk ho h
  | areturn => exact snd_areturn hk ho h
  | return_ => exact snd_return_ hk ho h
  | ifCond c off => cases c with
    | eq => exact snd_if_eq hk ho h
    | ne => exact snd_if_ne hk ho h
    | lt => exact snd_if_lt hk ho h
    | ge => exact snd_if_ge hk ho h
    | gt => exact snd_if_gt hk ho h
    | le => exact snd_if_le hk ho h
  | if_icmp c off => cases c with
    | eq => exact snd_icmp_eq hk ho h
    | ne => exact snd_icmp_ne hk ho h
    | lt => exact snd_icmp_lt hk ho h
    | ge => exact snd_icmp_ge hk ho h
    | gt => exact snd_icmp_gt hk ho h
    | le => exact snd_icmp_le hk ho h
  | _ => exact False.elim h
end
/-- an interval of a method's entries -/
theorem wps_snd {G : GT} {d y : Nat} : ∀ {code : List Ins} {t : Nat} {ls : List (Nat × Value)} {st : List Value} {M : Mem} {Q : Po}, (∀ i ∈ code, Ok y i) → wps G d y code t ls st M Q → At G (d + 1) y t ls st M Q
  | [], _, _, _, _, _, _, h => h
  | i :: r, t, ls, st, M, Q, ho, h => by
    unfold wps at h
    by_cases hi : i.1 = t
    · rw [if_pos hi] at h
      subst hi
      exact wp1_snd (fun t ls st M Q h => wps_snd (fun j hj => ho j (List.mem_cons_of_mem _ hj)) h) (ho i List.mem_cons_self) h
    · rw [if_neg hi] at h
      exact wps_snd (fun j hj => ho j (List.mem_cons_of_mem _ hj)) h
/-- as vc: entries from the m-th on, n of them -/
theorem vc {G : GT} {d y : Nat} {code : List Ins} {t : Nat} {ls : List (Nat × Value)} {st : List Value} {M : Mem} {Q : Po} (ho : ∀ i ∈ code, Ok y i) (m n : Nat) (h : wps G d y ((code.drop m).take n) t ls st M Q) : At G (d + 1) y t ls st M Q := wps_snd (fun i hi => ho i (List.mem_of_mem_drop (List.mem_of_mem_take hi))) h
