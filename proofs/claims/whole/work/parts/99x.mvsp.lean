/-! MOVED: what is best so far; EDIT read forward, and split -/
def t2 : Option Nat → Int32
  | none => -2
  | some k => nI k
noncomputable def bs4 (S : ShT) (P : Nat → Nat → Nat → Prop) (n : Nat) : Option (Nat × Nat × Nat) → Prop
  | none => n = edC S ∧ ∀ a b c, P a b c → edC S ≤ mvC S a b c
  | some (a, b, c) => P a b c ∧ n = mvC S a b c ∧ n < edC S ∧ ∀ a' b' c', P a' b' c' → n < mvC S a' b' c' ∨ (n = mvC S a' b' c' ∧ ¬ lex3 a' b' c' a b c)
def btr (m n : Nat) (a b c : Nat) : Option (Nat × Nat × Nat) → Prop
  | none => m < n
  | some (a', b', c') => m < n ∨ (m = n ∧ lex3 a b c a' b' c')
section
variable {S : ShT} {P P' : Nat → Nat → Nat → Prop} {n a b c : Nat} {cur : Option (Nat × Nat × Nat)}
theorem lex3_n (h : lex3 a b c a b c) : False := by unfold lex3 at h; omega
theorem lex3_t {a' b' c' a'' b'' c'' : Nat} (h : lex3 a b c a' b' c') (h2 : lex3 a' b' c' a'' b'' c'') : lex3 a b c a'' b'' c'' := by unfold lex3 at h h2 ⊢; omega
theorem bs4_y (h : bs4 S P n cur) (hP : ∀ x y z, P' x y z → P x y z ∨ (x = a ∧ y = b ∧ z = c)) (hn : P' a b c) (hb : btr (mvC S a b c) n a b c cur) : bs4 S P' (mvC S a b c) (some (a, b, c)) := by
  match cur, h, hb with
  | none, h, hb =>
    have hb : mvC S a b c < n := hb
    have h1 := h.1
    refine ⟨hn, rfl, by omega, fun a' b' c' h' => ?_⟩
    rcases hP a' b' c' h' with z | ⟨rfl, rfl, rfl⟩
    · have := h.2 a' b' c' z; omega
    · exact Or.inr ⟨rfl, lex3_n⟩
  | some (x, y, z), h, hb =>
    obtain ⟨h1, h2, h3, h4⟩ := h
    have hb : mvC S a b c < n ∨ (mvC S a b c = n ∧ lex3 a b c x y z) := hb
    refine ⟨hn, rfl, by omega, fun a' b' c' h' => ?_⟩
    rcases hP a' b' c' h' with q | ⟨rfl, rfl, rfl⟩
    · rcases h4 a' b' c' q with w | ⟨w, wl⟩
      · omega
      · rcases hb with v | ⟨v, vl⟩
        · omega
        · exact Or.inr ⟨by omega, fun l => wl (lex3_t l vl)⟩
    · exact Or.inr ⟨rfl, lex3_n⟩
theorem bs4_n (h : bs4 S P n cur) (hP : ∀ x y z, P' x y z → P x y z ∨ (x = a ∧ y = b ∧ z = c)) (hn : ∀ x y z, P x y z → P' x y z) (hb : ¬ btr (mvC S a b c) n a b c cur) : bs4 S P' n cur := by
  match cur, h, hb with
  | none, h, hb =>
    have hb : ¬ mvC S a b c < n := hb
    have h1 := h.1
    refine ⟨h1, fun a' b' c' h' => ?_⟩
    rcases hP a' b' c' h' with z | ⟨rfl, rfl, rfl⟩
    · exact h.2 a' b' c' z
    · omega
  | some (x, y, z), h, hb =>
    obtain ⟨h1, h2, h3, h4⟩ := h
    have hb : ¬ (mvC S a b c < n ∨ (mvC S a b c = n ∧ lex3 a b c x y z)) := hb
    refine ⟨hn _ _ _ h1, h2, h3, fun a' b' c' h' => ?_⟩
    rcases hP a' b' c' h' with q | ⟨rfl, rfl, rfl⟩
    · exact h4 a' b' c' q
    · rcases Nat.lt_trichotomy n (mvC S a' b' c') with w | w | w
      · exact Or.inl w
      · exact Or.inr ⟨w, fun l => hb (Or.inr ⟨w.symm, l⟩)⟩
      · exact absurd (Or.inl w) hb
theorem bs4_i (h : bs4 S P n cur) (e : ∀ x y z, P x y z ↔ P' x y z) : bs4 S P' n cur := by
  match cur, h with
  | none, h => exact ⟨h.1, fun a b c h' => h.2 a b c ((e a b c).mpr h')⟩
  | some (x, y, z), h => exact ⟨(e _ _ _).mp h.1, h.2.1, h.2.2.1, fun a' b' c' h' => h.2.2.2 a' b' c' ((e _ _ _).mpr h')⟩
theorem bs4_d (h : bs4 S (isT (gN S)) n cur) : isMvd S (nI n) (t2 (cur.map (fun x => x.1))) (t2 (cur.map (fun x => x.2.1))) (t2 (cur.map (fun x => x.2.2))) := by
  match cur, h with
  | none, h => exact Or.inl ⟨by rw [h.1], rfl, rfl, rfl, h.2⟩
  | some (x, y, z), h => exact Or.inr ⟨x, y, z, h.1, by rw [h.2.1], rfl, rfl, rfl, by rw [← h.2.1]; exact h.2.2.1, fun a' b' c' h' => by rw [← h.2.1]; exact h.2.2.2 a' b' c' h'⟩
theorem lex3_c {a' b' c' : Nat} (h : ¬ lex3 a b c a' b' c') (h2 : ¬ lex3 a' b' c' a b c) : a = a' ∧ b = b' ∧ c = c' := by unfold lex3 at h h2; omega
noncomputable def mv4 (S : ShT) : Int32 × Int32 × Int32 × Int32 := Classical.epsilon (fun r => isMvd S r.1 r.2.1 r.2.2.1 r.2.2.2)
theorem mvd_u {v f s t v' f' s' t' : Int32} (h : isMvd S v f s t) (h' : isMvd S v' f' s' t') : v = v' ∧ f = f' ∧ s = s' ∧ t = t' := by
  rcases h with ⟨h1, h2, h3, h4, h5⟩ | ⟨a, b, c, h1, h2, h3, h4, h5, h6, h7⟩
  · rcases h' with ⟨k1, k2, k3, k4, k5⟩ | ⟨a', b', c', k1, k2, k3, k4, k5, k6, k7⟩
    · exact ⟨h1.trans k1.symm, h2.trans k2.symm, h3.trans k3.symm, h4.trans k4.symm⟩
    · have := h5 a' b' c' k1; omega
  · rcases h' with ⟨k1, k2, k3, k4, k5⟩ | ⟨a', b', c', k1, k2, k3, k4, k5, k6, k7⟩
    · have := k5 a b c h1; omega
    · have z1 := h7 a' b' c' k1
      have z2 := k7 a b c h1
      have e : mvC S a b c = mvC S a' b' c' := by omega
      have l1 : ¬ lex3 a' b' c' a b c := z1.elim (fun z => by omega) (fun z => z.2)
      have l2 : ¬ lex3 a b c a' b' c' := z2.elim (fun z => by omega) (fun z => z.2)
      obtain ⟨rfl, rfl, rfl⟩ := lex3_c l2 l1
      exact ⟨h2.trans k2.symm, h3.trans k3.symm, h4.trans k4.symm, h5.trans k5.symm⟩
theorem mv4_e {v f s t : Int32} (h : isMvd S v f s t) : mv4 S = (v, f, s, t) := by
  have z : isMvd S (mv4 S).1 (mv4 S).2.1 (mv4 S).2.2.1 (mv4 S).2.2.2 := Classical.epsilon_spec (p := fun r : Int32 × Int32 × Int32 × Int32 => isMvd S r.1 r.2.1 r.2.2.1 r.2.2.2) ⟨(v, f, s, t), h⟩
  obtain ⟨e1, e2, e3, e4⟩ := mvd_u z h
  have : mv4 S = ((mv4 S).1, (mv4 S).2.1, (mv4 S).2.2.1, (mv4 S).2.2.2) := rfl
  rw [this, e1, e2, e3, e4]
end
noncomputable def f_moved (T : StT) (k : Int32) : Int32 := cif ((0 ≤ k.toInt ∧ k.toInt ≤ 3) ∧ gN (sh T) ≤ 24) (cif (k = 0) (mv4 (sh T)).1 (cif (k = 1) (mv4 (sh T)).2.1 (cif (k = 2) (mv4 (sh T)).2.2.1 (mv4 (sh T)).2.2.2))) (-1)
/-! EDIT, read forward -/
section
variable {S : ShT} {p q v : List Int32} {c u : Int32}
theorem ed_le1 (b v : List Int32) : edL S (c :: b) v ≤ kc S 1 + edL S b v := by
  match v with
  | [] => exact Nat.le_refl _
  | u :: v =>
    rw [edL_cc]
    split
    · exact Nat.min_le_left _ _
    · exact Nat.le_trans (Nat.min_le_left _ _) (Nat.min_le_left _ _)
theorem ed_le0 (b : List Int32) (v : List Int32) : edL S b (u :: v) ≤ kc S 0 + edL S b v := by
  match b with
  | [] => rw [edL_nc]; exact Nat.le_refl _
  | c :: b =>
    rw [edL_cc]
    split
    · exact Nat.min_le_right _ _
    · exact Nat.le_trans (Nat.min_le_left _ _) (Nat.min_le_right _ _)
theorem ed_let {t : Nat} (h : tuC S c u = some t) (b v : List Int32) : edL S (c :: b) (u :: v) ≤ t + edL S b v := by
  rw [edL_cc, h]; exact Nat.min_le_right _ _
/-- one of the three -/
theorem ed_or (b v : List Int32) : edL S (c :: b) (u :: v) = kc S 1 + edL S b (u :: v) ∨ edL S (c :: b) (u :: v) = kc S 0 + edL S (c :: b) v ∨ ∃ t, tuC S c u = some t ∧ edL S (c :: b) (u :: v) = t + edL S b v := by
  have ec := edL_cc (S := S) (b := b) (v := v) (c := c) (u := u)
  cases ht : tuC S c u with
  | none =>
    rw [ht] at ec
    have ec : edL S (c :: b) (u :: v) = min (kc S 1 + edL S b (u :: v)) (kc S 0 + edL S (c :: b) v) := ec
    omega
  | some t =>
    rw [ht] at ec
    have ec : edL S (c :: b) (u :: v) = min (min (kc S 1 + edL S b (u :: v)) (kc S 0 + edL S (c :: b) v)) (t + edL S b v) := ec
    rcases (show edL S (c :: b) (u :: v) = kc S 1 + edL S b (u :: v) ∨ edL S (c :: b) (u :: v) = kc S 0 + edL S (c :: b) v ∨ edL S (c :: b) (u :: v) = t + edL S b v by omega) with z | z | z
    · exact Or.inl z
    · exact Or.inr (Or.inl z)
    · exact Or.inr (Or.inr ⟨t, rfl, z⟩)
theorem spl_le : ∀ (p v : List Int32) (j : Nat), edL S (p ++ q) v ≤ edL S p (v.take j) + edL S q (v.drop j)
  | [], v, j => by
    show edL S q v ≤ (v.take j).length * kc S 0 + edL S q (v.drop j)
    have key : ∀ (j : Nat) (v : List Int32), edL S q v ≤ (v.take j).length * kc S 0 + edL S q (v.drop j) := by
      intro j
      induction j with
      | zero => intro v; rw [List.take_zero, List.drop_zero]; show _ ≤ 0 * _ + _; omega
      | succ j ih =>
        intro v
        match v with
        | [] => rw [List.take_nil, List.drop_nil]; show _ ≤ 0 * _ + _; omega
        | u :: v =>
          rw [List.take_succ_cons, List.drop_succ_cons, List.length_cons, Nat.add_mul, Nat.one_mul]
          have h1 := ed_le0 (S := S) (u := u) q v
          have h2 := ih v
          omega
    exact key j v
  | c :: p, v, j => by
    have ihp := fun w j => spl_le p w j
    have key : ∀ (v : List Int32) (j : Nat), edL S (c :: (p ++ q)) v ≤ edL S (c :: p) (v.take j) + edL S q (v.drop j) := by
      intro v
      induction v with
      | nil =>
        intro j
        have := ihp [] j
        rw [List.take_nil, List.drop_nil] at this ⊢
        rw [edL_cn, edL_cn]; omega
      | cons u v ihv =>
        intro j
        have l1 := ed_le1 (S := S) (c := c) (p ++ q) (u :: v)
        have i1 := ihp (u :: v) j
        match j with
        | 0 =>
          rw [List.take_zero, List.drop_zero] at i1 ⊢
          rw [edL_cn]; omega
        | j + 1 =>
          rw [List.take_succ_cons, List.drop_succ_cons] at i1 ⊢
          have l0 := ed_le0 (S := S) (u := u) (c :: (p ++ q)) v
          have i0 := ihv j
          rcases ed_or (S := S) (c := c) (u := u) p (v.take j) with z | z | ⟨t, ht, z⟩
          · omega
          · omega
          · have lt := ed_let ht (p ++ q) v
            have i2 := ihp v j
            omega
    exact key v j
theorem spl_ge : ∀ (p v : List Int32), ∃ j, j ≤ v.length ∧ edL S p (v.take j) + edL S q (v.drop j) ≤ edL S (p ++ q) v
  | [], v => ⟨0, Nat.zero_le _, by rw [List.take_zero, List.drop_zero]; show 0 * _ + _ ≤ _; show 0 * kc S 0 + edL S q v ≤ edL S q v; omega⟩
  | c :: p, v => by
    have ihp := fun w => spl_ge p w
    have key : ∀ (v : List Int32), ∃ j, j ≤ v.length ∧ edL S (c :: p) (v.take j) + edL S q (v.drop j) ≤ edL S (c :: (p ++ q)) v := by
      intro v
      induction v with
      | nil =>
        obtain ⟨j, hj, h⟩ := ihp []
        refine ⟨j, hj, ?_⟩
        rw [List.take_nil, List.drop_nil] at h ⊢
        rw [edL_cn, edL_cn]; omega
      | cons u v ihv =>
        rcases ed_or (S := S) (c := c) (u := u) (p ++ q) v with z | z | ⟨t, ht, z⟩
        · obtain ⟨j, hj, h⟩ := ihp (u :: v)
          have := ed_le1 (S := S) (c := c) p ((u :: v).take j)
          exact ⟨j, hj, by omega⟩
        · obtain ⟨j, hj, h⟩ := ihv
          have := ed_le0 (S := S) (u := u) (c :: p) (v.take j)
          exact ⟨j + 1, by rw [List.length_cons]; omega, by rw [List.take_succ_cons, List.drop_succ_cons]; omega⟩
        · obtain ⟨j, hj, h⟩ := ihp v
          have := ed_let ht p (v.take j)
          exact ⟨j + 1, by rw [List.length_cons]; omega, by rw [List.take_succ_cons, List.drop_succ_cons]; omega⟩
    exact key v
theorem fw_n : edL S (p ++ [c]) [] = edL S p [] + kc S 1 := by
  have h1 := spl_le (S := S) (q := [c]) p [] 0
  obtain ⟨j, hj, h2⟩ := spl_ge (S := S) (q := [c]) p []
  rw [List.take_nil, List.drop_nil] at h1 h2
  have e : edL S [c] [] = kc S 1 + edL S [] [] := rfl
  rw [edL_nn] at e
  omega
/-- the last letters, as the first -/
theorem ed_ln (v : List Int32) : edL S [] v = v.length * kc S 0 := rfl
theorem fw_A (v : List Int32) : edL S (p ++ [c]) v ≤ edL S p v + kc S 1 := by
  have h := spl_le (S := S) (q := [c]) p v v.length
  rw [List.take_length, List.drop_length] at h
  have e : edL S [c] [] = kc S 1 + edL S [] [] := rfl
  rw [edL_nn] at e
  omega
theorem fw_B (b v : List Int32) : edL S b (v ++ [u]) ≤ edL S b v + kc S 0 := by
  have h := spl_le (S := S) (q := []) b (v ++ [u]) v.length
  rw [List.append_nil, List.take_left, List.drop_left] at h
  have e : edL S [] [u] = 1 * kc S 0 := rfl
  rw [Nat.one_mul] at e
  omega
theorem fw_C {t : Nat} (ht : tuC S c u = some t) (v : List Int32) : edL S (p ++ [c]) (v ++ [u]) ≤ edL S p v + t := by
  have h := spl_le (S := S) (q := [c]) p (v ++ [u]) v.length
  rw [List.take_left, List.drop_left] at h
  have e := ed_let ht [] []
  rw [edL_nn] at e
  omega
theorem fw_1 : ∀ (x : List Int32), (x.length * kc S 0 + kc S 0 + kc S 1 ≤ edL S [c] (x ++ [u])) ∨ (edL S [c] x + kc S 0 ≤ edL S [c] (x ++ [u])) ∨ ∃ t, tuC S c u = some t ∧ x.length * kc S 0 + t ≤ edL S [c] (x ++ [u])
  | [] => by
    show (0 * kc S 0 + kc S 0 + kc S 1 ≤ edL S [c] [u]) ∨ (edL S [c] [] + kc S 0 ≤ edL S [c] [u]) ∨ ∃ t, tuC S c u = some t ∧ 0 * kc S 0 + t ≤ edL S [c] [u]
    rw [Nat.zero_mul]
    rcases ed_or (S := S) (c := c) (u := u) [] [] with z | z | ⟨t, ht, z⟩
    · rw [z, ed_ln]
      show 0 + kc S 0 + kc S 1 ≤ kc S 1 + 1 * kc S 0 ∨ _
      exact Or.inl (by omega)
    · rw [z]; exact Or.inr (Or.inl (by omega))
    · rw [z]; exact Or.inr (Or.inr ⟨t, ht, by omega⟩)
  | u' :: x => by
    have ih := fw_1 x
    show ((x.length + 1) * kc S 0 + kc S 0 + kc S 1 ≤ edL S [c] (u' :: (x ++ [u]))) ∨ (edL S [c] (u' :: x) + kc S 0 ≤ edL S [c] (u' :: (x ++ [u]))) ∨ ∃ t, tuC S c u = some t ∧ (x.length + 1) * kc S 0 + t ≤ edL S [c] (u' :: (x ++ [u]))
    rw [Nat.add_mul, Nat.one_mul]
    have l : edL S [] (x ++ [u]) = x.length * kc S 0 + kc S 0 := by rw [ed_ln, List.length_append]; show (x.length + 1) * _ = _; rw [Nat.add_mul, Nat.one_mul]
    have l2 : edL S [] (u' :: (x ++ [u])) = x.length * kc S 0 + kc S 0 + kc S 0 := by rw [edL_nc, l]; omega
    have l3 := ed_le0 (S := S) (u := u') [c] x
    rcases ed_or (S := S) (c := c) (u := u') [] (x ++ [u]) with z | z | ⟨t', ht', z⟩
    · rw [z, l2]; exact Or.inl (by omega)
    · rw [z]
      rcases ih with y | y | ⟨t, ht, y⟩
      · exact Or.inl (by omega)
      · exact Or.inr (Or.inl (by omega))
      · exact Or.inr (Or.inr ⟨t, ht, by omega⟩)
    · rw [z, l]
      have l4 := ed_let ht' [] x
      rw [ed_ln] at l4
      exact Or.inr (Or.inl (by omega))
theorem fw_or (p v : List Int32) : edL S p (v ++ [u]) + kc S 1 ≤ edL S (p ++ [c]) (v ++ [u]) ∨ edL S (p ++ [c]) v + kc S 0 ≤ edL S (p ++ [c]) (v ++ [u]) ∨ ∃ t, tuC S c u = some t ∧ edL S p v + t ≤ edL S (p ++ [c]) (v ++ [u]) := by
  obtain ⟨j, hj, h⟩ := spl_ge (S := S) (q := [c]) p (v ++ [u])
  rw [List.length_append] at hj
  have hj : j ≤ v.length + 1 := hj
  by_cases z : j = v.length + 1
  · rw [List.take_of_length_le (by rw [List.length_append]; show v.length + 1 ≤ j; omega), List.drop_eq_nil_of_le (by rw [List.length_append]; show v.length + 1 ≤ j; omega)] at h
    have e : edL S [c] [] = kc S 1 + edL S [] [] := rfl
    rw [edL_nn] at e
    exact Or.inl (by omega)
  · have a1 := spl_le (S := S) (q := []) p (v ++ [u]) j
    have a2 := spl_le (S := S) (q := []) p v j
    have a3 := spl_le (S := S) (q := [c]) p v j
    rw [List.append_nil] at a1 a2
    rw [List.take_append_of_le_length (by omega), List.drop_append_of_le_length (by omega)] at h a1
    rw [ed_ln, List.length_append] at a1
    have a1 : edL S p (v ++ [u]) ≤ edL S p (v.take j) + ((v.drop j).length + 1) * kc S 0 := a1
    rw [Nat.add_mul, Nat.one_mul] at a1
    rw [ed_ln] at a2
    rcases fw_1 (S := S) (c := c) (u := u) (v.drop j) with y | y | ⟨t, ht, y⟩
    · exact Or.inl (by omega)
    · exact Or.inr (Or.inl (by omega))
    · exact Or.inr (Or.inr ⟨t, ht, by omega⟩)
/-- the last letters of two rows: the least of the three -/
theorem fw_c (p v : List Int32) {x : Nat} (h1 : x ≤ edL S p (v ++ [u]) + kc S 1) (h2 : x ≤ edL S (p ++ [c]) v + kc S 0) (h3 : ∀ t, tuC S c u = some t → x ≤ edL S p v + t) (h : x = edL S p (v ++ [u]) + kc S 1 ∨ x = edL S (p ++ [c]) v + kc S 0 ∨ ∃ t, tuC S c u = some t ∧ x = edL S p v + t) : x = edL S (p ++ [c]) (v ++ [u]) := by
  have le : x ≤ edL S (p ++ [c]) (v ++ [u]) := by
    rcases fw_or (S := S) (c := c) (u := u) p v with z | z | ⟨t, ht, z⟩
    · omega
    · omega
    · have := h3 t ht; omega
  have ge : edL S (p ++ [c]) (v ++ [u]) ≤ x := by
    rcases h with z | z | ⟨t, ht, z⟩
    · have := fw_A (S := S) (p := p) (c := c) (v ++ [u]); omega
    · have := fw_B (S := S) (u := u) (p ++ [c]) v; omega
    · have := fw_C (S := S) (p := p) ht v; omega
  omega
end
