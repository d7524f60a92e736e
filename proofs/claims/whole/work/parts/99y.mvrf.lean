/-! MOVED: the reference -/
def sl (l : List Int32) (i j : Nat) : List Int32 := (l.drop i).take (j - i)
def bmF (l : List Int32) (a b c k : Nat) : List Int32 := if c < a then sl l 0 (min k c) ++ ((if c < k then sl l a b else []) ++ (sl l c (min k a) ++ sl l b k)) else sl l 0 (min k a) ++ (sl l b (min k c) ++ ((if c < k then sl l a b else []) ++ sl l c k))
def bmI (l : List Int32) (a b c k : Nat) : List Int32 := (if k = c then sl l a b else []) ++ (if k < l.length ∧ (k < a ∨ b ≤ k) then [l.getD k 0] else [])
section
variable {l : List Int32} {a b c k i j : Nat}
theorem sl_0 (h : j ≤ i) : sl l i j = [] := by unfold sl; rw [show j - i = 0 by omega]; exact List.take_zero
theorem sl_s (h : i ≤ k) (hk : k < l.length) : sl l i (k + 1) = sl l i k ++ [l.getD k 0] := by
  unfold sl
  rw [show k + 1 - i = (k - i) + 1 by omega, List.take_succ_eq_append_getElem (by rw [List.length_drop]; omega)]
  congr 2
  rw [List.getElem_drop, List.getD_eq_getElem?_getD, List.getElem?_eq_getElem hk]
  show l[i + (k - i)] = l[k]
  congr 1; omega
theorem sl_e (hk : l.length ≤ k) : sl l i (k + 1) = sl l i k := by
  unfold sl
  rw [List.take_of_length_le (by rw [List.length_drop]; omega), List.take_of_length_le (by rw [List.length_drop]; omega)]
theorem sl_len : (sl l i j).length ≤ j - i := by unfold sl; rw [List.length_take]; omega
theorem bm_s (hab : a < b) (hb : b ≤ l.length) (hc : c ≤ l.length) (ht : c < a ∨ b < c) : bmF l a b c (k + 1) = bmF l a b c k ++ bmI l a b c k := by
  unfold bmF bmI
  by_cases ca : c < a
  · rw [if_pos ca, if_pos ca]
    rcases Nat.lt_trichotomy k c with h | h | h
    · rw [if_neg (by omega), if_neg (by omega), if_neg (by omega), if_pos ⟨by omega, by omega⟩, Nat.min_eq_left (by omega), Nat.min_eq_left (by omega), Nat.min_eq_left (by omega), Nat.min_eq_left (by omega), sl_0 (i := c) (by omega), sl_0 (i := b) (by omega), sl_0 (i := c) (by omega), sl_0 (i := b) (by omega), sl_s (by omega) (by omega)]
      simp
    · subst h
      rw [if_pos (by omega), if_neg (by omega), if_pos rfl, if_pos ⟨by omega, by omega⟩, Nat.min_eq_right (by omega), Nat.min_eq_left (by omega), Nat.min_eq_left (by omega), Nat.min_eq_left (by omega), sl_s (i := k) (by omega) (by omega), sl_0 (i := k) (j := k) (by omega), sl_0 (i := b) (by omega), sl_0 (i := b) (by omega)]
      simp
    · rw [if_pos (show c < k + 1 by omega), if_pos (show c < k by omega), if_neg (show ¬ k = c by omega), Nat.min_eq_right (show c ≤ k + 1 by omega), Nat.min_eq_right (show c ≤ k by omega)]
      by_cases h2 : k < a
      · rw [if_pos ⟨by omega, by omega⟩, Nat.min_eq_left (by omega), Nat.min_eq_left (by omega), sl_s (i := c) (by omega) (by omega), sl_0 (i := b) (by omega), sl_0 (i := b) (by omega)]
        simp
      · rw [Nat.min_eq_right (by omega), Nat.min_eq_right (by omega)]
        by_cases h3 : k < b
        · rw [if_neg (by omega), sl_0 (i := b) (by omega), sl_0 (i := b) (by omega)]; simp
        · by_cases h4 : k < l.length
          · rw [if_pos ⟨h4, by omega⟩, sl_s (i := b) (by omega) h4]; simp
          · rw [if_neg (by omega), sl_e (by omega)]; simp
  · rw [if_neg ca, if_neg ca]
    rcases Nat.lt_trichotomy k c with h | h | h
    · rw [if_neg (show ¬ c < k + 1 by omega), if_neg (show ¬ c < k by omega), if_neg (show ¬ k = c by omega), Nat.min_eq_left (show k + 1 ≤ c by omega), Nat.min_eq_left (show k ≤ c by omega), sl_0 (i := c) (j := k + 1) (by omega), sl_0 (i := c) (j := k) (by omega)]
      by_cases h2 : k < a
      · rw [if_pos ⟨by omega, by omega⟩, Nat.min_eq_left (by omega), Nat.min_eq_left (by omega), sl_0 (i := b) (by omega), sl_0 (i := b) (by omega), sl_s (by omega) (by omega)]; simp
      · rw [Nat.min_eq_right (by omega), Nat.min_eq_right (by omega)]
        by_cases h3 : k < b
        · rw [if_neg (by omega), sl_0 (i := b) (by omega), sl_0 (i := b) (by omega)]; simp
        · rw [if_pos ⟨by omega, by omega⟩, sl_s (i := b) (by omega) (by omega)]; simp
    · subst h
      rw [if_pos (show k < k + 1 by omega), if_neg (show ¬ k < k by omega), if_pos rfl, Nat.min_eq_right (show k ≤ k + 1 by omega), Nat.min_eq_left (show k ≤ k by omega), Nat.min_eq_right (by omega), Nat.min_eq_right (by omega), sl_0 (i := k) (j := k) (by omega)]
      by_cases h4 : k < l.length
      · rw [if_pos ⟨h4, by omega⟩, sl_s (i := k) (by omega) h4, sl_0 (i := k) (by omega)]; simp
      · rw [if_neg (by omega), sl_e (i := k) (by omega), sl_0 (i := k) (by omega)]; simp
    · rw [if_pos (show c < k + 1 by omega), if_pos (show c < k by omega), if_neg (show ¬ k = c by omega), Nat.min_eq_right (show c ≤ k + 1 by omega), Nat.min_eq_right (show c ≤ k by omega), Nat.min_eq_right (by omega), Nat.min_eq_right (by omega)]
      by_cases h4 : k < l.length
      · rw [if_pos ⟨h4, by omega⟩, sl_s (i := c) (by omega) h4]; simp
      · rw [if_neg (by omega), sl_e (by omega)]; simp
theorem bm_0 (hab : a < b) (ht : c < a ∨ b < c) : bmF l a b c 0 = [] := by
  unfold bmF
  by_cases ca : c < a
  · rw [if_pos ca, if_neg (by omega), sl_0 (by omega), sl_0 (by omega), sl_0 (by omega)]; rfl
  · rw [if_neg ca, if_neg (by omega), sl_0 (by omega), sl_0 (by omega), sl_0 (by omega)]; rfl
theorem bm_n (hab : a < b) (hb : b ≤ l.length) (hc : c ≤ l.length) (ht : c < a ∨ b < c) : bmF l a b c (l.length + 1) = mvG l a b c := by
  unfold bmF mvG
  by_cases ca : c < a
  · rw [if_pos ca, if_pos ca, if_pos (by omega), Nat.min_eq_right (by omega), Nat.min_eq_right (by omega)]
    unfold sl
    rw [List.drop_zero, List.take_of_length_le (l := l.drop b) (by rw [List.length_drop]; omega)]; rfl
  · rw [if_neg ca, if_neg ca, if_pos (by omega), Nat.min_eq_right (by omega), Nat.min_eq_right (by omega)]
    unfold sl
    rw [List.drop_zero, List.take_of_length_le (l := l.drop c) (by rw [List.length_drop]; omega)]; rfl
theorem bm_len (hl : l.length ≤ 24) (hk : k ≤ 25) (hb : b ≤ 24) (hc : c ≤ 24) (ha : a ≤ 24) : (bmF l a b c k).length ≤ 100 := by
  have s1 := fun i j => sl_len (l := l) (i := i) (j := j)
  unfold bmF
  split
  · rw [List.length_append, List.length_append, List.length_append]
    have h1 := s1 0 (min k c)
    have h2 : (if c < k then sl l a b else []).length ≤ b - a := by split; exact s1 a b; exact Nat.zero_le _
    have h3 := s1 c (min k a)
    have h4 := s1 b k
    omega
  · rw [List.length_append, List.length_append, List.length_append]
    have h1 := s1 0 (min k a)
    have h2 : (if c < k then sl l a b else []).length ≤ b - a := by split; exact s1 a b; exact Nat.zero_le _
    have h3 := s1 b (min k c)
    have h4 := s1 c k
    omega
theorem mvG_len (hab : a < b) (hb : b ≤ l.length) (hc : c ≤ l.length) (ht : c < a ∨ b < c) : (mvG l a b c).length = l.length := by
  unfold mvG
  split
  · rw [List.length_append, List.length_append, List.length_append, List.length_take, List.length_take, List.length_take, List.length_drop, List.length_drop, List.length_drop]; omega
  · rw [List.length_append, List.length_append, List.length_append, List.length_take, List.length_take, List.length_take, List.length_drop, List.length_drop, List.length_drop]; omega
end
def encR (M : Mem) (m n : Nat) (cur : Option (Nat × Nat × Nat)) : Prop := vi M m 61 = nI n ∧ vi M m 58 = t2 (cur.map (fun x => x.1)) ∧ vi M m 59 = t2 (cur.map (fun x => x.2.1)) ∧ vi M m 60 = t2 (cur.map (fun x => x.2.2))
section
variable {G : GT} {d : Nat} {M M' : Mem} {m : Nat} {T : StT} {S : ShT}
theorem s_basesMoved {a b c : Nat} {Q : Mem → Prop} (R : RS M m S) (g4 : gN S ≤ 24) (hT : isT (gN S) a b c) (hq : ∀ M', Frl m [57] [41] M M' → eb M' m (mvG (gL' S) a b c) → Q M') : CV G (d + 1) 256 [.ref m, .int (nI a), .int (nI b), .int (nI c)] M Q := by
  obtain ⟨hab, hb, hc, ht⟩ := hT
  have gl : (gL' S).length = gN S := gL_len
  -- a letter more
  have push : ∀ (Mx M1 : Mem) (P : List Int32) (k : Nat), Frl m [57] [41] M Mx → (∀ i, i < P.length → vi Mx (m + 41) i = P.getD i 0) → k < gN S → M1 = seti Mx (m + 41) P.length (vi Mx (m + 2) k) → Frl m [57] [41] M M1 ∧ ∀ i, i < (P ++ [(gL' S).getD k 0]).length → vi M1 (m + 41) i = (P ++ [(gL' S).getD k 0]).getD i 0 := fun Mx M1 P k gx hx hk e1 => by
    refine ⟨gx.trans (by rw [e1]; exact Frl.si (by decide)), fun i hi => ?_⟩
    rw [List.length_append] at hi
    have hi : i < P.length + 1 := hi
    rw [e1, vi_seti]
    by_cases y : i = P.length
    · rw [if_pos ⟨rfl, y⟩, y, gA_r, gx.i (by decide) (by decide), gL_get hk]; exact R.2.2.gb hk
    · rw [if_neg (fun z => y z.2), gA_l (by omega)]; exact hx i (by omega)
  have l6 : ∀ (q k : Nat) (Mx : Mem), q + k = gN S + 1 → Frl m [57] [41] M Mx → (∀ i, i < (bmF (gL' S) a b c k).length → vi Mx (m + 41) i = (bmF (gL' S) a b c k).getD i 0) → At G (d + 1) 256 6 [(0, .ref m), (1, .int (nI a)), (2, .int (nI b)), (3, .int (nI c)), (4, .int (nI (bmF (gL' S) a b c k).length)), (5, .int (nI k))] [] Mx (qV Q) := by
    intro q
    induction q with
    | zero =>
      intro k Mx e gx hx
      have e : k = gN S + 1 := by omega
      have bl := bm_len (l := gL' S) (a := a) (b := b) (c := c) (k := k) (by omega) (by omega) (by omega) (by omega) (by omega)
      refine r_basesMoved_6 (gx.ra R.1) ⟨v03, ?_⟩
      rw [show vi Mx (m + 1) (0 : Int32).toNatClampNeg = nI (gN S) by rw [gx.i (by decide) (by decide)]; exact R.2.2.g, lt_I (by omega) (by omega)]
      refine ⟨fun _ M1 e1 => ?_, fun z => absurd (by omega) z⟩
      have bn := bm_n (l := gL' S) hab (by omega) (by omega) ht
      rw [gl, ← e] at bn
      have g1 : Frl m [57] [] Mx M1 := by rw [e1]; exact Frl.sf (by decide)
      refine hq M1 (gx.trans (g1.sub (by decide) (by decide))) ⟨?_, fun i hi => ?_⟩
      · rw [e1, vi_seti, if_pos ⟨rfl, rfl⟩, ← bn]
      · rw [g1.i (by decide) (by decide), ← bn]; rw [← bn] at hi; exact hx i hi
    | succ q ih =>
      intro k Mx e gx hx
      have kn : k ≤ gN S := by omega
      have bl := bm_len (l := gL' S) (a := a) (b := b) (c := c) (k := k) (by omega) (by omega) (by omega) (by omega) (by omega)
      have bs := bm_s (l := gL' S) (k := k) hab (by omega) (by omega) ht
      have ih := ih (k + 1)
      rw [bs] at ih
      unfold bmI at ih
      rw [gl] at ih
      generalize bmF (gL' S) a b c k = P at *
      have gx0 : ∀ {My : Mem}, Frl m [57] [41] M My → vi My (m + 1) (0 : Int32).toNatClampNeg = nI (gN S) := fun gy => by rw [gy.i (by decide) (by decide)]; exact R.2.2.g
      -- behind the passage
      have rest : ∀ (My : Mem) (P' : List Int32), Frl m [57] [41] M My → P' = P ++ (if k = c then sl (gL' S) a b else []) → P'.length ≤ 150 → (∀ i, i < P'.length → vi My (m + 41) i = P'.getD i 0) → vp_in (0 : Int32) 3 ∧ (((vi My (m + 1) ((0 : Int32)).toNatClampNeg) ≤ nI k → At G (d + 1) 256 6 [(0, .ref m), (1, .int (nI a)), (2, .int (nI b)), (3, .int (nI c)), (4, .int (nI P'.length)), (5, .int (nI (k + 1)))] [] My (qV Q)) ∧ (¬ (vi My (m + 1) ((0 : Int32)).toNatClampNeg) ≤ nI k → (nI k < nI a → vp_in (nI k) 200 ∧ (vp_in (nI P'.length) 200 ∧ (∀ M2, M2 = seti My (m + 41) (nI P'.length).toNatClampNeg (vi My (m + 2) (nI k).toNatClampNeg) → At G (d + 1) 256 6 [(0, .ref m), (1, .int (nI a)), (2, .int (nI b)), (3, .int (nI c)), (4, .int (nI (P'.length + 1))), (5, .int (nI (k + 1)))] [] M2 (qV Q)))) ∧ (¬ nI k < nI a → (nI k < nI b → At G (d + 1) 256 6 [(0, .ref m), (1, .int (nI a)), (2, .int (nI b)), (3, .int (nI c)), (4, .int (nI P'.length)), (5, .int (nI (k + 1)))] [] My (qV Q)) ∧ (¬ nI k < nI b → vp_in (nI k) 200 ∧ (vp_in (nI P'.length) 200 ∧ (∀ M3, M3 = seti My (m + 41) (nI P'.length).toNatClampNeg (vi My (m + 2) (nI k).toNatClampNeg) → At G (d + 1) 256 6 [(0, .ref m), (1, .int (nI a)), (2, .int (nI b)), (3, .int (nI c)), (4, .int (nI (P'.length + 1))), (5, .int (nI (k + 1)))] [] M3 (qV Q))))))) := fun My P' gy eP lP hy => by
        rw [← List.append_assoc, ← eP] at ih
        rw [gx0 gy, le_I (by omega) (by omega), lt_I (by omega) (by omega), lt_I (by omega) (by omega), nI_clamp (n := P'.length) (by omega), nI_clamp (n := k) (by omega)]
        have no : ¬ (k < gN S ∧ (k < a ∨ b ≤ k)) → At G (d + 1) 256 6 [(0, .ref m), (1, .int (nI a)), (2, .int (nI b)), (3, .int (nI c)), (4, .int (nI P'.length)), (5, .int (nI (k + 1)))] [] My (qV Q) := fun h => by
          have := ih My (by omega) gy
          rw [if_neg h, List.append_nil] at this
          exact this hy
        have yes : (k < gN S ∧ (k < a ∨ b ≤ k)) → vp_in (nI k) 200 ∧ (vp_in (nI P'.length) 200 ∧ (∀ M2, M2 = seti My (m + 41) P'.length (vi My (m + 2) k) → At G (d + 1) 256 6 [(0, .ref m), (1, .int (nI a)), (2, .int (nI b)), (3, .int (nI c)), (4, .int (nI (P'.length + 1))), (5, .int (nI (k + 1)))] [] M2 (qV Q))) := fun h => by
          refine ⟨v_i (by omega) (by decide), v_i (by omega) (by decide), fun M2 e2 => ?_⟩
          obtain ⟨gg, hh⟩ := push My M2 P' k gy hy h.1 e2
          have := ih M2 (by omega) gg
          rw [if_pos h] at this
          have := this hh
          rw [List.length_append] at this
          exact this
        exact ⟨v03, fun z => no (by omega), fun z => ⟨fun z2 => yes ⟨by omega, Or.inl z2⟩, fun z2 => ⟨fun z3 => no (by omega), fun z3 => yes ⟨by omega, Or.inr (by omega)⟩⟩⟩⟩
      -- the passage
      have l20 : ∀ (r i : Nat) (My : Mem), r + i = b → a ≤ i → Frl m [57] [41] M My → (k = c → ∀ i', i' < (P ++ sl (gL' S) a i).length → vi My (m + 41) i' = (P ++ sl (gL' S) a i).getD i' 0) → (¬ k = c → i = a ∧ ∀ i', i' < P.length → vi My (m + 41) i' = P.getD i' 0) → At G (d + 1) 256 20 [(0, .ref m), (1, .int (nI a)), (2, .int (nI b)), (3, .int (nI c)), (4, .int (nI (if k = c then P ++ sl (gL' S) a i else P).length)), (5, .int (nI k)), (6, .int (nI i))] [] My (qV Q) := by
        intro r
        induction r with
        | zero =>
          intro i My ei ai gy hy hn
          have ei : i = b := by omega
          subst ei
          have sb := sl_len (l := gL' S) (i := a) (j := i)
          by_cases kc' : k = c
          · rw [if_pos kc']
            refine r_basesMoved_20 (gy.ra R.1) ?_
            rw [le_I (by omega) (by omega), nI_1, nI_1]
            exact ⟨fun _ => rest My _ gy (by rw [if_pos kc']) (by rw [List.length_append]; omega) (hy kc'), fun z => absurd (Nat.le_refl _) z⟩
          · have := (hn kc').1
            omega
        | succ r ihr =>
          intro i My ei ai gy hy hn
          have sb := sl_len (l := gL' S) (i := a) (j := i)
          refine r_basesMoved_20 (gy.ra R.1) ?_
          rw [le_I (by omega) (by omega), eq_I (by omega) (by omega)]
          refine ⟨fun z => absurd z (by omega), fun _ => ⟨fun kn' => ?_, fun ky => ?_⟩⟩
          · rw [if_neg kn', nI_1, nI_1]
            exact rest My P gy (by rw [if_neg kn', List.append_nil]) (by omega) (hn kn').2
          · have go := ihr (i + 1)
            rw [if_pos ky] at go ⊢
            have lP : (P ++ sl (gL' S) a i).length ≤ 150 := by rw [List.length_append]; omega
            rw [nI_clamp (n := i) (by omega), nI_clamp (n := (P ++ sl (gL' S) a i).length) (by omega), nI_1, nI_1]
            refine ⟨v_i (by omega) (by decide), v_i (by omega) (by decide), fun M6 e6 => ?_⟩
            obtain ⟨gg, hh⟩ := push My M6 _ i gy (hy ky) (by omega) e6
            rw [List.append_assoc, ← sl_s (l := gL' S) ai (by omega)] at hh
            have := go M6 (by omega) (by omega) gg (fun _ => hh) (fun z => absurd ky z)
            rw [sl_s (l := gL' S) ai (by omega), ← List.append_assoc, List.length_append] at this
            exact this
      refine r_basesMoved_6 (gx.ra R.1) ⟨v03, ?_⟩
      rw [gx0 gx, lt_I (by omega) (by omega)]
      refine ⟨fun z => absurd z (by omega), fun _ => ?_⟩
      have s0 : sl (gL' S) a a = [] := sl_0 (Nat.le_refl _)
      have := l20 (b - a) a Mx (by omega) (Nat.le_refl _) gx (fun _ => by rw [s0, List.append_nil]; exact hx) (fun _ => ⟨rfl, hx⟩)
      rw [s0, List.append_nil, show (if k = c then P else P) = P by split <;> rfl] at this
      exact this
  have b0 := bm_0 (l := gL' S) hab ht
  have := l6 (gN S + 1) 0 M rfl Frl.refl (fun i hi => by rw [b0] at hi; exact absurd hi (Nat.not_lt_zero i))
  rw [b0] at this
  exact r_basesMoved R.1 this
end
