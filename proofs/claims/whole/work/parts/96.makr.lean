/-! THE TEXT: the reference; its items, its moves -/
def enI (x : Nat) : Int32 := if x % 2 = 0 then nI (1000 + x / 2) else nI (x / 2)
theorem enI_e (q : Nat) : enI (2 * q) = nI (1000 + q) := by unfold enI; rw [if_pos (by omega), show 2 * q / 2 = q by omega]
theorem enI_o (q : Nat) : enI (2 * q + 1) = nI q := by unfold enI; rw [if_neg (by omega), show (2 * q + 1) / 2 = q by omega]
theorem enI_inj {x y : Nat} (hx : x < 500) (hy : y < 500) (h : enI x = enI y) : x = y := by
  unfold enI at h
  by_cases a : x % 2 = 0
  · rw [if_pos a] at h
    by_cases b : y % 2 = 0
    · rw [if_pos b, eq_I (by omega) (by omega)] at h; omega
    · rw [if_neg b, eq_I (by omega) (by omega)] at h; omega
  · rw [if_neg a] at h
    by_cases b : y % 2 = 0
    · rw [if_pos b, eq_I (by omega) (by omega)] at h; omega
    · rw [if_neg b, eq_I (by omega) (by omega)] at h; omega
theorem gDE {L : List Nat} {i : Nat} (h : i < L.length) : L.getD i 0 = L[i] := by rw [List.getD_eq_getElem?_getD, List.getElem?_eq_getElem h]; rfl
theorem gD_mem {L : List Nat} {i : Nat} (h : i < L.length) : L.getD i 0 ∈ L := by rw [gDE h]; exact List.getElem_mem h
theorem nd_inj {L : List Nat} (hN : L.Nodup) {i j : Nat} (hi : i < L.length) (hj : j < L.length) (h : L.getD i 0 = L.getD j 0) : i = j := by
  rw [gDE hi, gDE hj] at h
  exact (List.getElem?_inj hi hN).mp (by rw [List.getElem?_eq_getElem hi, List.getElem?_eq_getElem hj, h])
theorem gD_at {L A B : List Nat} {x : Nat} (e : L = A ++ x :: B) : A.length < L.length ∧ L.getD A.length 0 = x := by
  rw [e]; exact ⟨by rw [List.length_append, List.length_cons]; omega, gA_m A x 0 B⟩
theorem gD_l {A B : List Nat} {i : Nat} (h : i < A.length) : (A ++ B).getD i 0 = A.getD i 0 := by
  rw [List.getD_eq_getElem?_getD, List.getD_eq_getElem?_getD, List.getElem?_append_left h]
theorem gD_r {A B : List Nat} {i : Nat} (h : A.length ≤ i) : (A ++ B).getD i 0 = B.getD (i - A.length) 0 := by
  rw [List.getD_eq_getElem?_getD, List.getD_eq_getElem?_getD, List.getElem?_append_right h]
theorem take_s {L : List Nat} {k : Nat} (h : k < L.length) : L.take (k + 1) = L.take k ++ [L.getD k 0] := by
  rw [List.take_succ_eq_append_getElem h, gDE h]
/-- what is behind k items of a move -/
def mvO (L : List Nat) (f s t k : Nat) : List Nat := insA (row f s) (2 * t) ((L.take k).filter (outR f s))
theorem mvO_n {L : List Nat} {f s t k : Nat} (h : k < L.length) (n : ¬ outR f s (L.getD k 0) = true) : mvO L f s t (k + 1) = mvO L f s t k := by
  unfold mvO
  rw [take_s h, List.filter_append, List.filter_cons_of_neg n, List.filter_nil, List.append_nil]
theorem mvO_y {L : List Nat} {f s t k : Nat} (h : k < L.length) (y : outR f s (L.getD k 0) = true) (n : ¬ L.getD k 0 = 2 * t) : mvO L f s t (k + 1) = mvO L f s t k ++ [L.getD k 0] := by
  unfold mvO
  rw [take_s h, List.filter_append, List.filter_cons_of_pos y, List.filter_nil]
  by_cases c : 2 * t ∈ (L.take k).filter (outR f s)
  · rw [insA_y c]
  · rw [insA_n c]
    have e1 : insA (row f s) (2 * t) ((L.take k).filter (outR f s)) = (L.take k).filter (outR f s) := by
      have := insA_n (r := row f s) (Y := []) c
      rw [List.append_nil] at this
      rw [this]; exact List.append_nil _
    rw [e1]
    congr 1
    show (if L.getD k 0 = 2 * t then _ else L.getD k 0 :: insA (row f s) (2 * t) []) = _
    rw [if_neg n]; rfl
theorem mvO_u {L : List Nat} {f s t k : Nat} (hN : L.Nodup) (h : k < L.length) (y : outR f s (L.getD k 0) = true) (e : L.getD k 0 = 2 * t) : mvO L f s t (k + 1) = mvO L f s t k ++ 2 * t :: row f s := by
  have c : 2 * t ∉ (L.take k).filter (outR f s) := fun z => by
    have z := (List.mem_filter.mp z).1
    obtain ⟨i, hi, ei⟩ := List.getElem_of_mem z
    rw [List.getElem_take] at ei
    rw [List.length_take] at hi
    have : i = k := nd_inj hN (by omega) h (by rw [gDE (by omega), ei, e])
    omega
  have e1 : insA (row f s) (2 * t) ((L.take k).filter (outR f s)) = (L.take k).filter (outR f s) := by
    have := insA_n (r := row f s) (Y := []) c
    rw [List.append_nil] at this
    rw [this]; exact List.append_nil _
  unfold mvO
  rw [take_s h, List.filter_append, List.filter_cons_of_pos y, List.filter_nil, insA_n c, e1, e]
  congr 1
  show (if 2 * t = 2 * t then 2 * t :: (row f s ++ []) else _) = _
  rw [if_pos rfl, List.append_nil]
theorem mvO_e {L : List Nat} {f s t : Nat} : mvO L f s t L.length = mvL L f s t := by unfold mvO; rw [List.take_length]; rfl
def rAr (M : Mem) (c : Nat) (L : List Nat) : Prop := ∀ i, i < L.length → vi M c i = enI (L.getD i 0)
theorem rAr.put {M M' : Mem} {c : Nat} {L : List Nat} {x : Nat} (h : rAr M c L) (e : M' = seti M c L.length (enI x)) : rAr M' c (L ++ [x]) := fun i hi => by
  rw [List.length_append] at hi
  have hi : i < L.length + 1 := hi
  rw [e, vi_seti]
  by_cases y : i = L.length
  · rw [if_pos ⟨rfl, y⟩, y, gA_r]
  · rw [if_neg (fun z => y z.2), gA_l (by omega)]; exact h i (by omega)
theorem rAr.fr {M M' : Mem} {c : Nat} {L : List Nat} (h : rAr M c L) (e : vi M' c = vi M c) : rAr M' c L := fun i hi => by rw [e]; exact h i hi
section
variable {G : GT} {d : Nat} {M M' : Mem} {m : Nat} {S : ShT} {L : List Nat}
theorem s_finds {x i : Nat} {Q : Int32 → Mem → Prop} (R : RefAt M m) (hL : rAr M (m + 27) L) (hN : L.Nodup) (l4 : L.length ≤ 401) (lb : ∀ y ∈ L, y < 500) (hi : i < L.length) (e : L.getD i 0 = x) (hq : Q (nI i) M) : CI G (d + 1) 228 [.ref m, .int (enI x)] M Q := by
  refine r_findsItem R ?_
  have x5 : x < 500 := by rw [← e]; exact lb _ (gD_mem hi)
  have key : ∀ (j k : Nat), j + k = i → At G (d + 1) 228 2 [(0, .ref m), (1, .int (enI x)), (2, .int (nI k))] [] M (qI Q) := by
    intro j
    induction j with
    | zero =>
      intro k ek
      have ek : k = i := by omega
      subst ek
      refine r_findsItem_2 R ⟨vp_in_nI (by omega) (by omega), ?_⟩
      rw [nI_clamp (by omega), hL k hi, e]
      exact ⟨fun _ => hq, fun z => absurd rfl z⟩
    | succ j ih =>
      intro k ek
      refine r_findsItem_2 R ⟨vp_in_nI (by omega) (by omega), ?_⟩
      rw [nI_clamp (by omega), hL k (by omega), nI_1]
      refine ⟨fun z => ?_, fun _ => ih (k + 1) (by omega)⟩
      have z := enI_inj (lb _ (gD_mem (by omega))) x5 z
      have := nd_inj hN (i := k) (j := i) (by omega) hi (by rw [z, e])
      omega
  exact key i 0 (by omega)
theorem s_moves {p dn : Nat → Prop} {b : Nat} {Q : Mem → Prop} (R : RS M m S) (hp : pOk S p) (h : mvI S p dn L) (hb : isMv S p dn b) (hL : rAr M (m + 27) L) (h43 : vi M m 43 = nI L.length) (hq : ∀ M', Frl m [] [27, 28] M M' → rAr M' (m + 27) (mvB S L b) → Q M') : CV G (d + 2) 229 [.ref m, .int (nI b)] M Q := by
  have V := R.2.1
  have g2 := V.g
  have is := hp.1 b hb.1
  have b6 := isM_lt V is
  obtain ⟨q1, q2, q3, q4, q5, q6, k1, k2, k3⟩ := h.bk V hp hb
  have len := h.len
  have lb : ∀ y ∈ L, y < 500 := fun y hy => by have := (h.2.1 y).mp hy; omega
  have pl := (mv_perm h.1 q6 q5 q1 q4).length_eq
  obtain ⟨A, B, e⟩ := id q6
  have n3 := nodup3 (by rw [← e]; exact h.1)
  unfold mvB at hq
  generalize hf : fN (kM S b) = f at *
  generalize hs : sN (kM S b) = s at *
  generalize ht : dN (kM S b) = t at *
  have rl : (row f s).length = 2 * (s - f) - 1 := List.length_range'
  have eL : L.length = A.length + (row f s).length + B.length := by rw [e, List.length_append, List.length_append]
  have rg : ∀ j, j < (row f s).length → (row f s).getD j 0 = 2 * f + 1 + j := fun j hj => by
    unfold row at hj ⊢; rw [gDE hj, List.getElem_range']; omega
  have gm : ∀ j, j < (row f s).length → L.getD (A.length + j) 0 = (row f s).getD j 0 := fun j hj => by
    rw [e, List.append_assoc, gD_r (by omega), Nat.add_sub_cancel_left, gD_l hj]
  have ga : ∀ k, k < L.length → (outR f s (L.getD k 0) = true ↔ k < A.length ∨ A.length + (row f s).length ≤ k) := fun k hk => by
    rw [outR_T]
    rcases Nat.lt_or_ge k A.length with z | z
    · refine ⟨fun _ => Or.inl z, fun _ y => ?_⟩
      have em : L.getD k 0 ∈ A := by rw [e, List.append_assoc, gD_l z]; exact gD_mem z
      exact n3.1 _ em (mem_row.mpr (by omega))
    · rcases Nat.lt_or_ge k (A.length + (row f s).length) with y | y
      · refine ⟨fun u => absurd ?_ u, fun u => by omega⟩
        have := gm (k - A.length) (by omega)
        rw [show A.length + (k - A.length) = k by omega, rg _ (by omega)] at this
        omega
      · refine ⟨fun _ => Or.inr y, fun _ u => ?_⟩
        have em : L.getD k 0 ∈ B := by
          rw [e, gD_r (by rw [List.length_append]; omega)]
          exact gD_mem (by rw [List.length_append]; omega)
        exact n3.2 _ em (mem_row.mpr (by omega))
  obtain ⟨u, hu, eu⟩ := List.getElem_of_mem q5
  have eu : L.getD u 0 = 2 * t := by rw [gDE hu]; exact eu
  have ou : outR f s (L.getD u 0) = true := by rw [eu]; exact outR_T.mpr (by omega)
  have uv : ∀ k, k < L.length → (L.getD k 0 = 2 * t ↔ k = u) := fun k hk => ⟨fun z => nd_inj h.1 hk hu (by rw [z, eu]), fun z => by rw [z]; exact eu⟩
  have v6 : vp_in (nI b) 64 := vp_in_nI b6 (by omega)
  -- copying back
  have l3 : ∀ (j k : Nat) (Mx : Mem), j + k = L.length → Frl m [] [27, 28] M Mx → rAr Mx (m + 28) (mvL L f s t) → (∀ i, i < k → vi Mx (m + 27) i = enI ((mvL L f s t).getD i 0)) → At G (d + 2) 229 134 [(0, .ref m), (6, .int (nI k))] [] Mx (qV Q) := by
    intro j
    induction j with
    | zero =>
      intro k Mx ek gx a8 a7
      refine r_moves_134 (gx.ra R.1) ?_
      rw [gx.f (by decide) (by decide), h43, le_I (by omega) (by omega)]
      exact ⟨fun _ => hq Mx gx (fun i hi => a7 i (by omega)), fun z => absurd (by omega) z⟩
    | succ j ih =>
      intro k Mx ek gx a8 a7
      refine r_moves_134 (gx.ra R.1) ?_
      rw [gx.f (by decide) (by decide), h43, le_I (by omega) (by omega), nI_clamp (by omega), nI_1, a8 k (by omega)]
      refine ⟨fun z => absurd z (by omega), fun _ => ⟨vp_in_nI (by omega) (by omega), vp_in_nI (by omega) (by omega), fun M1 e1 => ?_⟩⟩
      refine ih (k + 1) M1 (by omega) (gx.trans (by rw [e1]; exact Frl.si (by decide))) (a8.fr (by rw [e1]; funext i; rw [vi_seti, if_neg (by omega)])) (fun i hi => ?_)
      rw [e1, vi_seti]
      by_cases y : i = k
      · rw [if_pos ⟨rfl, y⟩, y]
      · rw [if_neg (fun z => y z.2)]; exact a7 i (by omega)
  -- the new row
  have l1 : ∀ (j k : Nat) (Mx : Mem), j + k = L.length → Frl m [] [28] M Mx → rAr Mx (m + 28) (mvO L f s t k) → (mvO L f s t k).length ≤ L.length → At G (d + 2) 229 48 [(0, .ref m), (2, .int (nI A.length)), (3, .int (nI (A.length + (row f s).length))), (4, .int (nI u)), (5, .int (nI (mvO L f s t k).length)), (6, .int (nI k))] [] Mx (qV Q) := by
    intro j
    induction j with
    | zero =>
      intro k Mx ek gx a8 ml
      have ek : k = L.length := by omega
      subst ek
      refine r_moves_48 (gx.ra R.1) ?_
      rw [gx.f (by decide) (by decide), h43]
      rw [mvO_e] at a8
      exact ⟨fun _ => l3 L.length 0 Mx rfl (gx.sub (by decide) (by decide)) a8 (fun i hi => absurd hi (Nat.not_lt_zero i)), fun z => absurd (nI_le (Nat.le_refl _) (by omega)) z⟩
    | succ j ih =>
      intro k Mx ek gx a8 ml
      have hk : k < L.length := by omega
      have x7 : rAr Mx (m + 27) L := hL.fr (by funext i; exact gx.i (by decide) (by decide) i)
      -- the length never passes that of the row
      have mono : ∀ k', (mvO L f s t k').length ≤ L.length := fun k' => by
        have hs : ((L.take k').filter (outR f s)).length ≤ ((L.take k').filter (outR f s)).length := Nat.le_refl _
        have hmv : (mvO L f s t k').length ≤ (mvL L f s t).length := by
          have sp : L.filter (outR f s) = (L.take k').filter (outR f s) ++ (L.drop k').filter (outR f s) := by rw [← List.filter_append, List.take_append_drop]
          unfold mvO
          rw [mvL_e, sp]
          by_cases c : 2 * t ∈ (L.take k').filter (outR f s)
          · rw [insA_y c, List.length_append]; omega
          · rw [insA_n c, List.length_append]
            have := insA_n (r := row f s) (Y := []) c
            rw [List.append_nil] at this
            rw [this, List.length_append]
            show _ + 0 ≤ _
            omega
        omega
      -- the end of a turn
      have nx : ∀ (M1 : Mem) (o : List Nat) (l7 : Int32), Frl m [] [28] M M1 → rAr M1 (m + 28) o → mvO L f s t (k + 1) = o → (l7 = nI (A.length + (row f s).length) ∨ ¬ k = u) → At G (d + 2) 229 89 [(0, .ref m), (2, .int (nI A.length)), (3, .int (nI (A.length + (row f s).length))), (4, .int (nI u)), (5, .int (nI o.length)), (6, .int (nI k)), (7, .int l7)] [] M1 (qV Q) := fun M1 o l7 g1 a1 eo hh => by
        have f := ih (k + 1) M1 (by omega) g1 (by rw [eo]; exact a1) (mono _)
        rw [eo] at f
        refine r_moves_89 (g1.ra R.1) ?_
        rw [nI_1, eq_I (by omega) (by omega)]
        refine ⟨fun _ => f, fun z => ⟨fun _ => f, fun y => ?_⟩⟩
        rcases hh with hh | hh
        · exact absurd (by rw [hh]; exact nI_le (Nat.le_refl _) (by omega)) z
        · exact absurd y hh
      -- the row put in
      have blk : ∀ (j i : Nat) (M1 : Mem) (o : List Nat), j + i = (row f s).length → k = u → Frl m [] [28] M M1 → rAr M1 (m + 28) o → o = mvO L f s t k ++ 2 * t :: (row f s).take i → At G (d + 2) 229 89 [(0, .ref m), (2, .int (nI A.length)), (3, .int (nI (A.length + (row f s).length))), (4, .int (nI u)), (5, .int (nI o.length)), (6, .int (nI k)), (7, .int (nI (A.length + i)))] [] M1 (qV Q) := by
        intro j
        induction j with
        | zero =>
          intro i M1 o ei ku g1 a1 eo
          have ei : i = (row f s).length := by omega
          rw [ei, List.take_length] at eo
          rw [ei]
          exact nx M1 o _ g1 a1 (by rw [eo]; exact mvO_u h.1 hk (by rw [ku]; exact ou) ((uv k hk).mpr ku)) (Or.inl rfl)
        | succ j ihb =>
          intro i M1 o ei ku g1 a1 eo
          have x7' : rAr M1 (m + 27) L := hL.fr (by funext i; exact g1.i (by decide) (by decide) i)
          have m1 := mono (k + 1)
          rw [mvO_u h.1 hk (by rw [ku]; exact ou) ((uv k hk).mpr ku), List.length_append, List.length_cons] at m1
          have lo : o.length = (mvO L f s t k).length + 1 + i := by
            rw [eo, List.length_append, List.length_cons, List.length_take]
            omega
          refine r_moves_89 (g1.ra R.1) ⟨fun z => absurd z (nI_ge (a := A.length + i) (b := A.length + (row f s).length) (by omega) (by omega)), fun _ => ⟨fun z => absurd (by rw [ku]) z, fun _ => ⟨vp_in_nI (by omega) (by omega), vp_in_nI (by omega) (by omega), fun M9 e9 => ?_⟩⟩⟩
          rw [nI_clamp (by omega), nI_clamp (by omega), x7' _ (by omega), gm i (by omega)] at e9
          have r9 := a1.put e9
          have := ihb (i + 1) M9 (o ++ [(row f s).getD i 0]) (by omega) ku (g1.trans (by rw [e9]; exact Frl.si (by decide))) r9 (by rw [eo, take_s (by omega), List.append_assoc, List.cons_append])
          rw [nI_1, nI_1]
          rw [List.length_append] at this
          exact this
      have mk := mono k
      have mk1 := mono (k + 1)
      refine r_moves_48 (gx.ra R.1) ?_
      rw [gx.f (by decide) (by decide), h43, le_I (by omega) (by omega), lt_I (by omega) (by omega), lt_I (by omega) (by omega)]
      have put : outR f s (L.getD k 0) = true → vp_in (nI k) 401 ∧ vp_in (nI (mvO L f s t k).length) 401 ∧ ∀ M7, M7 = seti Mx (m + 28) (nI (mvO L f s t k).length).toNatClampNeg (vi Mx (m + 27) (nI k).toNatClampNeg) → At G (d + 2) 229 89 [(0, .ref m), (2, .int (nI A.length)), (3, .int (nI (A.length + (row f s).length))), (4, .int (nI u)), (5, .int (nI (mvO L f s t k).length + 1)), (6, .int (nI k)), (7, .int (nI A.length))] [] M7 (qV Q) := fun y => by
        have l2 : (mvO L f s t k).length + 1 ≤ L.length := by
          by_cases ku : k = u
          · rw [mvO_u h.1 hk y ((uv k hk).mpr ku), List.length_append, List.length_cons] at mk1; omega
          · rw [mvO_y hk y (fun z => ku ((uv k hk).mp z)), List.length_append] at mk1; exact mk1
        refine ⟨vp_in_nI (by omega) (by omega), vp_in_nI (by omega) (by omega), fun M7 e7 => ?_⟩
        rw [nI_clamp (by omega), nI_clamp (by omega), x7 k hk] at e7
        have r7 := a8.put e7
        have g7 : Frl m [] [28] M M7 := gx.trans (by rw [e7]; exact Frl.si (by decide))
        rw [nI_1]
        by_cases ku : k = u
        · have := blk (row f s).length 0 M7 (mvO L f s t k ++ [L.getD k 0]) rfl ku g7 r7 (by rw [(uv k hk).mpr ku]; rfl)
          rw [List.length_append] at this
          exact this
        · have := nx M7 (mvO L f s t k ++ [L.getD k 0]) (nI A.length) g7 r7 (mvO_y hk y (fun z => ku ((uv k hk).mp z))) (Or.inr ku)
          rw [List.length_append] at this
          exact this
      refine ⟨fun z => absurd z (by omega), fun _ => ⟨fun z => put ((ga k hk).mpr (Or.inl z)), fun z => ⟨fun y => ?_, fun y => put ((ga k hk).mpr (Or.inr (by omega)))⟩⟩⟩
      have no : ¬ outR f s (L.getD k 0) = true := fun w => by have := (ga k hk).mp w; omega
      exact nx Mx (mvO L f s t k) (nI A.length) gx a8 (mvO_n hk no) (Or.inr (fun ku => no (by rw [ku]; exact ou)))
  refine r_moves R.1 ⟨v6, ?_⟩
  rw [nI_clamp (by omega), R.2.2.m8 is, k1, ← enI_o f]
  have r1 : 0 < (row f s).length := by omega
  refine s_finds R.1 hL h.1 (by omega) lb (i := A.length) (by omega) (by have := gm 0 r1; rw [Nat.add_zero, rg 0 r1] at this; exact this) ⟨R.1, v6, ?_⟩
  rw [R.2.2.m9 is, k2, show (1 : Int32) = nI 1 from rfl, pk_sub (by omega), ← enI_o (s - 1)]
  refine s_finds R.1 hL h.1 (by omega) lb (i := A.length + ((row f s).length - 1)) (by omega) (by rw [gm _ (by omega), rg _ (by omega)]; omega) ⟨R.1, v6, ?_⟩
  rw [R.2.2.m10 is, k3, show (1000 : Int32) = nI 1000 from rfl, nI_add, ← enI_e t, nI_add, show A.length + ((row f s).length - 1) + 1 = A.length + (row f s).length by omega]
  refine s_finds R.1 hL h.1 (by omega) lb hu eu ⟨R.1, ?_⟩
  have m0 : mvO L f s t 0 = [] := rfl
  have := l1 L.length 0 M rfl Frl.refl (by rw [m0]; exact fun i hi => absurd hi (Nat.not_lt_zero i)) (by rw [m0]; exact Nat.zero_le _)
  rw [m0] at this
  exact this
end
