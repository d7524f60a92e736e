/-! LINES: the class -/
def hld (acc : List LnT) : List Int32 := acc.flatMap (fun x => x.2)
def lnK (M : Mem) (o : Nat) (acc : List LnT) : Prop := vi M o 0 = nI acc.length ∧ vi M o 4 = nI (hld acc).length ∧ (∀ i, i < acc.length → vi M (o + 1) i = nI (acc.getD i (0, [])).1 ∧ vi M (o + 2) i = nI (acc.getD i (0, [])).2.length ∧ vi M (o + 4) i = nI (hld (acc.take i)).length) ∧ ∀ j, j < (hld acc).length → vi M (o + 3) j = (hld acc).getD j 0
/-- the text in a cell -/
def txA (M : Mem) (b : Nat) (t : List Int32) : Prop := mK M b = 15 ∧ t.length ≤ mA M b ∧ mA M b ≤ 100000 ∧ ∀ i, i < t.length → vi M b i = t.getD i 0
section
variable {t : List Int32} {w : Nat} {acc A : List LnT} {a k : Nat} {u v : List Int32}
theorem hld_a : hld (A ++ [(a, v)]) = hld A ++ v := by unfold hld; rw [List.flatMap_append, List.flatMap_cons, List.flatMap_nil, List.append_nil]
theorem hld_t {i : Nat} (h : i ≤ A.length) {x : LnT} : hld ((A ++ [x]).take i) = hld (A.take i) := by rw [List.take_append_of_le_length h]
theorem lnC_hl : ∀ (f : Nat) (acc : List LnT) (a : Nat) (u : List Int32), (hld (lnC w f acc a u)).length ≤ (hld acc).length + u.length
  | 0, acc, a, u => by show (hld acc).length ≤ _; omega
  | f + 1, acc, a, u => by
    unfold lnC
    split
    · have := lnC_hl f (acc ++ [(a, u.take w)]) (a + w) (u.drop w)
      rw [hld_a, List.length_append, List.length_drop, List.length_take] at this
      omega
    · rw [hld_a, List.length_append]; omega
theorem lnJ_hl : (hld (lnJ w acc a u)).length ≤ (hld acc).length + u.length + (if acc = [] then 0 else 1) := by
  unfold lnJ
  split
  · rw [hld_a, List.length_append]; omega
  · rename_i x ex
    have ne : acc ≠ [] := fun z => by rw [z] at ex; cases ex
    rw [if_neg ne]
    split
    · obtain ⟨B, y, eB⟩ := last_of ne
      subst eB
      rw [List.getLast?_concat] at ex
      cases ex
      rw [List.dropLast_concat, hld_a, List.length_append, List.length_append, List.length_cons]
      have : (hld (B ++ [x])).length = (hld B).length + x.2.length := by
        obtain ⟨x1, x2⟩ := x
        rw [hld_a, List.length_append]
      omega
    · rw [hld_a, List.length_append]; omega
end
section
variable {G : GT} {d : Nat} {M M' : Mem} {o b w : Nat} {t : List Int32} {acc A : List LnT} {a : Nat} {v : List Int32}
theorem txA.fr {F Ls : List Nat} (h : txA M b t) (g : Frl o F Ls M M') (hb : b ≠ o ∧ ∀ i ∈ Ls, b ≠ o + i) : txA M' b t :=
  ⟨by rw [g.2.2.1]; exact h.1, by rw [g.2.2.2.1]; exact h.2.1, by rw [g.2.2.2.1]; exact h.2.2.1, fun i hi => by rw [(g.2.2.2.2.2 b i (fun e => absurd e hb.1) hb.2).1]; exact h.2.2.2 i hi⟩
theorem k_beginLine {Q : Mem → Prop} (O : ObAt 4 M o) (h : lnK M o acc) (l4 : acc.length < 400) (hq : ∀ M', Frl o [0, 4] [1, 2, 3, 4] M M' → lnK M' o (acc ++ [(a, [])]) → Q M') : CV G (d + 1) 42 [.ref o, .int (nI a)] M Q := by
  refine c_X4_beginLine O ?_
  rw [h.1, nI_clamp (by omega)]
  refine ⟨fun z => absurd z (nlt0 _ (by omega)), fun _ => ⟨fun z => absurd z (nI_ge (a := acc.length) (b := 400) (by omega) (by decide)), fun _ => ⟨vp_in_nI (by omega) (by omega), fun M1 e1 => ?_⟩⟩⟩
  have v1 : vi M1 o 0 = nI acc.length := by rw [e1, vi_seti, if_neg (by omega)]; exact h.1
  rw [v1, nI_clamp (by omega)]
  refine ⟨vp_in_nI (by omega) (by omega), fun M2 e2 => ?_⟩
  have v2 : vi M2 o 0 = nI acc.length := by rw [e2, vi_seti, if_neg (by omega)]; exact v1
  have w2 : vi M2 o 4 = nI (hld acc).length := by rw [e2, vi_seti, if_neg (by omega), e1, vi_seti, if_neg (by omega)]; exact h.2.1
  rw [v2, w2, nI_clamp (by omega)]
  refine ⟨vp_in_nI (by omega) (by omega), fun M3 e3 M4 e4 => ?_⟩
  rw [show vi M3 o 0 = nI acc.length by rw [e3, vi_seti, if_neg (by omega)]; exact v2, nI_1] at e4
  refine hq M4 (by rw [e4, e3, e2, e1]; exact (Frl.si (by decide)).trans ((Frl.si (by decide)).trans ((Frl.si (by decide)).trans (Frl.sf (by decide))))) ?_
  have f1 : ∀ i, vi M4 (o + 1) i = if i = acc.length then nI a else vi M (o + 1) i := fun i => by
    rw [e4, vi_seti, if_neg (by omega), e3, vi_seti, if_neg (by omega), e2, vi_seti, if_neg (by omega), e1, vi_seti]
    by_cases y : i = acc.length
    · rw [if_pos ⟨rfl, y⟩, if_pos y]
    · rw [if_neg (fun z => y z.2), if_neg y]
  have f2 : ∀ i, vi M4 (o + 2) i = if i = acc.length then 0 else vi M (o + 2) i := fun i => by
    rw [e4, vi_seti, if_neg (by omega), e3, vi_seti, if_neg (by omega), e2, vi_seti]
    by_cases y : i = acc.length
    · rw [if_pos ⟨rfl, y⟩, if_pos y]
    · rw [if_neg (fun z => y z.2), if_neg y, e1, vi_seti, if_neg (by omega)]
  have f4 : ∀ i, vi M4 (o + 4) i = if i = acc.length then nI (hld acc).length else vi M (o + 4) i := fun i => by
    rw [e4, vi_seti, if_neg (by omega), e3, vi_seti]
    by_cases y : i = acc.length
    · rw [if_pos ⟨rfl, y⟩, if_pos y]
    · rw [if_neg (fun z => y z.2), if_neg y, e2, vi_seti, if_neg (by omega), e1, vi_seti, if_neg (by omega)]
  have f3 : ∀ i, vi M4 (o + 3) i = vi M (o + 3) i := fun i => by rw [e4, vi_seti, if_neg (by omega), e3, vi_seti, if_neg (by omega), e2, vi_seti, if_neg (by omega), e1, vi_seti, if_neg (by omega)]
  have eh : hld (acc ++ [(a, [])]) = hld acc := by rw [hld_a, List.append_nil]
  refine ⟨by rw [e4, vi_seti, if_pos ⟨rfl, rfl⟩, List.length_append]; rfl, ?_, fun i hi => ?_, fun j hj => ?_⟩
  · rw [e4, vi_seti, if_neg (by omega), e3, vi_seti, if_neg (by omega), eh]; exact w2
  · rw [List.length_append] at hi
    have hi : i < acc.length + 1 := hi
    rw [f1, f2, f4]
    by_cases y : i = acc.length
    · rw [if_pos y, if_pos y, if_pos y, y, gA_r, hld_t (Nat.le_refl _), List.take_length]; exact ⟨rfl, rfl, rfl⟩
    · rw [if_neg y, if_neg y, if_neg y, gA_l (by omega), hld_t (by omega)]; exact h.2.2.1 i (by omega)
  · rw [eh] at hj ⊢
    rw [f3]; exact h.2.2.2 j hj
theorem k_addByte {c : Int32} {Q : Mem → Prop} (O : ObAt 4 M o) (h : lnK M o (A ++ [(a, v)])) (l4 : A.length < 400) (h4 : (hld A).length + v.length < 400) (hq : ∀ M', Frl o [0, 4] [1, 2, 3, 4] M M' → lnK M' o (A ++ [(a, v ++ [c])]) → Q M') : CV G (d + 1) 44 [.ref o, .int c] M Q := by
  have lA : (A ++ [(a, v)]).length = A.length + 1 := List.length_append
  have lh : (hld (A ++ [(a, v)])).length = (hld A).length + v.length := by rw [hld_a, List.length_append]
  have e0 : vi M o 0 = nI (A.length + 1) := by rw [h.1, lA]
  have e4' : vi M o 4 = nI ((hld A).length + v.length) := by rw [h.2.1, lh]
  have ix : vi M o 0 - 1 = nI A.length := by rw [e0, show (1 : Int32) = nI 1 from rfl, pk_sub (by omega)]; congr 1
  have hx := h.2.2.1 A.length (by omega)
  rw [gA_r] at hx
  refine c_X4_addByte O ?_
  rw [ix, e4', nI_clamp (n := (hld A).length + v.length) (by omega), nI_clamp (n := A.length) (by omega)]
  refine ⟨fun z => absurd z (nlt0 _ (by omega)), fun _ => ⟨fun z => absurd z (nI_ge (a := A.length) (b := 400) (by omega) (by decide)), fun _ => ⟨fun z => absurd z (nlt0 _ (by omega)), fun _ => ⟨fun z => absurd z (nI_ge (a := (hld A).length + v.length) (b := 400) (by omega) (by decide)), fun _ => ⟨vp_in_nI (by omega) (by omega), fun M1 e1 M2 e2 => ⟨vp_in_nI (by omega) (by omega), vp_in_nI (by omega) (by omega), fun M3 e3 => ?_⟩⟩⟩⟩⟩⟩
  rw [show vi M1 o 4 = nI ((hld A).length + v.length) by rw [e1, vi_seti, if_neg (by omega)]; exact e4', nI_1] at e2
  rw [show vi M2 (o + 2) A.length = nI v.length by rw [e2, vi_seti, if_neg (by omega), e1, vi_seti, if_neg (by omega)]; exact hx.2.1, nI_1] at e3
  refine hq M3 (by rw [e3, e2, e1]; exact (Frl.si (by decide)).trans ((Frl.sf (by decide)).trans (Frl.si (by decide)))) ?_
  have eh : hld (A ++ [(a, v ++ [c])]) = hld (A ++ [(a, v)]) ++ [c] := by rw [hld_a, hld_a, List.append_assoc]
  refine ⟨?_, ?_, fun i hi => ?_, fun j hj => ?_⟩
  · rw [e3, vi_seti, if_neg (by omega), e2, vi_seti, if_neg (by omega), e1, vi_seti, if_neg (by omega), e0, List.length_append]; rfl
  · rw [e3, vi_seti, if_neg (by omega), e2, vi_seti, if_pos ⟨rfl, rfl⟩, eh, List.length_append, lh]; rfl
  · rw [List.length_append] at hi
    have hi : i < A.length + 1 := hi
    have f1 : vi M3 (o + 1) i = vi M (o + 1) i := by rw [e3, vi_seti, if_neg (by omega), e2, vi_seti, if_neg (by omega), e1, vi_seti, if_neg (by omega)]
    have f4 : vi M3 (o + 4) i = vi M (o + 4) i := by rw [e3, vi_seti, if_neg (by omega), e2, vi_seti, if_neg (by omega), e1, vi_seti, if_neg (by omega)]
    have f2 : vi M3 (o + 2) i = if i = A.length then nI (v.length + 1) else vi M (o + 2) i := by
      rw [e3, vi_seti]
      by_cases y : i = A.length
      · rw [if_pos ⟨rfl, y⟩, if_pos y]
      · rw [if_neg (fun z => y z.2), if_neg y, e2, vi_seti, if_neg (by omega), e1, vi_seti, if_neg (by omega)]
    have hi' := h.2.2.1 i (by omega)
    rw [f1, f2, f4, hld_t (by omega)]
    rw [hld_t (by omega)] at hi'
    by_cases y : i = A.length
    · rw [if_pos y, y, gA_r]
      rw [y, gA_r] at hi'
      exact ⟨hi'.1, by rw [List.length_append]; rfl, hi'.2.2⟩
    · rw [if_neg y, gA_l (by omega)]
      rw [gA_l (by omega)] at hi'
      exact hi'
  · rw [eh, List.length_append, lh] at hj
    have hj : j < (hld A).length + v.length + 1 := hj
    rw [e3, vi_seti, if_neg (by omega), e2, vi_seti, if_neg (by omega), e1, vi_seti, eh]
    by_cases y : j = (hld A).length + v.length
    · rw [if_pos ⟨rfl, y⟩, y, ← lh, gA_r]
    · rw [if_neg (fun z => y z.2), gA_l (by omega)]; exact h.2.2.2 j (by omega)
theorem k_addBytes {p q : Nat} {Q : Mem → Prop} (O : ObAt 4 M o) (tx : txA M b t) (hb : b ≠ o ∧ ∀ i ∈ [1, 2, 3, 4], b ≠ o + i) (pq : p ≤ q) (qt : q ≤ t.length) (t4 : t.length ≤ 400) (h : lnK M o (A ++ [(a, v)])) (l4 : A.length < 400) (h4 : (hld A).length + v.length + (q - p) ≤ 400) (hq : ∀ M', Frl o [0, 4] [1, 2, 3, 4] M M' → lnK M' o (A ++ [(a, v ++ sg t p (q - p))]) → Q M') : CV G (d + 2) 43 [.ref o, .ref b, .int (nI p), .int (nI q)] M Q := by
  refine c_X4_addBytes O ?_
  have key : ∀ (j i : Nat) (Mx : Mem), j + i = q - p → Frl o [0, 4] [1, 2, 3, 4] M Mx → lnK Mx o (A ++ [(a, v ++ sg t p i)]) → At G (d + 2) 43 3 [(0, .ref o), (1, .ref b), (3, .int (nI q)), (4, .int (nI (p + i)))] [] Mx (qV Q) := by
    intro j
    induction j with
    | zero =>
      intro i Mx e gx lx
      have e : i = q - p := by omega
      subst e
      refine c_X4_addBytes_3 (gx.ob O) ⟨fun z => absurd z (nlt0 _ (by omega)), fun _ => ⟨fun _ => hq Mx gx lx, fun z => absurd ?_ z⟩⟩
      rw [le_I (by omega) (by omega)]; omega
    | succ j ih =>
      intro i Mx e gx lx
      have tx' := tx.fr gx hb
      have sl : (sg t p i).length = i := sg_len (by omega)
      refine c_X4_addBytes_3 (gx.ob O) ⟨fun z => absurd z (nlt0 _ (by omega)), fun _ => ⟨fun z => absurd z (nI_ge (a := p + i) (b := q) (by omega) (by omega)), fun _ => ⟨by rw [tx'.1]; decide, fun z => absurd z (nI_ge (a := p + i) (b := mA Mx b) (by have := tx'.2.1; omega) (by have := tx'.2.2.1; omega)), fun _ => ⟨tx'.1, vp_in_nI (by have := tx'.2.1; omega) (by have := tx'.2.2.1; omega), ?_⟩⟩⟩⟩
      rw [nI_clamp (by omega), tx'.2.2.2 (p + i) (by omega), nI_1]
      refine k_addByte (gx.ob O) lx l4 (by rw [List.length_append]; omega) (fun M1 g1 l1 => ⟨(gx.trans g1).ob O, ih (i + 1) M1 (by omega) (gx.trans g1) ?_⟩)
      have es : sg t p (i + 1) = sg t p i ++ [t.getD (p + i) 0] := by
        unfold sg
        rw [List.take_succ_eq_append_getElem (by rw [List.length_drop]; omega), List.getElem_drop, List.getD_eq_getElem?_getD, List.getElem?_eq_getElem (by omega)]
        rfl
      rw [es, ← List.append_assoc]
      exact l1
  exact key (q - p) 0 M (by omega) Frl.refl (by show lnK M o (A ++ [(a, v ++ [])]); rw [List.append_nil]; exact h)
end
