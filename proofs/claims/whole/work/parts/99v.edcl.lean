/-! EDIT: the class -/
noncomputable def twn (c : Int32) : Int32 := cif (isS c) (c - 32) (cif (isU c) (c + 32) (-1))
noncomputable def tcs (S : ShT) (c : Int32) : Nat := cif (isS c) (kc S 2) (kc S 3)
noncomputable def tst (c : Int32) : Nat := cif (isS c) 3 4
noncomputable def rA (S : ShT) (b v : List Int32) (c u : Int32) : Nat × Nat := if edL S b (u :: v) + kc S 1 ≤ edL S (c :: b) v + kc S 0 then (edL S b (u :: v) + kc S 1, 1) else (edL S (c :: b) v + kc S 0, 2)
noncomputable def rB (S : ShT) (b v : List Int32) (c u : Int32) : Nat × Nat := cif (u = twn c) (if (rA S b v c u).1 ≤ edL S b v + tcs S c then rA S b v c u else (edL S b v + tcs S c, tst c)) (rA S b v c u)
noncomputable def rC (S : ShT) (b v : List Int32) (c u : Int32) : Nat × Nat := cif (u = c) (if (rB S b v c u).1 < edL S b v then rB S b v c u else (edL S b v, 0)) (rB S b v c u)
section
variable {S : ShT} {b v : List Int32} {c u : Int32}
theorem twn_u (hu : 32 ≤ u.toInt) : (u = twn c) = ((isS c ∧ c - 32 = u) ∨ (isU c ∧ c + 32 = u)) := by
  refine propext ⟨fun h => ?_, fun h => ?_⟩
  · unfold twn at h
    by_cases s : isS c
    · rw [cif_T s] at h; exact Or.inl ⟨s, h.symm⟩
    · rw [cif_F s] at h
      by_cases p : isU c
      · rw [cif_T p] at h; exact Or.inr ⟨p, h.symm⟩
      · rw [cif_F p] at h
        rw [h] at hu
        exact absurd hu (by decide)
  · unfold twn
    rcases h with h | h
    · rw [cif_T h.1, h.2]
    · rw [cif_F (fun z => sm_cp z h.1), cif_T h.1, h.2]
theorem rA_l : (rA S b v c u).1 = min (edL S b (u :: v) + kc S 1) (edL S (c :: b) v + kc S 0) := by
  unfold rA
  split
  · show edL S b (u :: v) + kc S 1 = _; omega
  · show edL S (c :: b) v + kc S 0 = _; omega
theorem stp_r0 (k : c = u ∧ edL S b v = edL S (c :: b) (u :: v)) : stp S (c :: b) (u :: v) = 0 := by show cif _ _ _ = _; rw [cif_T k]
theorem stp_r1 (k0 : ¬ (c = u ∧ edL S b v = edL S (c :: b) (u :: v))) (k : kc S 1 + edL S b (u :: v) = edL S (c :: b) (u :: v)) : stp S (c :: b) (u :: v) = 1 := by show cif _ _ _ = _; rw [cif_F k0, cif_T k]
theorem stp_r2 (k0 : ¬ (c = u ∧ edL S b v = edL S (c :: b) (u :: v))) (k1 : ¬ kc S 1 + edL S b (u :: v) = edL S (c :: b) (u :: v)) (k : kc S 0 + edL S (c :: b) v = edL S (c :: b) (u :: v)) : stp S (c :: b) (u :: v) = 2 := by show cif _ _ _ = _; rw [cif_F k0, cif_F k1, cif_T k]
theorem stp_r3 (k0 : ¬ (c = u ∧ edL S b v = edL S (c :: b) (u :: v))) (k1 : ¬ kc S 1 + edL S b (u :: v) = edL S (c :: b) (u :: v)) (k : ¬ kc S 0 + edL S (c :: b) v = edL S (c :: b) (u :: v)) : stp S (c :: b) (u :: v) = tst c := by show cif _ _ _ = _; rw [cif_F k0, cif_F k1, cif_F k]; rfl
/-- of two: the step of the lesser -/
theorem rA_s (k0 : ¬ (c = u ∧ edL S b v = edL S (c :: b) (u :: v))) (h : (rA S b v c u).1 = edL S (c :: b) (u :: v)) : rA S b v c u = (edL S (c :: b) (u :: v), stp S (c :: b) (u :: v)) := by
  unfold rA at h ⊢
  by_cases q : edL S b (u :: v) + kc S 1 ≤ edL S (c :: b) v + kc S 0
  · rw [if_pos q] at h ⊢
    have h : edL S b (u :: v) + kc S 1 = edL S (c :: b) (u :: v) := h
    rw [stp_r1 k0 (by omega), h]
  · rw [if_neg q] at h ⊢
    have h : edL S (c :: b) v + kc S 0 = edL S (c :: b) (u :: v) := h
    rw [stp_r2 k0 (by omega) (by omega), h]
theorem rC_ok (hu : 32 ≤ u.toInt) : rC S b v c u = (edL S (c :: b) (u :: v), stp S (c :: b) (u :: v)) := by
  have al := rA_l (S := S) (b := b) (v := v) (c := c) (u := u)
  have ec := edL_cc (S := S) (b := b) (v := v) (c := c) (u := u)
  unfold rC rB
  rw [twn_u hu]
  rcases cu4 c u with ⟨h1, h2, h3⟩ | ⟨h1, h2, h3⟩ | ⟨h1, h2, h3⟩ | ⟨h1, h2, h3⟩
  · rw [cif_F (show ¬ ((isS c ∧ c - 32 = u) ∨ (isU c ∧ c + 32 = u)) from fun z => z.elim h2 h3), cif_T h1.symm]
    rw [tuC_k h1] at ec
    have ec : edL S (c :: b) (u :: v) = min (min (kc S 1 + edL S b (u :: v)) (kc S 0 + edL S (c :: b) v)) (0 + edL S b v) := ec
    by_cases q : (rA S b v c u).1 < edL S b v
    · rw [if_pos q]
      exact rA_s (fun z => by have := z.2; omega) (by omega)
    · rw [if_neg q, stp_r0 ⟨h1, by omega⟩]
      congr 1; omega
  · rw [cif_T (show (isS c ∧ c - 32 = u) ∨ (isU c ∧ c + 32 = u) from Or.inl h2), cif_F (show ¬ u = c from fun z => h1 z.symm)]
    rw [tuC_r h2] at ec
    have ec : edL S (c :: b) (u :: v) = min (min (kc S 1 + edL S b (u :: v)) (kc S 0 + edL S (c :: b) v)) (kc S 2 + edL S b v) := ec
    have et : tcs S c = kc S 2 := by unfold tcs; rw [cif_T h2.1]
    by_cases q : (rA S b v c u).1 ≤ edL S b v + tcs S c
    · rw [if_pos q]
      exact rA_s (fun z => h1 z.1) (by omega)
    · rw [if_neg q, stp_r3 (fun z => h1 z.1) (by omega) (by omega)]
      congr 1; omega
  · rw [cif_T (show (isS c ∧ c - 32 = u) ∨ (isU c ∧ c + 32 = u) from Or.inr h3), cif_F (show ¬ u = c from fun z => h1 z.symm)]
    rw [tuC_l h3] at ec
    have ec : edL S (c :: b) (u :: v) = min (min (kc S 1 + edL S b (u :: v)) (kc S 0 + edL S (c :: b) v)) (kc S 3 + edL S b v) := ec
    have et : tcs S c = kc S 3 := by unfold tcs; rw [cif_F (fun z => sm_cp z h3.1)]
    by_cases q : (rA S b v c u).1 ≤ edL S b v + tcs S c
    · rw [if_pos q]
      exact rA_s (fun z => h1 z.1) (by omega)
    · rw [if_neg q, stp_r3 (fun z => h1 z.1) (by omega) (by omega)]
      congr 1; omega
  · rw [cif_F (show ¬ ((isS c ∧ c - 32 = u) ∨ (isU c ∧ c + 32 = u)) from fun z => z.elim h2 h3), cif_F (show ¬ u = c from fun z => h1 z.symm)]
    rw [tuC_n h1 h2 h3] at ec
    have ec : edL S (c :: b) (u :: v) = min (kc S 1 + edL S b (u :: v)) (kc S 0 + edL S (c :: b) v) := ec
    exact rA_s (fun z => h1 z.1) (by omega)
end
/-- what of the sheet EDIT reads -/
def shE (M : Mem) (a : Nat) (S : ShT) : Prop := ObAt 8 M a ∧ vi M a 1 = nI (gN S) ∧ vi M a 3 = nI (wN S) ∧ (∀ k, k < gN S → vi M (a + 1) k = gB S k) ∧ (∀ k, k < wN S → vi M (a + 2) k = wB S k) ∧ ∀ k, k < 7 → vi M (a + 6) k = nI (kc S k)
/-- what it costs from these places on -/
noncomputable def eE (S : ShT) (i j : Nat) : Nat := edL S ((gL' S).drop i) ((wL' S).drop j)
noncomputable def eS (S : ShT) (i j : Nat) : Nat := stp S ((gL' S).drop i) ((wL' S).drop j)
section
variable {G : GT} {d : Nat} {M M' : Mem} {o a i : Nat} {w : Nat → Nat} {S : ShT}
theorem CS.shE (h : CS w M a S) : shE M a S := ⟨h.1, h.g, h.ww, fun k hk => h.gb hk, fun k hk => h.wb hk, fun k hk => by rw [← (kc_9 h.2.1 hk).2]; exact h.2.2.2.2.2.2.2.2.1 k hk⟩
theorem shE.fr {F L : List Nat} (h : shE M a S) (g : Frl o F L M M') (dj : a + 9 ≤ o) : shE M' a S := by
  have e : ∀ i k, i < 9 → vi M' (a + i) k = vi M (a + i) k := fun i k hi => (g.2.2.2.2.2 (a + i) k (fun e => by omega) (fun q _ e => by omega)).1
  refine ⟨g.ob h.1, ?_, ?_, fun k hk => ?_, fun k hk => ?_, fun k hk => ?_⟩
  · rw [show vi M' a 1 = vi M a 1 from e 0 1 (by decide)]; exact h.2.1
  · rw [show vi M' a 3 = vi M a 3 from e 0 3 (by decide)]; exact h.2.2.1
  · rw [e 1 k (by decide)]; exact h.2.2.2.1 k hk
  · rw [e 2 k (by decide)]; exact h.2.2.2.2.1 k hk
  · rw [e 6 k (by decide)]; exact h.2.2.2.2.2 k hk
theorem k_twinOf {c : Int32} {Q : Int32 → Mem → Prop} (hq : Q (twn c) M) : CI G (d + 2) 152 [.int c] M Q := by
  unfold twn at hq
  refine c_X11_twinOf (k_isSmall (bz (fun s => by rw [cif_T s] at hq; exact hq) (fun s => ?_)))
  rw [cif_F s] at hq
  exact k_isCapital (bz (fun p => by rw [cif_T p] at hq; exact hq) (fun p => by rw [cif_F p] at hq; exact hq))
theorem eE_b (V : okS S) {i j : Nat} : eE S i j ≤ 39600 := by
  have h := edL_le V ((gL' S).drop i) ((wL' S).drop j)
  rw [List.length_drop, List.length_drop, gL_len, wL_len] at h
  have := V.g
  have := V.w
  unfold eE; omega
theorem dr_g {i : Nat} (h : i < gN S) : (gL' S).drop i = gB S i :: (gL' S).drop (i + 1) := by rw [dr_c (by rw [gL_len]; exact h), gL_get h]
theorem eS_4 {i j : Nat} : eS S i j < 5 := by have := stp_4 (S := S) (b := (gL' S).drop i) (v := (wL' S).drop j); unfold eS; omega
/-- one row -/
theorem k_fillRow {Q : Mem → Prop} (O : ObAt 1 M o) (H : shE M a S) (V : okS S) (dj : a + 9 ≤ o) (hi : i < gN S) (hr : ∀ j, j ≤ wN S → vi M (o + 3) j = nI (eE S (i + 1) j)) (hq : ∀ M', Frl o [] [2, 3] M M' → (∀ j, j ≤ wN S → vi M' (o + 3) j = nI (eE S i j)) → (∀ j, j < wN S → tbl M' o i j (eS S i j)) → (∀ i' j' s', j' < 200 → i' ≠ i → tbl M o i' j' s' → tbl M' o i' j' s') → Q M') : CV G (d + 3) 16 [.ref o, .ref a, .int (nI i), .int (nI (wN S))] M Q := by
  have g2 := V.g
  have w2 := V.w
  have k0 : vi M (a + 6) (0 : Int32).toNatClampNeg = nI (kc S 0) := H.2.2.2.2.2 0 (by decide)
  have k1 : vi M (a + 6) (1 : Int32).toNatClampNeg = nI (kc S 1) := H.2.2.2.2.2 1 (by decide)
  have kb0 := (kc_9 V (k := 0) (by decide)).1
  have kb1 := (kc_9 V (k := 1) (by decide)).1
  have kb2 := (kc_9 V (k := 2) (by decide)).1
  have kb3 := (kc_9 V (k := 3) (by decide)).1
  have eb := fun i j => eE_b V (i := i) (j := j)
  have v07 : vp_in (0 : Int32) 7 := v_i (k := 0) (by decide) (by decide)
  have v17 : vp_in (1 : Int32) 7 := v_i (k := 1) (by decide) (by decide)
  have tcb : tcs S (gB S i) ≤ 99 := by
    unfold tcs
    exact cif_el (φ := fun n => n ≤ 99) (fun _ => kb2) (fun _ => kb3)
  -- the row, from its end
  have l113 : ∀ (jj : Nat) (Mx : Mem), jj ≤ wN S → Frl o [] [2, 3] M Mx → (∀ j, j < jj → vi Mx (o + 3) j = nI (eE S (i + 1) j)) → (∀ j, jj ≤ j → j ≤ wN S → vi Mx (o + 3) j = nI (eE S i j)) → (∀ j, jj ≤ j → j < wN S → tbl Mx o i j (eS S i j)) → (∀ i' j' s', j' < 200 → i' ≠ i → tbl M o i' j' s' → tbl Mx o i' j' s') → At G (d + 3) 16 113 [(0, .ref o), (1, .ref a), (2, .int (nI i)), (4, .int (nI (kc S 1))), (5, .int (nI (kc S 0))), (6, .int (gB S i)), (7, .int (twn (gB S i))), (8, .int (nI (tst (gB S i)))), (9, .int (nI (tcs S (gB S i)))), (10, .int (nI (eE S (i + 1) jj))), (11, .int (dI jj))] [] Mx (qV Q) := by
    intro jj
    induction jj with
    | zero =>
      intro Mx _ gx _ h2 h3 h4
      exact c_X1_fillRow_113 (gx.ob O) (H.fr gx dj).1 ⟨fun _ => hq Mx gx (fun j hj => h2 j (Nat.zero_le _) hj) (fun j hj => h3 j (Nat.zero_le _) hj) h4, fun z => absurd dI_0 z⟩
    | succ j ih =>
      intro Mx hj gx h1 h2 h3 h4
      have Ox := gx.ob O
      have Hx := H.fr gx dj
      rw [dI_s]
      have cj : j < wN S := by omega
      have hu : 32 ≤ (wB S j).toInt := (V.wb cj).1
      have rc := rC_ok (S := S) (b := (gL' S).drop (i + 1)) (v := (wL' S).drop (j + 1)) (c := gB S i) (u := wB S j) hu
      rw [← dr_g hi, ← dr_w cj] at rc
      have e1 : edL S ((gL' S).drop (i + 1)) (wB S j :: (wL' S).drop (j + 1)) = eE S (i + 1) j := by rw [← dr_w cj]; rfl
      have e2 : edL S (gB S i :: (gL' S).drop (i + 1)) ((wL' S).drop (j + 1)) = eE S i (j + 1) := by rw [← dr_g hi]; rfl
      have e3 : edL S ((gL' S).drop (i + 1)) ((wL' S).drop (j + 1)) = eE S (i + 1) (j + 1) := rfl
      have v2 : vp_in (nI j) 201 := v_i (by omega) (by decide)
      have v2' : vp_in (nI (j + 1)) 201 := v_i (by omega) (by decide)
      have rj : vi Mx (o + 3) j = nI (eE S (i + 1) j) := h1 j (by omega)
      have rj1 : vi Mx (o + 3) (j + 1) = nI (eE S i (j + 1)) := h2 (j + 1) (Nat.le_refl _) (by omega)
      -- behind the choice
      have p225 : At G (d + 3) 16 225 [(0, .ref o), (1, .ref a), (2, .int (nI i)), (4, .int (nI (kc S 1))), (5, .int (nI (kc S 0))), (6, .int (gB S i)), (7, .int (twn (gB S i))), (8, .int (nI (tst (gB S i)))), (9, .int (nI (tcs S (gB S i)))), (11, .int (nI j)), (12, .int (nI (eE S i j))), (13, .int (nI (eS S i j)))] [] Mx (qV Q) := by
        refine c_X1_fillRow_225 Ox Hx.1 ?_
        rw [nI_clamp (by omega), rj]
        refine ⟨v2, v2, fun M8 e8 => ?_⟩
        have g8 : Frl o [] [2, 3] Mx M8 := by rw [e8]; exact Frl.si (by decide)
        refine k_keep (g8.ob Ox) (by omega) (by omega) eS_4 (fun M9 g9 t9 k9 => ⟨⟨g9.ob (g8.ob Ox), g9.ob (g8.ob Hx.1)⟩, ?_⟩)
        have g89 : Frl o [] [2, 3] M8 M9 := g9.sub (by decide) (by decide)
        have tk : ∀ {i' j' s' : Nat}, tbl Mx o i' j' s' → tbl M8 o i' j' s' := fun h => by rw [e8]; exact h
        have v9 : ∀ k, vi M9 (o + 3) k = if k = j then nI (eE S i j) else vi Mx (o + 3) k := fun k => by
          rw [g9.i (by decide) (by decide), e8, vi_seti]
          by_cases y : k = j
          · rw [if_pos ⟨rfl, y⟩, if_pos y]
          · rw [if_neg (fun z => y z.2), if_neg y]
        refine ih M9 (by omega) (gx.trans (g8.trans g89)) (fun k hk => ?_) (fun k h5 h6 => ?_) (fun k h5 h6 => ?_) (fun i' j' s' h5 h6 h7 => k9 i' j' s' h5 (Or.inl h6) (tk (h4 i' j' s' h5 h6 h7)))
        · rw [v9, if_neg (by omega)]; exact h1 k (by omega)
        · rw [v9]
          by_cases y : k = j
          · rw [if_pos y, y]
          · rw [if_neg y]; exact h2 k (by omega) h6
        · by_cases y : k = j
          · rw [y]; exact t9
          · exact k9 i k _ (by omega) (Or.inr y) (tk (h3 k (by omega) h6))
      -- is it the same letter
      have p204 : ∀ (r : Nat × Nat), r = rB S ((gL' S).drop (i + 1)) ((wL' S).drop (j + 1)) (gB S i) (wB S j) → r.1 ≤ 100000 → At G (d + 3) 16 204 [(0, .ref o), (1, .ref a), (2, .int (nI i)), (4, .int (nI (kc S 1))), (5, .int (nI (kc S 0))), (6, .int (gB S i)), (7, .int (twn (gB S i))), (8, .int (nI (tst (gB S i)))), (9, .int (nI (tcs S (gB S i)))), (10, .int (nI (eE S (i + 1) (j + 1)))), (11, .int (nI j)), (12, .int (nI r.1)), (13, .int (nI r.2)), (14, .int (wB S j))] [] Mx (qV Q) := fun r er rb => by
        unfold rC at rc
        rw [← er, e3] at rc
        have b3 := eb (i + 1) (j + 1)
        refine c_X1_fillRow_204 Ox Hx.1 ⟨fun ne => ?_, fun eq => ?_⟩
        · rw [cif_F ne] at rc
          rw [rc]; exact p225
        · rw [cif_T eq] at rc
          rw [lt_I (by omega) (by omega)]
          refine ⟨fun lt => ?_, fun nl => ?_⟩
          · rw [if_pos lt] at rc; rw [rc]; exact p225
          · rw [if_neg nl] at rc
            have q1 : eE S (i + 1) (j + 1) = eE S i j := congrArg Prod.fst rc
            have q2 : 0 = eS S i j := congrArg Prod.snd rc
            rw [q1, show (0 : Int32) = nI (eS S i j) by rw [← q2]; rfl]; exact p225
      -- is it the other case
      have p167 : ∀ (r : Nat × Nat), r = rA S ((gL' S).drop (i + 1)) ((wL' S).drop (j + 1)) (gB S i) (wB S j) → r.1 ≤ 50000 → At G (d + 3) 16 167 [(0, .ref o), (1, .ref a), (2, .int (nI i)), (4, .int (nI (kc S 1))), (5, .int (nI (kc S 0))), (6, .int (gB S i)), (7, .int (twn (gB S i))), (8, .int (nI (tst (gB S i)))), (9, .int (nI (tcs S (gB S i)))), (10, .int (nI (eE S (i + 1) (j + 1)))), (11, .int (nI j)), (12, .int (nI r.1)), (13, .int (nI r.2))] [] Mx (qV Q) := fun r er rb => by
        have eB : rB S ((gL' S).drop (i + 1)) ((wL' S).drop (j + 1)) (gB S i) (wB S j) = cif (wB S j = twn (gB S i)) (if r.1 ≤ eE S (i + 1) (j + 1) + tcs S (gB S i) then r else (eE S (i + 1) (j + 1) + tcs S (gB S i), tst (gB S i))) r := by rw [er]; rfl
        have b3 := eb (i + 1) (j + 1)
        refine c_X1_fillRow_167 Ox Hx.1 ?_
        rw [nI_clamp (by omega), Hx.2.2.2.2.1 j cj, nI_add, le_I (by omega) (by omega)]
        refine ⟨v_i (by omega) (by decide), fun ne => p204 r (by rw [eB, cif_F ne]) (by omega), fun eq => ⟨fun le => p204 r (by rw [eB, cif_T eq, if_pos le]) (by omega), fun nl => p204 (eE S (i + 1) (j + 1) + tcs S (gB S i), tst (gB S i)) (by rw [eB, cif_T eq, if_neg nl]) (by show _ + _ ≤ _; omega)⟩⟩
      have eA : rA S ((gL' S).drop (i + 1)) ((wL' S).drop (j + 1)) (gB S i) (wB S j) = if eE S (i + 1) j + kc S 1 ≤ eE S i (j + 1) + kc S 0 then (eE S (i + 1) j + kc S 1, 1) else (eE S i (j + 1) + kc S 0, 2) := by unfold rA; rw [e1, e2]
      have b1 := eb (i + 1) j
      have b2 := eb i (j + 1)
      refine c_X1_fillRow_113 Ox Hx.1 ?_
      rw [nI_1, nI_clamp (by omega), nI_clamp (by omega), rj, rj1, nI_add, nI_add, le_I (by omega) (by omega)]
      refine ⟨fun z => absurd z (nlt0 _ (by omega)), fun _ => ⟨v2, v2', fun le => p167 (eE S (i + 1) j + kc S 1, 1) (by rw [eA, if_pos le]) (by show _ + _ ≤ _; omega), fun nl => ⟨v2', p167 (eE S i (j + 1) + kc S 0, 2) (by rw [eA, if_neg nl]) (by show _ + _ ≤ _; omega)⟩⟩⟩
  -- the row's begin
  have p86 : ∀ q : Nat, q < 7 → kc S q = tcs S (gB S i) → At G (d + 3) 16 86 [(0, .ref o), (1, .ref a), (2, .int (nI i)), (3, .int (nI (wN S))), (4, .int (nI (kc S 1))), (5, .int (nI (kc S 0))), (6, .int (gB S i)), (7, .int (twn (gB S i))), (8, .int (nI (tst (gB S i))))] [.int (nI q), .ref (a + 6)] M (qV Q) := fun q hq7 eq => by
    refine c_X1_fillRow_86 O H.1 ?_
    have vw : vp_in (nI (wN S)) 201 := v_i (by omega) (by decide)
    rw [ob8_k8 H.1, ob8_l8 H.1, nI_clamp (n := q) (by omega), nI_clamp (n := wN S) (by omega), H.2.2.2.2.2 q hq7, eq, hr _ (Nat.le_refl _), nI_add]
    refine ⟨rfl, v_i hq7 (by decide), vw, vw, vw, fun M7 e7 => ?_⟩
    have g7 : Frl o [] [2, 3] M M7 := by rw [e7]; exact Frl.si (by decide)
    have v7 : ∀ k, vi M7 (o + 3) k = if k = wN S then nI (eE S (i + 1) (wN S) + kc S 1) else vi M (o + 3) k := fun k => by
      rw [e7, vi_seti]
      by_cases y : k = wN S
      · rw [if_pos ⟨rfl, y⟩, if_pos y]
      · rw [if_neg (fun z => y z.2), if_neg y]
    have el : eE S i (wN S) = eE S (i + 1) (wN S) + kc S 1 := by
      unfold eE
      rw [dr_g hi, dr_n (l := wL' S) (by rw [wL_len]; exact Nat.le_refl _), edL_cn, Nat.add_comm]
    rw [show (1 : Int32) = nI 1 from rfl]
    have go := l113 (wN S) M7 (Nat.le_refl _) g7 (fun j hj => by rw [v7, if_neg (by omega)]; exact hr j (by omega)) (fun j h1 h2 => by rw [show j = wN S by omega, v7, if_pos rfl, el]) (fun j h1 h2 => by omega) (fun i' j' s' _ _ h7 => by rw [e7]; exact h7)
    rw [show dI (wN S) = nI (wN S) - nI 1 by unfold dI; rw [Int32.sub_eq_add_neg]; rfl] at go
    exact go
  refine c_X1_fillRow O H.1 ?_
  rw [nI_clamp (n := i) (by omega), k0, k1, H.2.2.2.1 i hi]
  refine ⟨fun z => absurd z (nlt0 _ (by omega)), fun _ => ⟨fun z => absurd z (nI_ge (a := i) (b := 200) (by omega) (by decide)), fun _ => ⟨fun z => absurd z (nlt0 _ (by omega)), fun _ => ⟨fun _ => ⟨v17, v07, v_i (by omega) (by decide), k_twinOf ⟨⟨O, H.1⟩, k_isSmall ⟨⟨O, H.1⟩, bz (fun s => ?_) (fun s => ?_)⟩⟩⟩, fun z => absurd (by rw [show (200 : Int32) = nI 200 from rfl, le_I (by omega) (by omega)]; exact w2) z⟩⟩⟩⟩
  · refine c_X1_fillRow_67 O H.1 (k_isSmall ⟨⟨O, H.1⟩, bz (fun s2 => ?_) (fun s2 => absurd s s2)⟩)
    have := p86 2 (by decide) (by unfold tcs; rw [cif_T s])
    rw [show tst (gB S i) = 3 by unfold tst; rw [cif_T s]] at this
    exact this
  · refine c_X1_fillRow_67 O H.1 (k_isSmall ⟨⟨O, H.1⟩, bz (fun s2 => absurd s2 s) (fun s2 => ?_)⟩)
    have := p86 3 (by decide) (by unfold tcs; rw [cif_F s])
    rw [show tst (gB S i) = 4 by unfold tst; rw [cif_F s]] at this
    exact this
end
