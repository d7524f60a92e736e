/-! EDIT: the class's call -/
section
variable {G : GT} {d : Nat} {M M' : Mem} {o a : Nat} {w : Nat → Nat} {S : ShT}
/-- EDIT is found -/
def edF (M : Mem) (o : Nat) (S : ShT) : Prop := vi M o 1 = nI (edC S) ∧ vi M o 2 = nI (edW S).length ∧ ∀ k, k < (edW S).length → vi M (o + 1) k = nI ((edW S).getD k 0)
theorem k_walk {Q : Mem → Prop} (O : ObAt 1 M o) (V : okS S) (ht : ∀ i j, i < gN S → j < wN S → tbl M o i j (eS S i j)) (hq : ∀ M', Frl o [2] [1] M M' → vi M' o 2 = nI (edW S).length → (∀ k, k < (edW S).length → vi M' (o + 1) k = nI ((edW S).getD k 0)) → Q M') : CV G (d + 2) 19 [.ref o, .int (nI (gN S)), .int (nI (wN S))] M Q := by
  have g2 := V.g
  have w2 := V.w
  have gl : (gL' S).length = gN S := gL_len
  have wl : (wL' S).length = wN S := wL_len
  have el : (edW S).length ≤ 400 := ewk_len 400 _ _
  have l13 : ∀ (f i j k : Nat) (P : List Nat) (Mx : Mem), i ≤ gN S → j ≤ wN S → (gN S - i) + (wN S - j) ≤ f → k + f = 400 → P.length = k → edW S = P ++ ewk S f ((gL' S).drop i) ((wL' S).drop j) → Frl o [2] [1] M Mx → vi Mx o 2 = nI k → (∀ q, q < k → vi Mx (o + 1) q = nI (P.getD q 0)) → At G (d + 2) 19 13 [(0, .ref o), (1, .int (nI (gN S))), (2, .int (nI (wN S))), (3, .int (nI i)), (4, .int (nI j)), (5, .int (nI k))] [] Mx (qV Q) := by
    intro f
    induction f with
    | zero =>
      intro i j k P Mx hi hj hf hk hP he gx e2 hx
      have Ox := gx.ob O
      rw [show ewk S 0 ((gL' S).drop i) ((wL' S).drop j) = [] from rfl, List.append_nil] at he
      have k4 : k = 400 := by omega
      subst k4
      exact c_X1_walk_13 Ox ⟨fun _ => c_X1_walk_103 Ox (hq Mx gx (by rw [he, hP]; exact e2) (fun q hq' => by rw [he] at hq' ⊢; exact hx q (by omega))), fun z => absurd (show (400 : Int32) ≤ nI 400 by decide) z⟩
    | succ f ih =>
      intro i j k P Mx hi hj hf hk hP he gx e2 hx
      have Ox := gx.ob O
      refine c_X1_walk_13 Ox ?_
      rw [lt_I (by omega) (by omega), le_I (by omega) (by omega)]
      refine ⟨fun z => absurd z (nI_ge (a := k) (b := 400) (by omega) (by decide)), fun _ => ?_⟩
      by_cases fin : i = gN S ∧ j = wN S
      · obtain ⟨e1, e3⟩ := fin
        rw [dr_n (l := gL' S) (by omega), dr_n (l := wL' S) (by omega), ewk_nn, List.append_nil] at he
        refine ⟨fun z => by omega, fun _ => ⟨fun _ => c_X1_walk_103 Ox (hq Mx gx (by rw [he, hP]; exact e2) (fun q hq' => by rw [he] at hq' ⊢; exact hx q (by omega))), fun z => absurd (by omega) z⟩⟩
      · have ne : ¬ ((gL' S).drop i = [] ∧ (wL' S).drop j = []) := fun z => by
          have h1 := List.drop_eq_nil_iff.mp z.1
          have h2 := List.drop_eq_nil_iff.mp z.2
          omega
        rw [ewk_s ne] at he
        obtain ⟨t, hts, _⟩ := stp_eq (S := S) ne
        have si := sc_in hts (by have := stp_4 (S := S) (b := (gL' S).drop i) (v := (wL' S).drop j); omega) (by omega) hj
        rw [gl] at si
        have s4 : eS S i j < 5 := eS_4
        have ez : stp S ((gL' S).drop i) ((wL' S).drop j) = eS S i j := rfl
        have z1 : ¬ i < gN S → eS S i j = 2 := fun h => by unfold eS; rw [dr_n (l := gL' S) (by omega)]; rfl
        have z2 : i < gN S → ¬ j < wN S → eS S i j = 1 := fun h h' => by unfold eS; rw [dr_g h, dr_n (l := wL' S) (by omega)]; rfl
        rw [ez] at he si
        have tb : i < gN S → j < wN S → tbl Mx o i j (eS S i j) := fun h1 h2 q hq' => by
          have : vl Mx (o + 2) (10 * i + j / 20) = vl M (o + 2) (10 * i + j / 20) := gx.l (by decide) (by decide) _
          rw [this]; exact ht i j h1 h2 q hq'
        generalize eS S i j = z at *
        have i1 : (if z = 2 then i else i + 1) ≤ gN S := by
          split
          · omega
          · rename_i y; exact si.1 y
        have j1 : (if z = 1 then j else j + 1) ≤ wN S := by
          split
          · omega
          · rename_i y; exact si.2 y
        have p58 : At G (d + 2) 19 58 [(0, .ref o), (1, .int (nI (gN S))), (2, .int (nI (wN S))), (3, .int (nI i)), (4, .int (nI j)), (5, .int (nI k))] [.int (nI z)] Mx (qV Q) := by
          refine c_X1_walk_58 Ox ⟨v_i (by omega) (by decide), fun M4 e4 M5 e5 => ?_⟩
          rw [nI_clamp (by omega)] at e4
          rw [show vi M4 o 2 = nI k by rw [e4, vi_seti, if_neg (by omega)]; exact e2, nI_1] at e5
          have g5 : Frl o [2] [1] Mx M5 := by rw [e5, e4]; exact (Frl.si (by decide)).trans (Frl.sf (by decide))
          have O5 := g5.ob Ox
          have go := ih (if z = 2 then i else i + 1) (if z = 1 then j else j + 1) (k + 1) (P ++ [z]) M5 i1 j1 (by
              by_cases y2 : z = 2
              · have := si.2 (by omega)
                rw [if_pos y2, if_neg (by omega)]; omega
              · have := si.1 y2
                rw [if_neg y2]
                split <;> omega) (by omega) (by rw [List.length_append, hP]; rfl) (by rw [he, List.append_assoc]; rfl) (gx.trans g5) (by rw [e5, vi_seti, if_pos ⟨rfl, rfl⟩]) (fun q hq' => by
              rw [e5, vi_seti, if_neg (by omega), e4, vi_seti]
              by_cases y : q = k
              · rw [if_pos ⟨rfl, y⟩, y, ← hP, gA_r]
              · rw [if_neg (fun q => y q.2), gA_l (by omega)]; exact hx q (by omega))
          rw [show (2 : Int32) = nI 2 from rfl, eq_I (by omega) (by omega), nI_1]
          have p88 : ∀ i', i' = (if z = 2 then i else i + 1) → At G (d + 2) 19 88 [(0, .ref o), (1, .int (nI (gN S))), (2, .int (nI (wN S))), (3, .int (nI i')), (4, .int (nI j)), (5, .int (nI k)), (6, .int (nI z))] [] M5 (qV Q) := fun i' ei' => by
            refine c_X1_walk_88 O5 ?_
            rw [show (1 : Int32) = nI 1 from rfl, eq_I (by omega) (by omega), nI_add]
            rw [← ei'] at go
            refine ⟨fun y => c_X1_walk_97 O5 ?_, fun n => c_X1_walk_97 O5 ?_⟩
            · rw [if_pos y] at go; rw [nI_1]; exact go
            · rw [if_neg n] at go; rw [nI_1]; exact go
          exact ⟨fun y => p88 i (by rw [if_pos y]), fun n => p88 (i + 1) (by rw [if_neg n])⟩
        have p32 : At G (d + 2) 19 32 [(0, .ref o), (1, .int (nI (gN S))), (2, .int (nI (wN S))), (3, .int (nI i)), (4, .int (nI j)), (5, .int (nI k))] [] Mx (qV Q) := by
          refine c_X1_walk_32 Ox ?_
          rw [lt_I (by omega) (by omega), lt_I (by omega) (by omega)]
          refine ⟨fun ci => ⟨fun cj => k_kept Ox (by omega) (by omega) s4 (tb ci cj) ⟨Ox, p58⟩, fun cj => ?_⟩, fun ci => ?_⟩
          · rw [z2 ci cj] at p58; exact p58
          · rw [z1 ci] at p58; exact p58
        exact ⟨fun _ => p32, fun _ => ⟨fun z => by omega, fun _ => p32⟩⟩
  refine c_X1_walk O (fun M1 e1 => ?_)
  exact l13 400 0 0 0 [] M1 (Nat.zero_le _) (Nat.zero_le _) (by omega) rfl rfl rfl (by rw [e1]; exact Frl.sf (by decide)) (by rw [e1, vi_seti, if_pos ⟨rfl, rfl⟩]; rfl) (fun q hq' => absurd hq' (Nat.not_lt_zero q))
theorem k_search {Q : Mem → Prop} (O : ObAt 1 M o) (H : shE M a S) (V : okS S) (dj : a + 9 ≤ o) (hq : ∀ M', Frl o [1, 2] [1, 2, 3] M M' → edF M' o S → Q M') : CV G (d + 4) 15 [.ref o, .ref a] M Q := by
  have g2 := V.g
  have w2 := V.w
  have kb0 := (kc_9 V (k := 0) (by decide)).1
  have v07 : vp_in (0 : Int32) 7 := v_i (k := 0) (by decide) (by decide)
  -- rows, from the last
  have l53 : ∀ (ii : Nat) (Mx : Mem), ii ≤ gN S → Frl o [] [2, 3] M Mx → (∀ j, j ≤ wN S → vi Mx (o + 3) j = nI (eE S ii j)) → (∀ i j, ii ≤ i → i < gN S → j < wN S → tbl Mx o i j (eS S i j)) → At G (d + 4) 15 53 [(0, .ref o), (1, .ref a), (2, .int (nI (wN S))), (3, .int (dI ii))] [] Mx (qV Q) := by
    intro ii
    induction ii with
    | zero =>
      intro Mx _ gx hr ht
      have Ox := gx.ob O
      refine c_X1_search_53 Ox (H.fr gx dj).1 ⟨fun _ => ⟨v_i (k := 0) (by decide) (by decide), fun M2 e2 => ?_⟩, fun z => absurd dI_0 z⟩
      have e0 : vi Mx (o + 3) 0 = nI (edC S) := hr 0 (Nat.zero_le _)
      rw [show (0 : Int32).toNatClampNeg = 0 from rfl, e0] at e2
      have g2' : Frl o [1] [] Mx M2 := by rw [e2]; exact Frl.sf (by decide)
      have H2 := (H.fr gx dj).fr g2' dj
      have O2 := g2'.ob Ox
      rw [H2.2.1, H2.2.2.1]
      refine k_walk O2 V (fun i j hi hj => by have := ht i j (Nat.zero_le _) hi hj; rw [e2]; exact this) (fun M3 g3 h1 h2 => ⟨⟨g3.ob O2, g3.ob H2.1⟩, ?_⟩)
      refine hq M3 ((gx.sub (by decide) (by decide)).trans ((g2'.sub (by decide) (by decide)).trans (g3.sub (by decide) (by decide)))) ⟨?_, h1, h2⟩
      rw [g3.f (by decide) (by decide), e2, vi_seti, if_pos ⟨rfl, rfl⟩]
    | succ i ih =>
      intro Mx hi gx hr ht
      rw [dI_s]
      have Ox := gx.ob O
      have Hx := H.fr gx dj
      refine c_X1_search_53 Ox Hx.1 ⟨fun z => absurd z (nlt0 _ (by omega)), fun _ => ?_⟩
      refine k_fillRow Ox Hx V dj (by omega) hr (fun M4 g4 h1 h2 h3 => ⟨⟨g4.ob Ox, g4.ob Hx.1⟩, ?_⟩)
      refine ih M4 (by omega) (gx.trans g4) h1 (fun i' j h4 h5 h6 => ?_)
      by_cases y : i' = i
      · rw [y]; exact h2 j h6
      · exact h3 i' j _ (by omega) y (ht i' j (by omega) h5 h6)
  -- the row behind all
  have l13 : ∀ (k j : Nat) (Mx : Mem), k + j = wN S + 1 → Frl o [] [2, 3] M Mx → (∀ q, q < j → vi Mx (o + 3) q = nI ((wN S - q) * kc S 0)) → At G (d + 4) 15 13 [(0, .ref o), (1, .ref a), (2, .int (nI (wN S))), (3, .int (nI j))] [] Mx (qV Q) := by
    intro k
    induction k with
    | zero =>
      intro j Mx e gx hx
      have Hx := H.fr gx dj
      refine c_X1_search_13 (gx.ob O) Hx.1 ?_
      rw [lt_I (by omega) (by omega), Hx.2.1]
      refine ⟨fun _ => ?_, fun z => absurd (by omega) z⟩
      have mn : (if (200 : Int32) < nI (gN S) then (200 : Int32) else nI (gN S)) = nI (gN S) := if_neg (by rw [show (200 : Int32) = nI 200 from rfl, lt_I (by omega) (by omega)]; omega)
      rw [mn, show nI (gN S) - 1 = dI (gN S) by unfold dI; rw [Int32.sub_eq_add_neg]]
      refine l53 (gN S) Mx (Nat.le_refl _) gx (fun q hq' => ?_) (fun i j h1 h2 => by omega)
      rw [hx q (by omega)]
      unfold eE
      rw [dr_n (l := gL' S) (by rw [gL_len]; exact Nat.le_refl _)]
      show _ = nI (((wL' S).drop q).length * kc S 0)
      rw [List.length_drop, wL_len]
    | succ k ih =>
      intro j Mx e gx hx
      have Hx := H.fr gx dj
      refine c_X1_search_13 (gx.ob O) Hx.1 ?_
      rw [lt_I (by omega) (by omega), nI_clamp (n := j) (by omega), show vi Mx (a + 6) (0 : Int32).toNatClampNeg = nI (kc S 0) from Hx.2.2.2.2.2 0 (by decide), pk_sub (by omega), pk_mul, nI_1]
      refine ⟨fun z => absurd z (by omega), fun _ => ⟨v07, v_i (by omega) (by decide), fun M1 e1 => ?_⟩⟩
      refine ih (j + 1) M1 (by omega) (gx.trans (by rw [e1]; exact Frl.si (by decide))) (fun q hq' => ?_)
      rw [e1, vi_seti]
      by_cases y : q = j
      · rw [if_pos ⟨rfl, y⟩, y]
      · rw [if_neg (fun z => y z.2)]; exact hx q (by omega)
  refine c_X1_search O H.1 ?_
  have mn : (if (200 : Int32) < vi M a 3 then (200 : Int32) else vi M a 3) = nI (wN S) := by
    rw [H.2.2.1]
    exact if_neg (by rw [show (200 : Int32) = nI 200 from rfl, lt_I (by omega) (by omega)]; omega)
  rw [mn]
  exact l13 (wN S + 1) 0 M rfl Frl.refl (fun q hq' => absurd hq' (Nat.not_lt_zero q))
end
section
variable {G : GT} {d : Nat} {M M' : Mem} {x c : Nat} {w : Nat → Nat} {T : StT}
/-- what is found is kept in fixed cells -/
theorem XC.fix (h : XC w M x T c) (hN : mN M' = mN M) (hK : mK M' = mK M) (hA : mA M' = mA M) (hr : vr M' = vr M) (hs : ∀ b, b ≠ x → (∀ i, 46 ≤ i → i < 55 → b ≠ x + i) → vi M' b = vi M b ∧ vl M' b = vl M b) (h0 : ∀ k, k ≠ 14 → k ≠ 15 → vi M' x k = vi M x k) (hE : cEd M' (x + 46) (sh T) c) (hM : cMv M' (x + 50) (sh T) c) (hF : cFw M' x (sh T) c) : XC w M' x T c := by
  have F := h.2.1
  have X := h.1
  have ow := h.ow.1
  have hKA : ∀ b, mK M b ≠ 0 → mK M' b = mK M b ∧ mA M' b = mA M b := fun b _ => by rw [hK, hA]; exact ⟨rfl, rfl⟩
  have sm : ∀ b, w b ≠ 0 → same M M' b := fun b hb => by
    have := hs b (fun e => hb (by rw [e]; have := ow 0 (by decide) (by decide); rw [Nat.add_zero] at this; exact this)) (fun i h1 h2 e => hb (by rw [e]; exact ow i (by omega) (by omega)))
    exact ⟨this.1, this.2, by rw [hr]⟩
  have km : keepM w M M' := fun b hb _ => ⟨sm b (by omega), by rw [hK], by rw [hA]⟩
  have fx : ∀ i, 0 < i → i < 46 → same M M' (x + i) := fun i h1 h2 => by
    have := hs (x + i) (by omega) (fun j h3 h4 => by omega)
    exact ⟨this.1, this.2, by rw [hr]⟩
  refine ⟨X.keep hKA (fun i _ => by rw [hr]), fun b hb => by rw [hK]; exact F b (by rw [← hN]; exact hb), h.2.2.1, h.ow, by rw [hN]; exact h.2.2.2.2.1, ⟨by rw [(fx 1 (by decide) (by decide)).1]; exact h.t, fun k hk => by rw [(fx 2 (by decide) (by decide)).1]; exact h.tb hk⟩, ?_, by rw [h0 12 (by decide) (by decide)]; exact h.q, ⟨h.cl, by rw [h0 13 (by decide) (by decide)]; exact h.ch⟩, ?_, hE, hM, hF⟩
  · exact h.cs.2.2.keep F km (fun i hi => by rw [Nat.add_assoc]; exact fx _ (by omega) (by omega))
  · exact h.dy.keep F X hKA km (fun b hb _ => sm b (by omega)) (by rw [hr]) (by rw [hr]) (by rw [hr]) (by rw [hr]) (by rw [hr]) rfl h.cl (Or.inl ⟨rfl, rfl⟩)
theorem k_findEdit {Q : Mem → Prop} (h : XC w M x T c) (hq : ∀ M', XC w M' x T c → Cv x M M' → edF M' (x + 46) (sh T) → Q M') : CV G (d + 5) 145 [.ref x] M Q := by
  have V := h.cs.2.1
  have cl := h.cl
  have cE := h.2.2.2.2.2.2.2.2.2.2.1
  refine c_X11_findEdit h.1 ?_
  rw [h.ch]
  refine ⟨fun e => hq M h Cv.refl (cE.2 e), fun _ => ?_⟩
  refine k_search h.1.2.2.2.2.2.2.2.2.1 h.cs.shE V (by omega) (fun M1 g1 f1 => ?_)
  have X1 : XAt M1 x := h.1.keep (fun b _ => by rw [g1.2.2.1, g1.2.2.2.1]; exact ⟨rfl, rfl⟩) (fun i _ => by rw [g1.2.2.2.2.1])
  refine ⟨X1, fun M2 e2 => ?_⟩
  have ch1 : vi M1 x 13 = nI c := by rw [(g1.2.2.2.2.2 x 13 (fun e => by omega) (fun i hi e => by simp at hi; omega)).1]; exact h.ch
  rw [ch1] at e2
  have g2 : Frl (x + 46) [0, 1, 2] [1, 2, 3] M M2 := (g1.sub (by decide) (by decide)).trans (by rw [e2]; exact Frl.sf (by decide))
  have f2 : edF M2 (x + 46) (sh T) := by
    refine ⟨?_, ?_, fun k hk => ?_⟩
    · rw [e2, vi_seti, if_neg (by omega)]; exact f1.1
    · rw [e2, vi_seti, if_neg (by omega)]; exact f1.2.1
    · rw [e2, vi_seti, if_neg (by omega)]; exact f1.2.2 k hk
  have sm : ∀ b, (∀ i, 46 ≤ i → i < 50 → b ≠ x + i) → vi M2 b = vi M b ∧ vl M2 b = vl M b := fun b hb => ⟨by funext k; exact (g2.2.2.2.2.2 b k (fun e => absurd e (hb 46 (by decide) (by decide))) (fun i hi => by rw [Nat.add_assoc]; simp at hi; exact hb _ (by omega) (by omega))).1, by funext k; exact (g2.2.2.2.2.2 b k (fun e => absurd e (hb 46 (by decide) (by decide))) (fun i hi => by rw [Nat.add_assoc]; simp at hi; exact hb _ (by omega) (by omega))).2⟩
  have s50 := (sm (x + 50) (fun i h1 h2 => by omega)).1
  have s0 := (sm x (fun i h1 h2 => by omega)).1
  refine hq M2 (h.fix g2.1 g2.2.2.1 g2.2.2.2.1 g2.2.2.2.2.1 (fun b _ h2 => sm b (fun i h3 h4 => h2 i h3 (by omega))) (fun k _ _ => by rw [s0]) ⟨?_, fun _ => f2⟩ ?_ ?_) ⟨fun b h1 h2 => ?_, g2.1, g2.2.1⟩ f2
  · rw [e2, vi_seti, if_pos ⟨rfl, rfl⟩, nI_toIntN (by omega)]; omega
  · have z := h.2.2.2.2.2.2.2.2.2.2.2.1
    unfold cMv at z ⊢
    rw [s50]; exact z
  · have z := h.2.2.2.2.2.2.2.2.2.2.2.2
    unfold cFw at z ⊢
    rw [s0]; exact z
  · have := sm b (fun i h3 h4 => by omega)
    exact ⟨⟨this.1, this.2, by rw [g2.2.2.2.2.1]⟩, by rw [g2.2.2.1], by rw [g2.2.2.2.1]⟩
theorem Cv.cu (h : Cv x M M') : Cu x M M' := ⟨h.1, by rw [h.2.1]; omega, by rw [h.2.2]; omega⟩
theorem k_edit {k : Int32} {Q : Int32 → Mem → Prop} (h : XC w M x T c) (hq : ∀ M', XC w M' x T c → Cu x M M' → Q (f_edit T k) M') : CI G (d + 6) 133 [.ref x, .int k] M Q := by
  unfold f_edit at hq
  have el : (edW (sh T)).length ≤ 400 := ewk_len 400 _ _
  refine c_X11_edit h.1 (k_findEdit h (fun M1 h1 u1 f1 => ⟨h1.1, ?_⟩))
  have hq := hq M1 h1 u1.cu
  rw [f1.1, f1.2.1]
  refine ⟨fun n1 => ⟨fun n2 => ?_, fun y2 => ?_⟩, fun y1 => ?_⟩
  · rw [cif_F n1, cif_F n2] at hq
    rw [fb_lt0, fa_le, nI_toIntN (by omega)]
    refine ⟨fun z => by rw [cif_F (fun y => by have := y.1; omega)] at hq; exact hq, fun z => ⟨fun z2 => by rw [cif_F (fun y => by have := y.2; omega)] at hq; exact hq, fun z2 => ?_⟩⟩
    rw [cif_T ⟨by omega, by omega⟩] at hq
    obtain ⟨q, hq', eq⟩ := asN (a := k) (N := (edW (sh T)).length) (by omega) (by omega)
    subst eq
    rw [nI_clamp (by omega)] at hq ⊢
    rw [f1.2.2 q hq']
    exact ⟨v_i (by omega) (by decide), hq⟩
  · rw [cif_F n1, cif_T y2] at hq; exact hq
  · rw [cif_T y1] at hq; exact hq
end
