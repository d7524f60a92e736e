/-! CHANGED, RUN, COSTS: the reference's calls -/
section
variable {G : GT} {d : Nat} {M M' : Mem} {m w : Nat} {T : StT}
theorem RX.cf (W : RX M m T) (g : Frl m [43, 44, 51, 52, 54] [21, 22, 23, 24, 25, 26, 27, 28, 29, 30, 31, 32, 33, 34, 35, 36, 37, 38, 39] M M') : RX M' m T := W.fr g (fun o ho => by simp; omega) (by decide)
theorem lnR.fr {A : List LnT} (h : lnR M m A) {F L : List Nat} (g : Frl m F L M M') (h1 : 52 ∉ F) (h0 : 0 ∉ L) (h3 : 34 ∉ L) (h4 : 35 ∉ L) : lnR M' m A := ⟨by rw [g.f h1 h0]; exact h.1, fun i hi => by rw [g.i h3 (by decide), g.i h4 (by decide)]; exact h.2 i hi⟩
theorem stX.fr {t : List Int32} (h : stX M m t) {F L : List Nat} (g : Frl m F L M M') (h1 : 51 ∉ F) (h0 : 0 ∉ L) (h3 : 33 ∉ L) : stX M' m t := ⟨by rw [g.f h1 h0]; exact h.1, fun i hi => by rw [g.i h3 (by decide)]; exact h.2 i hi⟩
theorem olR.fr {t : List Int32} {A : List LnT} (h : olR M m t A) {F L : List Nat} (g : Frl m F L M M') (h1 : 36 ∉ L) (h2 : 37 ∉ L) (h3 : 38 ∉ L) : olR M' m t A := ⟨fun i hi => by rw [g.i h3 (by decide)]; exact h.1 i hi, fun i hi => by rw [g.i h1 (by decide), g.i h2 (by decide)]; exact h.2 i hi⟩
theorem s_changes {l : Nat} {Q : Int32 → Mem → Prop} (W : RX M m T) (hl : l < qN T) (w5 : 5 ≤ w) (w6 : w ≤ 60) (hq : ∀ M', Frl m [43, 44, 51, 52, 54] [21, 22, 23, 24, 25, 26, 27, 28, 29, 30, 31, 32, 33, 34, 35, 36, 37, 38, 39] M M' → vi M' m 54 = nI (chM T l w) → (∀ k, k < chM T l w → vi M' (m + 39) k = bI (dif (chA T w) (chB T l w) k)) → bR M' (m + 31) (stS (sh T) (qL T l)) → Q (nI (ct (dif (chA T w) (chB T l w)) (chM T l w))) M') : CI G (d + 10) 248 [.ref m, .int (nI l), .int (nI w)] M Q := by
  have V := W.rs.2.1
  have q4 := W.q4
  have tA4 := txW_4 (a := 0) V
  have tB4 := txW_4 (a := 2 + l) V
  have eA : txW T 0 = gL' (sh T) := rfl
  have eB : txW T (2 + l) = ouT (sh T) (qL T l) := by unfold txW; rw [if_neg (by omega), if_neg (by omega), show 2 + l - 2 = l by omega]
  have lA : (chA T w).length ≤ 400 := Nat.le_trans (lnL_le (by omega)) tA4
  have lB : (chB T l w).length ≤ 400 := Nat.le_trans (lnL_le (by omega)) (by rw [eB] at tB4; exact tB4)
  have wA : lwk (gL' (sh T)) (chA T w) := lnL_wk (by omega) tA4
  have wB : lwk (ouT (sh T) (qL T l)) (chB T l w) := lnL_wk (by omega) (by rw [eB] at tB4; exact tB4)
  have bA : ∀ x ∈ chA T w, x.2.length ≤ 60 := fun x hx => Nat.le_trans (lnL_lb x hx) w6
  have bB : ∀ x ∈ chB T l w, x.2.length ≤ 60 := fun x hx => Nat.le_trans (lnL_lb x hx) w6
  rw [eA] at tA4
  rw [eB] at tB4
  refine r_changes W.1 (s_isSet W (fun ok M1 g1 x1 _ => ⟨g1.ra W.1, ?_⟩) (fun no => absurd ⟨by decide, by show (0 : Int) ≤ _; omega⟩ no))
  have x1 : stX M1 m (gL' (sh T)) := x1
  refine s_setsLines (g1.ra W.1) x1 tA4 w5 w6 (fun M2 g2 l2 => ⟨g2.ra (g1.ra W.1), ?_⟩)
  have l2 : lnR M2 m (chA T w) := l2
  have x2 := x1.fr g2 (by decide) (by decide) (by decide)
  have g02 : Frl m [43, 44, 51, 52, 54] [21, 22, 23, 24, 25, 26, 27, 28, 29, 30, 31, 32, 33, 34, 35, 36, 37, 38, 39] M M2 := (g1.sub (by decide) (by decide)).trans (g2.sub (by decide) (by decide))
  rw [l2.1]
  -- what is other
  have p4 : ∀ (j i : Nat) (Mx : Mem), j + i = chM T l w → Frl m [43, 44, 51, 52, 54] [21, 22, 23, 24, 25, 26, 27, 28, 29, 30, 31, 32, 33, 34, 35, 36, 37, 38, 39] M Mx → olR Mx m (gL' (sh T)) (chA T w) → stX Mx m (ouT (sh T) (qL T l)) → lnR Mx m (chB T l w) → vi Mx m 54 = nI (chM T l w) → (∀ k, k < i → vi Mx (m + 39) k = bI (dif (chA T w) (chB T l w) k)) → bR Mx (m + 31) (stS (sh T) (qL T l)) → At G (d + 10) 248 130 [(0, .ref m), (3, .int (nI (chA T w).length)), (4, .int (nI (ct (dif (chA T w) (chB T l w)) i))), (5, .int (nI i))] [] Mx (qI Q) := by
    have cm : chM T l w ≤ 400 := by unfold chM; omega
    intro j
    induction j with
    | zero =>
      intro i Mx e gx ox sx lx ex hx bx
      have e : i = chM T l w := by omega
      subst e
      refine r_changes_130 (gx.ra W.1) ?_
      rw [ex, le_I (by omega) (by omega)]
      exact ⟨fun _ => hq Mx gx ex hx bx, fun z => absurd (Nat.le_refl _) z⟩
    | succ j ih =>
      intro i Mx e gx ox sx lx ex hx bx
      have Rx := gx.ra W.1
      have v4 : vp_in (nI i) 401 := vp_in_nI (by omega) (by omega)
      have go : ∀ (b : Int32) (M1 : Mem), b = bI (dif (chA T w) (chB T l w) i) → M1 = seti Mx (m + 39) i b → vp_in (nI i) 401 ∧ ((vi M1 (m + 39) i = 0 → At G (d + 10) 248 130 [(0, .ref m), (3, .int (nI (chA T w).length)), (4, .int (nI (ct (dif (chA T w) (chB T l w)) i) + (0 : Int32))), (5, .int (nI (i + 1)))] [] M1 (qI Q)) ∧ (¬ vi M1 (m + 39) i = 0 → At G (d + 10) 248 130 [(0, .ref m), (3, .int (nI (chA T w).length)), (4, .int (nI (ct (dif (chA T w) (chB T l w)) i) + (1 : Int32))), (5, .int (nI (i + 1)))] [] M1 (qI Q))) := fun b M1 eb e1 => by
        have g' : Frl m [] [39] Mx M1 := by rw [e1]; exact Frl.si (by decide)
        have v1 : vi M1 (m + 39) i = bI (dif (chA T w) (chB T l w) i) := by rw [e1, vi_seti, if_pos ⟨rfl, rfl⟩, eb]
        have nx := ih (i + 1) M1 (by omega) (gx.trans (g'.sub (by decide) (by decide))) (ox.fr g' (by decide) (by decide) (by decide)) (sx.fr g' (by decide) (by decide) (by decide)) (lx.fr g' (by decide) (by decide) (by decide) (by decide)) (by rw [g'.f (by decide) (by decide)]; exact ex) (fun k hk => ?_) (bx.fr (by funext z; exact g'.i (by decide) (by decide) z))
        · rw [v1]
          refine ⟨v4, bz (fun y => ?_) (fun n => ?_)⟩
          · rw [ct_y y] at nx; rw [nI_1]; exact nx
          · rw [ct_n n] at nx; rw [Int32.add_zero]; exact nx
        · by_cases y : k = i
          · rw [y]; exact v1
          · rw [e1, vi_seti, if_neg (fun z => y z.2)]; exact hx k (by omega)
      refine r_changes_130 Rx ?_
      rw [ex, le_I (by omega) (by omega), nI_clamp (by omega), le_I (by omega) (by omega), lx.1, le_I (by omega) (by omega), nI_1, b0n, b1n]
      refine ⟨fun z => absurd z (by omega), fun _ => ⟨fun z => ⟨v4, fun M1 e1 => go 1 M1 (by rw [bI_T]; exact fun y => by have := y.1; omega) e1⟩, fun z => ⟨fun z2 => ⟨v4, fun M1 e1 => go 1 M1 (by rw [bI_T]; exact fun y => by have := y.2.1; omega) e1⟩, fun z2 => ?_⟩⟩⟩
      refine s_isSameLine Rx ox sx lx tA4 tB4 wA wB (by omega) (by omega) (by omega) bA bB ⟨Rx, bnz (fun y => ?_) (fun n => ?_)⟩
      · exact ⟨v4, fun M1 e1 => go 0 M1 (by rw [bI_F]; exact fun z3 => z3 ⟨by omega, by omega, y⟩) e1⟩
      · exact ⟨v4, fun M1 e1 => go 1 M1 (by rw [bI_T]; exact fun z3 => n z3.2.2) e1⟩
  -- the text is kept
  have p2 : ∀ (j i : Nat) (Mx : Mem), j + i = (gL' (sh T)).length → Frl m [] [36, 37, 38] M2 Mx → (∀ k, k < (chA T w).length → vi Mx (m + 36) k = nI ((chA T w).getD k (0, [])).1 ∧ vi Mx (m + 37) k = nI ((chA T w).getD k (0, [])).2.length) → (∀ k, k < i → vi Mx (m + 38) k = (gL' (sh T)).getD k 0) → At G (d + 10) 248 62 [(0, .ref m), (1, .int (nI l)), (2, .int (nI w)), (3, .int (nI (chA T w).length)), (4, .int (nI i))] [] Mx (qI Q) := by
    intro j
    induction j with
    | zero =>
      intro i Mx e gx hL hx
      have e : i = (gL' (sh T)).length := by omega
      have g0x := g02.trans (gx.sub (F' := [43, 44, 51, 52, 54]) (L' := [21, 22, 23, 24, 25, 26, 27, 28, 29, 30, 31, 32, 33, 34, 35, 36, 37, 38, 39]) (by decide) (by decide))
      have Wx := W.cf g0x
      refine r_changes_62 Wx.1 ?_
      rw [gx.f (by decide) (by decide), x2.1, le_I (by omega) (by omega), show (2 : Int32) = nI 2 from rfl, nI_add]
      refine ⟨fun _ => ?_, fun z => absurd (by omega) z⟩
      refine s_isSet Wx (fun ok M5 g5 x5 tk5 => ⟨g5.ra Wx.1, ?_⟩) (fun no => absurd ⟨by rw [nI_toIntN (by omega)]; omega, by rw [nI_toIntN (by omega)]; omega⟩ no)
      rw [nI_clamp (by omega), eB] at x5
      refine s_setsLines (g5.ra Wx.1) x5 tB4 w5 w6 (fun M6 g6 l6 => ⟨g6.ra (g5.ra Wx.1), ?_⟩)
      have l6 : lnR M6 m (chB T l w) := l6
      have o6 : olR M6 m (gL' (sh T)) (chA T w) := olR.fr (olR.fr ⟨fun i hi => hx i (by omega), hL⟩ g5 (by decide) (by decide) (by decide)) g6 (by decide) (by decide) (by decide)
      have x6 := x5.fr g6 (by decide) (by decide) (by decide)
      have t6 : bR M6 (m + 31) (stS (sh T) (qL T l)) := (tk5 l hl rfl).fr (by funext z; exact g6.i (by decide) (by decide) z)
      have g06 : Frl m [43, 44, 51, 52, 54] [21, 22, 23, 24, 25, 26, 27, 28, 29, 30, 31, 32, 33, 34, 35, 36, 37, 38, 39] M M6 := g0x.trans ((g5.sub (by decide) (by decide)).trans (g6.sub (by decide) (by decide)))
      have fin : ∀ M7, M7 = seti M6 m 54 (nI (chM T l w)) → At G (d + 10) 248 130 [(0, .ref m), (3, .int (nI (chA T w).length)), (4, .int (0 : Int32)), (5, .int (0 : Int32))] [] M7 (qI Q) := fun M7 e7 => by
        have g7 : Frl m [54] [] M6 M7 := by rw [e7]; exact Frl.sf (by decide)
        exact p4 (chM T l w) 0 M7 rfl (g06.trans (g7.sub (by decide) (by decide))) (o6.fr g7 (by decide) (by decide) (by decide)) (x6.fr g7 (by decide) (by decide) (by decide)) (l6.fr g7 (by decide) (by decide) (by decide) (by decide)) (by rw [e7, vi_seti, if_pos ⟨rfl, rfl⟩]) (fun k hk => absurd hk (Nat.not_lt_zero k)) (t6.fr (by funext z; exact g7.i (by decide) (by decide) z))
      rw [l6.1, le_I (by omega) (by omega)]
      refine ⟨fun z M7 e7 => fin M7 ?_, fun z M7 e7 => fin M7 ?_⟩
      · rw [e7, show chM T l w = (chB T l w).length by unfold chM; omega]
      · rw [e7, show chM T l w = (chA T w).length by unfold chM; omega]
    | succ j ih =>
      intro i Mx e gx hL hx
      have g0x := g02.trans (gx.sub (F' := [43, 44, 51, 52, 54]) (L' := [21, 22, 23, 24, 25, 26, 27, 28, 29, 30, 31, 32, 33, 34, 35, 36, 37, 38, 39]) (by decide) (by decide))
      refine r_changes_62 (g0x.ra W.1) ?_
      rw [gx.f (by decide) (by decide), x2.1, le_I (by omega) (by omega), nI_clamp (by omega), nI_1]
      refine ⟨fun z => absurd z (by omega), fun _ => ⟨vp_in_nI (by omega) (by omega), vp_in_nI (by omega) (by omega), fun M3 e3 => ?_⟩⟩
      have g3 : Frl m [] [38] Mx M3 := by rw [e3]; exact Frl.si (by decide)
      refine ih (i + 1) M3 (by omega) (gx.trans (g3.sub (by decide) (by decide))) (fun k hk => by rw [g3.i (by decide) (by decide), g3.i (by decide) (by decide)]; exact hL k hk) (fun k hk => ?_)
      rw [e3, vi_seti]
      by_cases y : k = i
      · rw [if_pos ⟨rfl, y⟩, y, gx.i (by decide) (by decide)]; exact x2.2 i (by omega)
      · rw [if_neg (fun z => y z.2)]; exact hx k (by omega)
  -- its lines are kept
  have p1 : ∀ (j i : Nat) (Mx : Mem), j + i = (chA T w).length → Frl m [] [36, 37, 38] M2 Mx → (∀ k, k < i → vi Mx (m + 36) k = nI ((chA T w).getD k (0, [])).1 ∧ vi Mx (m + 37) k = nI ((chA T w).getD k (0, [])).2.length) → At G (d + 10) 248 19 [(0, .ref m), (1, .int (nI l)), (2, .int (nI w)), (3, .int (nI (chA T w).length)), (4, .int (nI i))] [] Mx (qI Q) := by
    intro j
    induction j with
    | zero =>
      intro i Mx e gx hx
      have g0x := g02.trans (gx.sub (F' := [43, 44, 51, 52, 54]) (L' := [21, 22, 23, 24, 25, 26, 27, 28, 29, 30, 31, 32, 33, 34, 35, 36, 37, 38, 39]) (by decide) (by decide))
      refine r_changes_19 (g0x.ra W.1) ?_
      rw [le_I (by omega) (by omega)]
      exact ⟨fun _ => p2 _ 0 Mx rfl gx (fun k hk => hx k (by omega)) (fun k hk => absurd hk (Nat.not_lt_zero k)), fun z => absurd (by omega) z⟩
    | succ j ih =>
      intro i Mx e gx hx
      have g0x := g02.trans (gx.sub (F' := [43, 44, 51, 52, 54]) (L' := [21, 22, 23, 24, 25, 26, 27, 28, 29, 30, 31, 32, 33, 34, 35, 36, 37, 38, 39]) (by decide) (by decide))
      refine r_changes_19 (g0x.ra W.1) ?_
      rw [le_I (by omega) (by omega), nI_clamp (by omega), nI_1]
      have v4 : vp_in (nI i) 401 := vp_in_nI (by omega) (by omega)
      refine ⟨fun z => absurd z (by omega), fun _ => ⟨v4, v4, fun M3 e3 => ⟨v4, v4, fun M4 e4 => ?_⟩⟩⟩
      have g3 : Frl m [] [36] Mx M3 := by rw [e3]; exact Frl.si (by decide)
      have g4 : Frl m [] [37] M3 M4 := by rw [e4]; exact Frl.si (by decide)
      have li := l2.2 i (by omega)
      refine ih (i + 1) M4 (by omega) (gx.trans ((g3.sub (by decide) (by decide)).trans (g4.sub (by decide) (by decide)))) (fun k hk => ?_)
      rw [g4.i (by decide) (by decide), e4, vi_seti, e3, vi_seti]
      by_cases y : k = i
      · rw [if_pos ⟨rfl, y⟩, if_pos ⟨rfl, y⟩, y, ← e3, g3.i (by decide) (by decide), gx.i (by decide) (by decide), gx.i (by decide) (by decide)]; exact li
      · rw [if_neg (fun z => y z.2), if_neg (fun z => y z.2), ← e3, g3.i (by decide) (by decide)]; exact hx k (by omega)
  exact p1 _ 0 M2 rfl Frl.refl (fun k hk => absurd hk (Nat.not_lt_zero k))
theorem m_changed {r v : Int32} {Q : Int32 → Mem → Prop} (W : RX M m T) (hq : ∀ M', RX M' m T → Ou m M M' → Q (f_changed T r v) M') : CI G (d + 11) 249 [.ref m, .int r, .int v] M Q := by
  unfold f_changed at hq
  have q4 := W.q4
  refine r_changed W.1 (s_isLaw W ⟨W.1, bz (fun ok => ?_) (fun no => by rw [cif_F (fun z => no z.1)] at hq; exact hq M W Ou.refl)⟩)
  refine s_width ⟨W.1, bz (fun cw => ?_) (fun cw => by rw [cif_F (fun z => cw z.2)] at hq; exact hq M W Ou.refl)⟩
  rw [cif_T ⟨ok, cw⟩] at hq
  obtain ⟨l, hl, ea⟩ := asN ok.1 ok.2
  subst ea
  obtain ⟨w, hw, ev⟩ := asN (a := v) (N := 61) (by have := cw.1; omega) (by have := cw.2; omega)
  subst ev
  unfold wOk at cw
  rw [nI_toIntN (by omega)] at cw
  rw [nI_clamp (n := w) (by omega), nI_clamp (n := l) (by omega)] at hq
  refine s_changes W hl (by omega) (by omega) (fun M1 g1 _ _ _ => ⟨g1.ra W.1, ?_⟩)
  have := hq M1 (W.cf g1) (g1.ou (by decide))
  have V := W.rs.2.1
  have cm : chM T l w ≤ 400 := by
    have h1 := Nat.le_trans (lnL_le (t := gL' (sh T)) (w := w) (by omega)) (txW_4 (a := 0) V)
    have h2 := Nat.le_trans (lnL_le (t := ouT (sh T) (qL T l)) (w := w) (by omega)) ouT_4
    unfold chM chA chB; omega
  rw [(pg_1 _ (by omega)).1] at this
  exact this
end
