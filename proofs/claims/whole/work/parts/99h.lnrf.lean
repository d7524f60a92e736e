/-! LINES: the reference -/
section
variable {t : List Int32} {w : Nat} {acc : List LnT} {a k : Nat} {u : List Int32}
theorem lnC_lb : ∀ (f : Nat) (acc : List LnT) (a : Nat) (u : List Int32), (∀ x ∈ acc, x.2.length ≤ w) → ∀ x ∈ lnC w f acc a u, x.2.length ≤ w
  | 0, acc, a, u, h => h
  | f + 1, acc, a, u, h => by
    unfold lnC
    by_cases c : w < u.length
    · rw [if_pos c]
      refine lnC_lb f _ _ _ (fun x hx => ?_)
      rcases List.mem_append.mp hx with y | y
      · exact h x y
      · rw [List.mem_singleton.mp y]; show (u.take w).length ≤ w; rw [List.length_take]; omega
    · rw [if_neg c]
      intro x hx
      rcases List.mem_append.mp hx with y | y
      · exact h x y
      · rw [List.mem_singleton.mp y]; show u.length ≤ w; omega
theorem lnJ_lb (hu : u.length ≤ w) (h : ∀ x ∈ acc, x.2.length ≤ w) : ∀ x ∈ lnJ w acc a u, x.2.length ≤ w := by
  unfold lnJ
  split
  · intro x hx
    rcases List.mem_append.mp hx with y | y
    · exact h x y
    · rw [List.mem_singleton.mp y]; exact hu
  · split
    · rename_i z ez c
      intro x hx
      rcases List.mem_append.mp hx with y | y
      · exact h x ((List.dropLast_sublist _).subset y)
      · rw [List.mem_singleton.mp y]; show (z.2 ++ 32 :: u).length ≤ w; rw [List.length_append, List.length_cons]; omega
    · intro x hx
      rcases List.mem_append.mp hx with y | y
      · exact h x y
      · rw [List.mem_singleton.mp y]; exact hu
theorem lnW_lb (h : ∀ x ∈ acc, x.2.length ≤ w) : ∀ x ∈ lnW w acc a u, x.2.length ≤ w := by
  unfold lnW
  split
  · exact lnC_lb _ _ _ _ h
  · exact lnJ_lb (by omega) h
theorem sg_drop {n : Nat} (h : w ≤ n) : (sg t k n).drop w = sg t (k + w) (n - w) := by
  unfold sg; rw [List.drop_take, List.drop_drop]
theorem sg_ne {n : Nat} (h : k + n ≤ t.length) (n0 : 0 < n) : sg t k n ≠ [] := fun z => by
  have := sg_len h
  rw [z] at this
  have : 0 = n := this
  omega
end
section
variable {G : GT} {d : Nat} {M M' : Mem} {m w : Nat} {T : StT} {t : List Int32} {acc : List LnT}
theorem s_setsLines {Q : Mem → Prop} (R : RefAt M m) (h : stX M m t) (t4 : t.length ≤ 400) (w5 : 5 ≤ w) (w6 : w ≤ 60) (hq : ∀ M', Frl m [52] [34, 35] M M' → lnR M' m (lnL t w) → Q M') : CV G (d + 2) 243 [.ref m, .int (nI w)] M Q := by
  have key : ∀ (f k : Nat) (acc : List LnT) (Mx : Mem), 402 ≤ f + k → k ≤ t.length + 1 → lnL t w = lnS t w f acc k → Frl m [52] [34, 35] M Mx → lnR Mx m acc → acc.length ≤ k → (∀ x ∈ acc, x.2.length ≤ w) → At G (d + 2) 243 7 [(0, .ref m), (1, .int (nI w)), (2, .int (nI k))] [] Mx (qV Q) := by
    intro f
    induction f with
    | zero => intro k acc Mx e hk; omega
    | succ f ih =>
      intro k acc Mx e hk el gx lx lk lb
      have e51 : vi Mx m 51 = nI t.length := by rw [gx.f (by decide) (by decide)]; exact h.1
      have Rx := gx.ra R
      have el : lnL t w = cif (k < t.length) (lnS t w f (cif (wr t k = 0) acc (lnW w acc k (sg t k (wr t k)))) (k + wr t k + 1)) acc := el
      refine r_setsLines_7 Rx ?_
      rw [e51, le_I (by omega) (by omega)]
      refine ⟨fun z => ?_, fun z => ?_⟩
      · rw [cif_F (by omega)] at el
        exact hq Mx gx (by rw [el]; exact lx)
      · have kt : k < t.length := by omega
        rw [cif_T kt] at el
        have wl := wr_le (t := t) (k := k) (by omega)
        have win : ∀ i, i < wr t k → ¬ t.getD (k + i) 0 = 32 := run_in (P := fun i => ¬ t.getD i 0 = 32) _ k rfl
        have wend : ¬ (k + wr t k < t.length ∧ ¬ t.getD (k + wr t k) 0 = 32) := run_end (P := fun i => ¬ t.getD i 0 = 32) _ k rfl
        generalize wr t k = n at *
        have ul : (sg t k n).length = n := sg_len wl
        -- behind the word
        have nx : ∀ (M1 : Mem) (acc1 : List LnT), Frl m [52] [34, 35] M M1 → lnR M1 m acc1 → acc1 = cif (n = 0) acc (lnW w acc k (sg t k n)) → At G (d + 2) 243 7 [(0, .ref m), (1, .int (nI w)), (2, .int (nI k + (nI n + 1)))] [] M1 (qV Q) := fun M1 acc1 g1 l1 ea => by
          rw [nI_1, nI_add, show k + (n + 1) = k + n + 1 by omega]
          rw [← ea] at el
          refine ih (k + n + 1) acc1 M1 (by omega) (by omega) el g1 l1 ?_ ?_
          · rw [ea]
            by_cases n0 : n = 0
            · rw [cif_T n0]; omega
            · rw [cif_F n0]
              have := lnW_len (w := w) (acc := acc) (a := k) (u := sg t k n) (by omega) (sg_ne wl (by omega))
              omega
          · rw [ea]
            by_cases n0 : n = 0
            · rw [cif_T n0]; exact lb
            · rw [cif_F n0]; exact lnW_lb lb
        -- pieces of a broad word
        have l3 : ∀ (f' at' : Nat) (acc' : List LnT) (u : List Int32) (M1 : Mem), u.length ≤ f' → 0 < u.length → at' + u.length = k + n → k ≤ at' → w < n → Frl m [52] [34, 35] M M1 → lnR M1 m acc' → lnW w acc k (sg t k n) = lnC w f' acc' at' u → acc'.length ≤ at' → (∀ x ∈ acc', x.2.length ≤ w) → At G (d + 2) 243 64 [(0, .ref m), (1, .int (nI w)), (2, .int (nI k)), (3, .int (nI n)), (4, .int (nI at')), (5, .int 1), (6, .int (nI u.length))] [] M1 (qV Q) := by
          intro f'
          induction f' with
          | zero => intro at' acc' u M1 h1 h2; omega
          | succ f' ihf =>
            intro at' acc' u M1 h1 h2 h3 h3' wn g1 l1 ew la lb'
            have ew : lnW w acc k (sg t k n) = if w < u.length then lnC w f' (acc' ++ [(at', u.take w)]) (at' + w) (u.drop w) else acc' ++ [(at', u)] := ew
            refine r_setsLines_64 (g1.ra R) ?_
            rw [le_I (by omega) (by omega), il_0, le_I (by omega) (by omega)]
            refine ⟨fun c => ⟨fun z => absurd z (by omega), fun _ => s_setsWord (acc := acc') (u := u) (g1.ra R) l1 (by omega) rfl (by omega) (by omega) (fun x hx => by have := lb' x hx; omega) (Or.inr rfl) (fun M2 g2 l2 => ⟨g2.ra (g1.ra R), nx M2 _ (g1.trans g2) l2 ?_⟩)⟩, fun c => ?_⟩
            · rw [if_neg (by omega)] at ew
              rw [if_pos rfl, cif_F (by omega), ew]
            · rw [if_pos (by omega)] at ew
              have tl : (u.take w).length = w := by rw [List.length_take]; omega
              have dl' : (u.drop w).length = u.length - w := List.length_drop
              refine s_setsWord (acc := acc') (u := u.take w) (n := w) (w := w) (g1.ra R) l1 (by omega) tl (by omega) (by omega) (fun x hx => by have := lb' x hx; omega) (Or.inr rfl) (fun M2 g2 l2 => ⟨g2.ra (g1.ra R), ?_⟩)
              rw [if_pos rfl] at l2
              rw [nI_add, pk_sub (by omega), ← dl']
              refine ihf (at' + w) (acc' ++ [(at', u.take w)]) (u.drop w) M2 (by omega) (by omega) (by omega) (by omega) wn (g1.trans g2) l2 ew (by rw [List.length_append]; show acc'.length + 1 ≤ _; omega) (fun x hx => ?_)
              rcases List.mem_append.mp hx with y | y
              · exact lb' x y
              · rw [List.mem_singleton.mp y]; show (u.take w).length ≤ w; omega
        -- the word is found
        have wd1 : (nI n ≤ nI w → At G (d + 2) 243 64 [(0, .ref m), (1, .int (nI w)), (2, .int (nI k)), (3, .int (nI n)), (4, .int (nI k)), (5, .int (0 : Int32)), (6, .int (nI n))] [] Mx (qV Q)) ∧ (¬ nI n ≤ nI w → At G (d + 2) 243 64 [(0, .ref m), (1, .int (nI w)), (2, .int (nI k)), (3, .int (nI n)), (4, .int (nI k)), (5, .int (1 : Int32)), (6, .int (nI n))] [] Mx (qV Q)) := by
          rw [le_I (by omega) (by omega)]
          refine ⟨fun c => ?_, fun c => ?_⟩
          · refine r_setsLines_64 Rx ?_
            rw [le_I (by omega) (by omega), il_0, le_I (by omega) (by omega)]
            refine ⟨fun _ => ⟨fun z => nx Mx acc gx lx (by rw [cif_T (by omega)]), fun z => s_setsWord (acc := acc) (u := sg t k n) Rx lx (by omega) ul (by omega) (by omega) (fun x hx => by have := lb x hx; omega) (Or.inl rfl) (fun M2 g2 l2 => ⟨g2.ra Rx, nx M2 _ (gx.trans g2) l2 ?_⟩)⟩, fun z => absurd c z⟩
            rw [if_neg (by decide), cif_F (by omega)]
            unfold lnW
            rw [if_neg (by omega)]
          · have := l3 401 k acc (sg t k n) Mx (by omega) (by omega) (by omega) (Nat.le_refl _) (by omega) gx lx (by unfold lnW; rw [if_pos (by omega)]) (by omega) lb
            rw [ul] at this
            exact this
        have l2 : ∀ (j i : Nat), j + i = n → At G (d + 2) 243 17 [(0, .ref m), (1, .int (nI w)), (2, .int (nI k)), (3, .int (nI i))] [] Mx (qV Q) := by
          intro j
          induction j with
          | zero =>
            intro i ei
            have ei : i = n := by omega
            subst ei
            refine r_setsLines_17 Rx ?_
            rw [e51, nI_add, le_I (a := t.length) (by omega) (by omega)]
            refine ⟨fun _ => wd1, fun z => ⟨vp_in_nI (by omega) (by omega), ?_⟩⟩
            rw [nI_clamp (by omega), gx.i (by decide) (by decide), h.2 _ (by omega)]
            exact ⟨fun _ => wd1, fun y => absurd ⟨by omega, y⟩ wend⟩
          | succ j ihj =>
            intro i ei
            refine r_setsLines_17 Rx ?_
            rw [e51, nI_add, le_I (a := t.length) (by omega) (by omega), nI_1]
            refine ⟨fun z => absurd z (by omega), fun z => ⟨vp_in_nI (by omega) (by omega), ?_⟩⟩
            rw [nI_clamp (by omega), gx.i (by decide) (by decide), h.2 _ (by omega)]
            exact ⟨fun y => absurd y (win i (by omega)), fun _ => ihj (i + 1) (by omega)⟩
        exact l2 n 0 rfl
  refine r_setsLines R (fun M1 e1 => ?_)
  have g1 : Frl m [52] [34, 35] M M1 := by rw [e1]; exact Frl.sf (by decide)
  exact key 402 0 [] M1 (by omega) (Nat.zero_le _) rfl g1 ⟨by rw [e1, vi_seti, if_pos ⟨rfl, rfl⟩]; rfl, fun i hi => absurd hi (Nat.not_lt_zero i)⟩ (Nat.le_refl _) (fun x hx => by cases hx)
theorem gL_len {S : ShT} : (gL' S).length = gN S := by unfold gL'; rw [List.length_map, List.length_range]
theorem wL_len {S : ShT} : (wL' S).length = wN S := by unfold wL'; rw [List.length_map, List.length_range]
theorem gL_get {S : ShT} {i : Nat} (h : i < gN S) : (gL' S).getD i 0 = gB S i := by
  unfold gL'; rw [List.getD_eq_getElem?_getD, List.getElem?_map, List.getElem?_range h]; rfl
theorem wL_get {S : ShT} {i : Nat} (h : i < wN S) : (wL' S).getD i 0 = wB S i := by
  unfold wL'; rw [List.getD_eq_getElem?_getD, List.getElem?_map, List.getElem?_range h]; rfl
theorem s_isSet {a : Int32} {Q : Int32 → Mem → Prop} (W : RX M m T) (hy : tOk T a → ∀ M', Frl m [43, 44, 51] [21, 22, 23, 24, 25, 26, 27, 28, 29, 30, 31, 32, 33] M M' → stX M' m (txW T a.toNatClampNeg) → (∀ l, l < qN T → a = nI (2 + l) → bR M' (m + 31) (stS (sh T) (qL T l))) → Q 1 M') (hn : ¬ tOk T a → Q 0 M) : CI G (d + 9) 241 [.ref m, .int a] M Q := by
  have q4 := W.q4
  have V := W.rs.2.1
  have g2 := V.g
  have w2 := V.w
  have t4 : ∀ a, (txW T a).length ≤ 400 := fun a => txW_4 V
  refine r_isSet W.1 (s_in (tOk T a) ?_ ⟨W.1, bnz (fun ok => ?_) (fun no => ⟨Or.inl rfl, hn no⟩)⟩)
  · unfold tOk
    rw [W.q, show (1 : Int32) = nI 1 from rfl, nI_add, Int32.toInt_toInt64, Int32.toInt_toInt64, nI_toIntN (by omega), ll_0]
    omega
  have hy := hy ok
  obtain ⟨k, hk, ek⟩ := asN (a := a) (N := 2 + qN T) ok.1 (by have := ok.2; omega)
  subst ek
  rw [nI_clamp (by omega)] at hy
  -- the text is copied
  have cp : ∀ (M1 : Mem), Frl m [43, 44, 51] [21, 22, 23, 24, 25, 26, 27, 28, 29, 30, 31, 32, 33] M M1 → (∀ l, l < qN T → nI k = nI (2 + l) → bR M1 (m + 31) (stS (sh T) (qL T l))) → vi M1 m 51 = nI (txW T k).length → (∀ i, i < (txW T k).length → (k = 0 → i < 200 ∧ vi M1 (m + 2) i = (txW T k).getD i 0) ∧ (k = 1 → i < 200 ∧ vi M1 (m + 3) i = (txW T k).getD i 0) ∧ (2 ≤ k → vi M1 (m + 30) i = (txW T k).getD i 0)) → At G (d + 9) 241 67 [(0, .ref m), (1, .int (nI k)), (2, .int (0 : Int32))] [] M1 (qI Q) := by
    intro M1 g1 tk e51 src
    have l4 := t4 k
    have key : ∀ (j i : Nat) (Mx : Mem), j + i = (txW T k).length → Frl m [] [33] M1 Mx → (∀ i', i' < i → vi Mx (m + 33) i' = (txW T k).getD i' 0) → At G (d + 9) 241 67 [(0, .ref m), (1, .int (nI k)), (2, .int (nI i))] [] Mx (qI Q) := by
      intro j
      induction j with
      | zero =>
        intro i Mx e gx hx
        have gg := g1.trans (gx.sub (F' := [43, 44, 51]) (L' := [21, 22, 23, 24, 25, 26, 27, 28, 29, 30, 31, 32, 33]) (by decide) (by decide))
        have e5 : vi Mx m 51 = nI (txW T k).length := by rw [gx.f (by decide) (by decide)]; exact e51
        refine r_isSet_67 (gg.ra W.1) ?_
        rw [e5, le_I (by omega) (by omega)]
        exact ⟨fun _ => ⟨Or.inr rfl, hy Mx gg ⟨e5, fun i' hi' => hx i' (by omega)⟩ (fun l hl el => (tk l hl el).fr (by funext z; exact gx.i (by decide) (by decide) z))⟩, fun z => absurd (by omega) z⟩
      | succ j ih =>
        intro i Mx e gx hx
        have gg := g1.trans (gx.sub (F' := [43, 44, 51]) (L' := [21, 22, 23, 24, 25, 26, 27, 28, 29, 30, 31, 32, 33]) (by decide) (by decide))
        have e5 : vi Mx m 51 = nI (txW T k).length := by rw [gx.f (by decide) (by decide)]; exact e51
        have sr := src i (by omega)
        have go : ∀ (M2 : Mem) (z : Int32), M2 = seti Mx (m + 33) i z → z = (txW T k).getD i 0 → At G (d + 9) 241 67 [(0, .ref m), (1, .int (nI k)), (2, .int (nI (i + 1)))] [] M2 (qI Q) := fun M2 z e2 ez => by
          refine ih (i + 1) M2 (by omega) (gx.trans (by rw [e2]; exact Frl.si (by decide))) (fun i' hi' => ?_)
          rw [e2, vi_seti]
          by_cases y : i' = i
          · rw [if_pos ⟨rfl, y⟩, ez, y]
          · rw [if_neg (fun q => y q.2)]; exact hx i' (by omega)
        refine r_isSet_67 (gg.ra W.1) ?_
        rw [e5, le_I (by omega) (by omega), nI_clamp (n := i) (by omega), nI_1, il_0, eq_I (a := k) (b := 0) (by omega) (by omega), show (1 : Int32) = nI 1 from rfl, eq_I (a := k) (b := 1) (by omega) (by omega)]
        have v4 : vp_in (nI i) 400 := vp_in_nI (by omega) (by omega)
        refine ⟨fun z => absurd z (by omega), fun _ => ⟨fun n0 => ⟨fun n1 => ⟨vp_in_nI (by omega) (by omega), v4, fun M2 e2 => go M2 _ e2 ?_⟩, fun y1 => ⟨vp_in_nI (by have := (sr.2.1 y1).1; omega) (by omega), v4, fun M2 e2 => go M2 _ e2 ?_⟩⟩, fun y0 => ⟨vp_in_nI (by have := (sr.1 y0).1; omega) (by omega), v4, fun M2 e2 => go M2 _ e2 ?_⟩⟩⟩
        · rw [gx.i (by decide) (by decide)]; exact sr.2.2 (by omega)
        · rw [gx.i (by decide) (by decide)]; exact (sr.2.1 y1).2
        · rw [gx.i (by decide) (by decide)]; exact (sr.1 y0).2
    exact key (txW T k).length 0 M1 rfl Frl.refl (fun i' hi' => absurd hi' (Nat.not_lt_zero i'))
  rw [show (1 : Int32) = nI 1 from rfl, le_I (by omega) (by omega), il_0, eq_I (by omega) (by omega), eq_I (by omega) (by omega)]
  refine ⟨fun c => ⟨fun n0 => ⟨fun n1 => absurd c (by omega), fun y1 => ⟨v13, fun M4 e4 => ?_⟩⟩, fun y0 => ⟨v03, fun M5 e5 => ?_⟩⟩, fun c => ?_⟩
  · subst y1
    have g4 : Frl m [51] [] M M4 := by rw [e4]; exact Frl.sf (by decide)
    have et : txW T 1 = wL' (sh T) := rfl
    refine cp M4 (g4.sub (by decide) (by decide)) (fun l hl el => by rw [eq_I (by omega) (by omega)] at el; omega) ?_ (fun i hi => ⟨fun z => by omega, fun _ => ?_, fun z => by omega⟩)
    · rw [e4, vi_seti, if_pos ⟨rfl, rfl⟩, et, wL_len]; exact W.rs.2.2.w
    · rw [et, wL_len] at hi
      rw [et, wL_get hi, g4.i (by decide) (by decide)]
      exact ⟨by omega, W.rs.2.2.wb hi⟩
  · subst y0
    have g5 : Frl m [51] [] M M5 := by rw [e5]; exact Frl.sf (by decide)
    have et : txW T 0 = gL' (sh T) := rfl
    refine cp M5 (g5.sub (by decide) (by decide)) (fun l hl el => by rw [eq_I (by omega) (by omega)] at el; omega) ?_ (fun i hi => ⟨fun _ => ?_, fun z => by omega, fun z => by omega⟩)
    · rw [e5, vi_seti, if_pos ⟨rfl, rfl⟩, et, gL_len]; exact W.rs.2.2.g
    · rw [et, gL_len] at hi
      rw [et, gL_get hi, g5.i (by decide) (by decide)]
      exact ⟨by omega, W.rs.2.2.gb hi⟩
  · rw [show (2 : Int32) = nI 2 from rfl, pk_sub (by omega)]
    refine s_makesOut W (by omega) (fun M6 g6 o6 t6 => ⟨g6.ra W.1, ?_⟩)
    have et : txW T k = ouT (sh T) (qL T (k - 2)) := by unfold txW; rw [if_neg (by omega), if_neg (by omega)]
    refine ⟨fun n0 => ⟨fun n1 M7 e7 => ?_, fun y1 => by omega⟩, fun y0 => by omega⟩
    have g7 : Frl m [51] [] M6 M7 := by rw [e7]; exact Frl.sf (by decide)
    refine cp M7 ((g6.sub (by decide) (by decide)).trans (g7.sub (by decide) (by decide))) (fun l hl el => ?_) ?_ (fun i hi => ⟨fun z => by omega, fun z => by omega, fun _ => ?_⟩)
    · rw [eq_I (by omega) (by omega)] at el
      rw [show l = k - 2 by omega]
      exact t6.fr (by funext z; exact g7.i (by decide) (by decide) z)
    · rw [e7, vi_seti, if_pos ⟨rfl, rfl⟩, et]; exact o6.1
    · rw [et] at hi ⊢
      rw [g7.i (by decide) (by decide)]; exact o6.2 i hi
theorem s_width {w : Int32} {Q : Int32 → Mem → Prop} (hq : Q (bI (wOk w)) M) : CI G (d + 1) 155 [.long (w.toInt64), .long (5 : Int64), .long (60 : Int64)] M Q := by
  refine s_in (wOk w) ?_ hq
  unfold wOk
  rw [Int32.toInt_toInt64, show (5 : Int64).toInt = 5 from rfl, show (60 : Int64).toInt = 60 from rfl]
theorem RX.sf (W : RX M m T) (g : Frl m [43, 44, 51] [21, 22, 23, 24, 25, 26, 27, 28, 29, 30, 31, 32, 33] M M') : RX M' m T := W.fr g (fun o ho => by simp; omega) (by decide)
theorem RX.lf (W : RX M m T) (g : Frl m [52] [34, 35] M M') : RX M' m T := W.fr g (fun o ho => by simp; omega) (by decide)
theorem lnS_len {w : Nat} (w1 : 1 ≤ w) : ∀ (f k : Nat) (acc : List LnT), acc.length ≤ k → acc.length ≤ t.length → k ≤ t.length + 1 → (lnS t w f acc k).length ≤ t.length
  | 0, k, acc, h, h2, hk => h2
  | f + 1, k, acc, h, h2, hk => by
    unfold lnS
    refine cif_el (φ := fun l : List LnT => l.length ≤ t.length) (fun c => ?_) (fun c => h2)
    have wl := wr_le (t := t) (k := k) (by omega)
    have key : (cif (wr t k = 0) acc (lnW w acc k (sg t k (wr t k)))).length ≤ k + wr t k := by
      refine cif_el (φ := fun l : List LnT => l.length ≤ k + wr t k) (fun _ => by omega) (fun n0 => ?_)
      have := lnW_len (w := w) (acc := acc) (a := k) (u := sg t k (wr t k)) w1 (sg_ne wl (by omega))
      have := sg_len wl
      omega
    exact lnS_len w1 f _ _ (by omega) (by omega) (by omega)
theorem lnL_le {w : Nat} (w1 : 1 ≤ w) : (lnL t w).length ≤ t.length := lnS_len w1 402 0 [] (Nat.le_refl _) (Nat.zero_le _) (by omega)
theorem lnL_len {w : Nat} (w1 : 1 ≤ w) (t4 : t.length ≤ 400) : (lnL t w).length ≤ 401 := by have := lnL_le (t := t) w1; omega
theorem m_lines {a w : Int32} {Q : Int32 → Mem → Prop} (W : RX M m T) (hq : ∀ M', RX M' m T → Ou m M M' → Q (f_lines T a w) M') : CI G (d + 10) 244 [.ref m, .int a, .int w] M Q := by
  unfold f_lines at hq
  have V := W.rs.2.1
  refine r_lines W.1 (s_width ⟨W.1, bz (fun cw => ?_) (fun cw => by rw [cif_F (fun z => cw z.1)] at hq; exact hq M W Ou.refl)⟩)
  refine s_isSet W (fun ok M1 g1 s1 _ => ⟨g1.ra W.1, fun _ => ?_, fun z => absurd z (by decide)⟩) (fun no => ⟨W.1, fun z => absurd rfl z, fun _ => by rw [cif_F (fun z => no z.2)] at hq; exact hq M W Ou.refl⟩)
  rw [cif_T ⟨cw, ok⟩] at hq
  obtain ⟨k, hk, ek⟩ := asN (a := w) (N := 61) (by have := cw.1; omega) (by have := cw.2; omega)
  subst ek
  unfold wOk at cw
  rw [nI_toIntN (by omega)] at cw
  rw [nI_clamp (n := k) (by omega)] at hq
  refine s_setsLines (g1.ra W.1) s1 (txW_4 V) (by omega) (by omega) (fun M2 g2 l2 => ⟨g2.ra (g1.ra W.1), ?_⟩)
  rw [l2.1]
  exact hq M2 ((W.sf g1).lf g2) ((g1.ou (by decide)).trans (g2.ou (by decide)))
theorem m_line {a w k h : Int32} {Q : Int32 → Mem → Prop} (W : RX M m T) (hq : ∀ M', RX M' m T → Ou m M M' → Q (f_line T a w k h) M') : CI G (d + 10) 245 [.ref m, .int a, .int w, .int k, .int h] M Q := by
  unfold f_line at hq
  have V := W.rs.2.1
  refine r_line W.1 (s_width ⟨W.1, bz (fun cw => ?_) (fun cw => by rw [cif_F (fun z => cw z.1)] at hq; exact hq M W Ou.refl)⟩)
  refine s_in (0 ≤ h.toInt ∧ h.toInt ≤ 1) ?_ ⟨W.1, bz (fun ch => ?_) (fun ch => by rw [cif_F (fun z => ch z.2.2.1)] at hq; exact hq M W Ou.refl)⟩
  · rw [Int32.toInt_toInt64, ll_0, show (1 : Int64).toInt = 1 from rfl]
  refine s_isSet W (fun ok M1 g1 s1 _ => ⟨g1.ra W.1, fun _ => ?_, fun z => absurd z (by decide)⟩) (fun no => ⟨W.1, fun z => absurd rfl z, fun _ => by rw [cif_F (fun z => no z.2.1)] at hq; exact hq M W Ou.refl⟩)
  obtain ⟨v, hv, ev⟩ := asN (a := w) (N := 61) (by have := cw.1; omega) (by have := cw.2; omega)
  have cw' := cw
  subst ev
  unfold wOk at cw'
  rw [nI_toIntN (by omega)] at cw'
  rw [nI_clamp (n := v) (by omega)] at hq
  refine s_setsLines (g1.ra W.1) s1 (txW_4 V) (by omega) (by omega) (fun M2 g2 l2 => ⟨g2.ra (g1.ra W.1), ?_⟩)
  have hq := hq M2 ((W.sf g1).lf g2) ((g1.ou (by decide)).trans (g2.ou (by decide)))
  have l4 := lnL_len (t := txW T a.toNatClampNeg) (w := v) (by omega) (txW_4 V)
  generalize lnL (txW T a.toNatClampNeg) v = ln at *
  rw [l2.1]
  refine s_in (0 ≤ k.toInt ∧ k.toInt < ln.length) ?_ ⟨g2.ra (g1.ra W.1), bnz (fun ck => ?_) (fun ck => by rw [cif_F (fun z => ck z.2.2.2)] at hq; exact hq)⟩
  · rw [Int32.toInt_toInt64, Int32.toInt_toInt64, ll_0, show (1 : Int32) = nI 1 from rfl, pk_sub_toInt (by omega) (by omega)]
    omega
  · rw [cif_T ⟨cw, ok, ch, ck⟩] at hq
    obtain ⟨j, hj, ej⟩ := asN ck.1 ck.2
    subst ej
    rw [nI_clamp (n := j) (by omega)] at hq ⊢
    have lj := l2.2 j hj
    rw [lj.1, lj.2]
    exact ⟨fun n => ⟨vp_in_nI (by omega) (by omega), by rw [cif_F n] at hq; exact hq⟩, fun y => ⟨vp_in_nI (by omega) (by omega), by rw [cif_T y] at hq; exact hq⟩⟩
end
