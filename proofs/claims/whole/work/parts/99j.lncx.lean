/-! LINES: the class's calls -/
section
variable {G : GT} {d : Nat} {M M' : Mem} {o b w : Nat} {t : List Int32} {acc A : List LnT} {a : Nat} {v : List Int32}
theorem hld_le {n : Nat} (h : (hld acc).length ≤ n) (e : acc = A ++ [(a, v)]) : (hld A).length + v.length ≤ n := by rw [e, hld_a, List.length_append] at h; exact h
theorem k_addWord {k n : Nat} {Q : Mem → Prop} (O : ObAt 4 M o) (tx : txA M b t) (hb : b ≠ o ∧ ∀ i ∈ [1, 2, 3, 4], b ≠ o + i) (t4 : t.length ≤ 400) (w5 : 5 ≤ w) (w6 : w ≤ 60) (n0 : 0 < n) (kn : k + n ≤ t.length) (h : lnK M o acc) (ak : acc.length ≤ k) (hk : acc ≠ [] → (hld acc).length + 1 ≤ k) (lb : ∀ x ∈ acc, x.2.length ≤ w) (hq : ∀ M', Frl o [0, 4] [1, 2, 3, 4] M M' → lnK M' o (lnW w acc k (sg t k n)) → Q M') : CV G (d + 3) 41 [.ref o, .ref b, .int (nI k), .int (nI (k + n)), .int (nI w)] M Q := by
  have h0 : (hld acc).length ≤ k := by
    by_cases z : acc = []
    · rw [z]; exact Nat.zero_le _
    · have := hk z; omega
  -- what is left, with what has been set
  have key : ∀ (f at' i : Nat) (acc' : List LnT) (u : List Int32) (Mx : Mem), u.length ≤ f → 0 < u.length → u = sg t at' (k + n - at') → k ≤ at' → at' + u.length = k + n → i ≤ at' → Frl o [0, 4] [1, 2, 3, 4] M Mx → lnK Mx o acc' → lnW w acc k (sg t k n) = (if w < u.length then lnC w f acc' at' u else lnJ w acc' at' u) → acc'.length ≤ at' → (∀ x ∈ acc', x.2.length ≤ w) → (hld acc').length ≤ at' → (acc' ≠ [] → (hld acc').length + 1 ≤ at' ∨ ∃ B x, acc' = B ++ [x] ∧ x.2.length = w) →
      At G (d + 3) 41 6 [(0, .ref o), (1, .ref b), (3, .int (nI (k + n))), (4, .int (nI w)), (5, .int (nI at')), (6, .int (nI i))] [] Mx (qV Q) := by
    intro f
    induction f with
    | zero => intro at' i acc' u Mx h1 h2; omega
    | succ f ih =>
      intro at' i acc' u Mx h1 h2 eu kat eat iat gx lx ew la lb' hl hj
      have Ox := gx.ob O
      have tx' := tx.fr gx hb
      have rest : k + n - at' = u.length := by omega
      -- a new line with all that is left
      have new : lnW w acc k (sg t k n) = acc' ++ [(at', u)] → CV G (d + 2) 42 [.ref o, .int (nI at')] Mx (fun M1 => ObAt 4 M1 o ∧ (CV G (d + 2) 43 [.ref o, .ref b, .int (nI at'), .int (nI (k + n))] M1 (fun M2 => ObAt 4 M2 o ∧ (Q M2)))) := fun e => by
        refine k_beginLine Ox lx (by omega) (fun M1 g1 l1 => ⟨g1.ob Ox, ?_⟩)
        refine k_addBytes (g1.ob Ox) (tx'.fr g1 hb) hb (by omega) kn t4 l1 (by omega) (by show (hld acc').length + 0 + _ ≤ 400; omega) (fun M2 g2 l2 => ⟨g2.ob (g1.ob Ox), hq M2 (gx.trans (g1.trans g2)) ?_⟩)
        rw [e, eu]; exact l2
      -- the end of the word
      have fin : ¬ w < u.length → ((vi Mx o 0 - 1 < 0 → CV G (d + 2) 42 [.ref o, .int (nI at')] Mx (fun M1 => ObAt 4 M1 o ∧ (CV G (d + 2) 43 [.ref o, .ref b, .int (nI at'), .int (nI (k + n))] M1 (fun M2 => ObAt 4 M2 o ∧ (Q M2))))) ∧ (¬ vi Mx o 0 - 1 < 0 → ((400 : Int32) ≤ vi Mx o 0 - 1 → CV G (d + 2) 42 [.ref o, .int (nI at')] Mx (fun M3 => ObAt 4 M3 o ∧ (CV G (d + 2) 43 [.ref o, .ref b, .int (nI at'), .int (nI (k + n))] M3 (fun M4 => ObAt 4 M4 o ∧ (Q M4))))) ∧ (¬ (400 : Int32) ≤ vi Mx o 0 - 1 → vp_in (vi Mx o 0 - 1) 400 ∧ ((nI w < vi Mx (o + 2) (vi Mx o 0 - 1).toNatClampNeg + 1 + nI (k + n) - nI at' → CV G (d + 2) 42 [.ref o, .int (nI at')] Mx (fun M5 => ObAt 4 M5 o ∧ (CV G (d + 2) 43 [.ref o, .ref b, .int (nI at'), .int (nI (k + n))] M5 (fun M6 => ObAt 4 M6 o ∧ (Q M6))))) ∧ (¬ nI w < vi Mx (o + 2) (vi Mx o 0 - 1).toNatClampNeg + 1 + nI (k + n) - nI at' → CV G (d + 2) 44 [.ref o, .int (32 : Int32)] Mx (fun M7 => ObAt 4 M7 o ∧ (CV G (d + 2) 43 [.ref o, .ref b, .int (nI at'), .int (nI (k + n))] M7 (fun M8 => ObAt 4 M8 o ∧ (Q M8))))))))) := fun nw => by
        rw [if_neg nw] at ew
        match acc', last_of (acc := acc'), lx, ew, la, lb', hl, hj, new with
        | [], _, lx, ew, la, lb', hl, hj, new =>
          have nn := new ew
          have e0 : vi Mx o 0 = nI 0 := lx.1
          have em : vi Mx o 0 - 1 = -1 := by rw [e0]; rfl
          rw [em]
          exact ⟨fun _ => nn, fun z => absurd (show (-1 : Int32) < 0 by decide) z⟩
        | y :: r, lo, lx, ew, la, lb', hl, hj, new =>
          obtain ⟨B, x, eB⟩ := lo (by simp)
          have hj := hj (by simp)
          rw [eB] at lx ew la lb' hl hj new
          obtain ⟨x1, x2⟩ := x
          have lB : (B ++ [(x1, x2)]).length = B.length + 1 := List.length_append
          rw [lB] at la
          have lh : (hld (B ++ [(x1, x2)])).length = (hld B).length + x2.length := by rw [hld_a, List.length_append]
          rw [lh] at hl hj
          have xl := lb' (x1, x2) (by simp)
          have xl : x2.length ≤ w := xl
          have e0 : vi Mx o 0 = nI (B.length + 1) := by rw [lx.1, lB]
          have ix : vi Mx o 0 - 1 = nI B.length := by rw [e0, show (1 : Int32) = nI 1 from rfl, pk_sub (by omega)]; congr 1
          have hx := lx.2.2.1 B.length (by omega)
          rw [gA_r] at hx
          have ej : lnJ w (B ++ [(x1, x2)]) at' u = if x2.length + 1 + u.length ≤ w then B ++ [(x1, x2 ++ 32 :: u)] else B ++ [(x1, x2)] ++ [(at', u)] := by
            unfold lnJ
            rw [List.getLast?_concat]
            dsimp only
            rw [List.dropLast_concat]
          rw [ej] at ew
          have ar : vi Mx (o + 2) (vi Mx o 0 - 1).toNatClampNeg + 1 + nI (k + n) - nI at' = nI (x2.length + 1 + u.length) := by
            rw [ix, nI_clamp (by omega), hx.2.1, nI_1, nI_add, pk_sub (by omega)]
            congr 1
            show x2.length + 1 + (k + n) - at' = _
            omega
          rw [ar, ix, lt_I (by omega) (by omega)]
          refine ⟨fun z => absurd z (nlt0 _ (by omega)), fun _ => ⟨fun z => absurd z (nI_ge (a := B.length) (b := 400) (by omega) (by decide)), fun _ => ⟨vp_in_nI (by omega) (by omega), fun lt => new (by rw [ew, if_neg (by omega)]), fun lt => ?_⟩⟩⟩
          rw [if_pos (by omega)] at ew
          have hj2 : (hld B).length + x2.length + 1 ≤ at' := by
            rcases hj with z | ⟨B', x', e', l'⟩
            · exact z
            · have := List.append_inj' e' rfl
              have e3 : (x1, x2) = x' := by simpa using this.2
              rw [← e3] at l'
              have l' : x2.length = w := l'
              omega
          refine k_addByte Ox lx (by omega) (by omega) (fun M1 g1 l1 => ⟨g1.ob Ox, ?_⟩)
          refine k_addBytes (g1.ob Ox) (tx'.fr g1 hb) hb (by omega) kn t4 l1 (by omega) (by rw [List.length_append]; show _ + (x2.length + 1) + _ ≤ 400; omega) (fun M2 g2 l2 => ⟨g2.ob (g1.ob Ox), hq M2 (gx.trans (g1.trans g2)) ?_⟩)
          rw [ew, eu]
          rw [List.append_assoc] at l2
          exact l2
      refine c_X4_addWord_6 Ox ?_
      rw [pk_sub (show at' ≤ k + n by omega), rest, le_I (a := u.length) (by omega) (by omega)]
      refine ⟨fun z => absurd z (nI_ge (a := i) (b := 400) (by omega) (by decide)), fun _ => ⟨fun c => fin (by omega), fun c => ?_⟩⟩
      rw [if_pos (by omega)] at ew
      have ew : lnW w acc k (sg t k n) = if w < u.length then lnC w f (acc' ++ [(at', u.take w)]) (at' + w) (u.drop w) else acc' ++ [(at', u)] := ew
      rw [if_pos (by omega)] at ew
      have dl' : (u.drop w).length = u.length - w := List.length_drop
      have tl : (u.take w).length = w := by rw [List.length_take]; omega
      have es : sg t at' w = u.take w := by
        rw [eu]; unfold sg; rw [List.take_take, Nat.min_eq_left (by omega)]
      have ed : u.drop w = sg t (at' + w) (k + n - (at' + w)) := by
        rw [eu, sg_drop (by omega)]; congr 1; omega
      refine k_beginLine Ox lx (by omega) (fun M1 g1 l1 => ⟨g1.ob Ox, ?_⟩)
      rw [nI_add, nI_1]
      refine k_addBytes (g1.ob Ox) (tx'.fr g1 hb) hb (by omega) (by omega) t4 l1 (by omega) (by show (hld acc').length + 0 + _ ≤ 400; omega) (fun M2 g2 l2 => ⟨g2.ob (g1.ob Ox), ?_⟩)
      rw [show at' + w - at' = w by omega, List.nil_append, es] at l2
      have nh : (hld (acc' ++ [(at', u.take w)])).length = (hld acc').length + w := by rw [hld_a, List.length_append, tl]
      refine ih (at' + w) (i + 1) (acc' ++ [(at', u.take w)]) (u.drop w) M2 (by omega) (by omega) ed (by omega) (by omega) (by omega) (gx.trans (g1.trans g2)) l2 ?_ (by rw [List.length_append]; show acc'.length + 1 ≤ _; omega) (fun x hx => ?_) (by omega) (fun _ => Or.inr ⟨acc', _, rfl, tl⟩)
      · rw [ew]
        by_cases c2 : w < (u.drop w).length
        · rw [if_pos c2]
        · rw [if_neg c2]
          have f1 : ∃ f', f = f' + 1 := ⟨f - 1, by omega⟩
          obtain ⟨f', ef⟩ := f1
          rw [ef]
          unfold lnC lnJ
          rw [if_neg c2, List.getLast?_concat]
          dsimp only
          rw [if_neg (by omega)]
      · rcases List.mem_append.mp hx with y | y
        · exact lb' x y
        · rw [List.mem_singleton.mp y]; show (u.take w).length ≤ w; omega
  have ul : (sg t k n).length = n := sg_len kn
  refine c_X4_addWord O (key 401 k 0 acc (sg t k n) M (by omega) (by omega) (by rw [show k + n - k = n by omega]) (Nat.le_refl _) (by omega) (Nat.zero_le _) Frl.refl h ?_ ak lb h0 (fun z => Or.inl (hk z)))
  rfl
theorem k_layOut {n : Nat} {Q : Mem → Prop} (O : ObAt 4 M o) (tx : txA M b t) (hb : b ≠ o ∧ ∀ i ∈ [1, 2, 3, 4], b ≠ o + i) (t4 : t.length ≤ 400) (en : n = t.length) (w5 : 5 ≤ w) (w6 : w ≤ 60) (hq : ∀ M', Frl o [0, 4] [1, 2, 3, 4] M M' → lnK M' o (lnL t w) → Q M') : CV G (d + 4) 40 [.ref o, .ref b, .int (nI n), .int (nI w)] M Q := by
  subst en
  have key : ∀ (f k : Nat) (acc : List LnT) (Mx : Mem), 402 ≤ f + k → k ≤ t.length + 1 → lnL t w = lnS t w f acc k → Frl o [0, 4] [1, 2, 3, 4] M Mx → lnK Mx o acc → acc.length ≤ k → (acc ≠ [] → (hld acc).length + 1 ≤ k) → (∀ x ∈ acc, x.2.length ≤ w) → At G (d + 4) 40 30 [(0, .ref o), (1, .ref b), (3, .int (nI w)), (4, .int (nI t.length)), (5, .int (-1 : Int32)), (6, .int (nI k))] [] Mx (qV Q) := by
    intro f
    induction f with
    | zero => intro k acc Mx e hk; omega
    | succ f ih =>
      intro k acc Mx e hk el gx lx lk hh lb
      have Ox := gx.ob O
      have tx' := tx.fr gx hb
      have el : lnL t w = cif (k < t.length) (lnS t w f (cif (wr t k = 0) acc (lnW w acc k (sg t k (wr t k)))) (k + wr t k + 1)) acc := el
      -- no word here
      have skip : ∀ lN : lnL t w = lnS t w f acc (k + 1), k ≤ t.length → At G (d + 4) 40 57 [(0, .ref o), (1, .ref b), (3, .int (nI w)), (4, .int (nI t.length)), (5, .int (-1 : Int32)), (6, .int (nI k))] [] Mx (qV Q) := fun lN kt => by
        refine c_X4_layOut_57 Ox (c_X4_layOut_58 Ox ⟨fun _ => c_X4_layOut_75 Ox ⟨fun z => absurd rfl z, fun _ => ⟨fun _ => c_X4_layOut_99 Ox ?_, fun z => absurd rfl z⟩⟩, fun z => absurd rfl z⟩)
        rw [nI_1]
        exact ih (k + 1) acc Mx (by omega) (by omega) lN gx lx (by omega) (fun z => by have := hh z; omega) lb
      refine c_X4_layOut_30 Ox ?_
      rw [lt_I (by omega) (by omega), le_I (by omega) (by omega)]
      refine ⟨fun z => ?_, fun z => ⟨fun z2 => ?_, fun z2 => ⟨tx'.1, vp_in_nI (by have := tx'.2.1; omega) (by have := tx'.2.2.1; omega), ?_⟩⟩⟩
      · rw [cif_F (by omega)] at el
        exact hq Mx gx (by rw [el]; exact lx)
      · have ek : k = t.length := by omega
        rw [cif_F (by omega)] at el
        refine c_X4_layOut_57 Ox (c_X4_layOut_58 Ox ⟨fun _ => c_X4_layOut_75 Ox ⟨fun z => absurd rfl z, fun _ => ⟨fun _ => c_X4_layOut_99 Ox (c_X4_layOut_30 Ox ?_), fun z => absurd rfl z⟩⟩, fun z => absurd rfl z⟩)
        rw [nI_1, lt_I (by omega) (by omega)]
        exact ⟨fun _ => hq Mx gx (by rw [el]; exact lx), fun z => absurd (by omega) z⟩
      · have kt : k < t.length := by omega
        rw [cif_T kt] at el
        rw [nI_clamp (by omega), tx'.2.2.2 k kt]
        refine ⟨fun c => skip ?_ (by omega), fun c => ?_⟩
        · have w0 : wr t k = 0 := run_n (P := fun i => ¬ t.getD i 0 = 32) (fun z => z.2 c)
          rw [w0, cif_T rfl] at el
          exact el
        · have wl := wr_le (t := t) (k := k) (by omega)
          have wy : wr t k = run (fun i => ¬ t.getD i 0 = 32) (k + 1) t.length + 1 := run_y (P := fun i => ¬ t.getD i 0 = 32) kt c
          have win : ∀ i, i < wr t k → ¬ t.getD (k + i) 0 = 32 := run_in (P := fun i => ¬ t.getD i 0 = 32) _ k rfl
          have wend : ¬ (k + wr t k < t.length ∧ ¬ t.getD (k + wr t k) 0 = 32) := run_end (P := fun i => ¬ t.getD i 0 = 32) _ k rfl
          have n0 : 0 < wr t k := by omega
          rw [cif_F (by omega)] at el
          generalize wr t k = n at *
          have ul : (sg t k n).length = n := sg_len wl
          -- the word's end
          have stop : At G (d + 4) 40 57 [(0, .ref o), (1, .ref b), (3, .int (nI w)), (4, .int (nI t.length)), (5, .int (nI k)), (6, .int (nI (k + n)))] [] Mx (qV Q) := by
            refine c_X4_layOut_57 Ox (c_X4_layOut_58 Ox ⟨fun _ => c_X4_layOut_75 Ox ⟨fun z => absurd rfl z, fun _ => ⟨fun z => absurd z (nI_neN1 (by omega)), fun _ => ?_⟩⟩, fun z => absurd rfl z⟩)
            refine k_addWord Ox tx' hb t4 w5 w6 n0 wl lx lk hh lb (fun M2 g2 l2 => ⟨g2.ob Ox, c_X4_layOut_99 (g2.ob Ox) ?_⟩)
            rw [nI_1]
            have ne := lnW_len (w := w) (acc := acc) (a := k) (u := sg t k n) (by omega) (sg_ne wl n0)
            refine ih (k + n + 1) _ M2 (by omega) (by omega) el (gx.trans g2) l2 (by omega) (fun _ => ?_) (lnW_lb lb)
            have h0 : (hld acc).length ≤ k := by
              by_cases z : acc = []
              · rw [z]; exact Nat.zero_le _
              · have := hh z; omega
            unfold lnW
            by_cases cw : w < (sg t k n).length
            · rw [if_pos cw]
              have := lnC_hl (w := w) 401 acc k (sg t k n)
              omega
            · rw [if_neg cw]
              have := lnJ_hl (w := w) (acc := acc) (a := k) (u := sg t k n)
              by_cases z : acc = []
              · rw [if_pos z] at this; omega
              · rw [if_neg z] at this
                have := hh z
                omega
          have l2 : ∀ (j i : Nat), j + i = n → 0 < i → At G (d + 4) 40 30 [(0, .ref o), (1, .ref b), (3, .int (nI w)), (4, .int (nI t.length)), (5, .int (nI k)), (6, .int (nI (k + i)))] [] Mx (qV Q) := by
            intro j
            induction j with
            | zero =>
              intro i ei i0
              have ei : i = n := by omega
              subst ei
              refine c_X4_layOut_30 Ox ?_
              rw [lt_I (by omega) (by omega), le_I (by omega) (by omega)]
              refine ⟨fun z => absurd z (by omega), fun _ => ⟨fun _ => stop, fun z2 => ⟨tx'.1, vp_in_nI (by have := tx'.2.1; omega) (by have := tx'.2.2.1; omega), ?_⟩⟩⟩
              rw [nI_clamp (by omega), tx'.2.2.2 _ (by omega)]
              exact ⟨fun _ => stop, fun y => absurd ⟨by omega, y⟩ wend⟩
            | succ j ihj =>
              intro i ei i0
              refine c_X4_layOut_30 Ox ?_
              rw [lt_I (by omega) (by omega), le_I (by omega) (by omega)]
              refine ⟨fun z => absurd z (by omega), fun _ => ⟨fun z => absurd z (by omega), fun z2 => ⟨tx'.1, vp_in_nI (by have := tx'.2.1; omega) (by have := tx'.2.2.1; omega), ?_⟩⟩⟩
              rw [nI_clamp (by omega), tx'.2.2.2 _ (by omega)]
              refine ⟨fun y => absurd y (win i (by omega)), fun _ => c_X4_layOut_58 Ox ⟨fun z => absurd z (by decide), fun _ => ⟨fun _ => c_X4_layOut_75 Ox ⟨fun _ => c_X4_layOut_99 Ox ?_, fun z => absurd z (by decide)⟩, fun z => absurd z (nI_neN1 (by omega))⟩⟩⟩
              rw [nI_1]
              exact ihj (i + 1) (by omega) (by omega)
          refine c_X4_layOut_58 Ox ⟨fun z => absurd z (by decide), fun _ => ⟨fun z => absurd rfl z, fun _ => c_X4_layOut_75 Ox ⟨fun _ => c_X4_layOut_99 Ox ?_, fun z => absurd z (by decide)⟩⟩⟩
          rw [nI_1]
          exact l2 (n - 1) 1 (by omega) (by omega)
  refine c_X4_layOut O (fun M1 e1 M2 e2 => ?_)
  have g2 : Frl o [0, 4] [1, 2, 3, 4] M M2 := by rw [e2, e1]; exact (Frl.sf (by decide)).trans (Frl.sf (by decide))
  have tx2 := tx.fr g2 hb
  have h1 := tx2.2.1
  have h2 := tx2.2.2.1
  have mn : (if (if (400 : Int32) < (nI (mA M2 b)) then (400 : Int32) else (nI (mA M2 b))) < nI t.length then (if (400 : Int32) < (nI (mA M2 b)) then (400 : Int32) else (nI (mA M2 b))) else nI t.length) = nI t.length := by
    by_cases c : (400 : Int32) < nI (mA M2 b)
    · rw [if_pos c, if_neg (by rw [show (400 : Int32) = nI 400 from rfl, lt_I (by omega) (by omega)]; omega)]
    · rw [if_neg c, if_neg (by rw [lt_I (by omega) (by omega)]; omega)]
  rw [mn, tx2.1]
  refine ⟨by decide, key 402 0 [] M2 (by omega) (Nat.zero_le _) rfl g2 ⟨?_, ?_, fun i hi => absurd hi (Nat.not_lt_zero i), fun j hj => absurd hj (Nat.not_lt_zero j)⟩ (Nat.le_refl _) (fun z => absurd rfl z) (fun x hx => by cases hx)⟩
  · rw [e2, vi_seti, if_neg (by omega), e1, vi_seti, if_pos ⟨rfl, rfl⟩]; rfl
  · rw [e2, vi_seti, if_pos ⟨rfl, rfl⟩]; rfl
end
section
variable {G : GT} {d : Nat} {M M' : Mem} {x c w o : Nat} {W : Nat → Nat} {T : StT}
/-- lines are scratch -/
theorem XC.lin (h : XC W M x T c) (g : Frl (x + o) [0, 4] [1, 2, 3, 4] M M') (ho : o = 36 ∨ o = 41) : XC W M' x T c := by
  have sm : ∀ a, a ≠ x + o → (∀ i ∈ [1, 2, 3, 4], a ≠ x + o + i) → same M M' a := fun a h1 h2 => ⟨by funext k; exact (g.2.2.2.2.2 a k (fun e => absurd e h1) h2).1, by funext k; exact (g.2.2.2.2.2 a k (fun e => absurd e h1) h2).2, by rw [g.2.2.2.2.1]⟩
  refine h.scrt (fun _ _ => rfl) (fun a _ => ⟨by rw [g.2.2.1], by rw [g.2.2.2.1], fun hn => sm a (fun e => hn o e (by unfold scr; omega)) (fun i hi e => hn (o + i) (by rw [e, Nat.add_assoc]) (by unfold scr; simp at hi; omega))⟩) (by rw [g.1]; exact Nat.le_refl _) (fun a ha => by rw [g.2.2.1]; exact h.2.1 a (by rw [← g.1]; exact ha)) (fun i _ => Or.inl (by rw [g.2.2.2.2.1])) ?_
  rw [(sm (x + 1) (by omega) (fun i hi => by simp at hi; omega)).1]
theorem Frl.lcu (g : Frl (x + o) [0, 4] [1, 2, 3, 4] M M') (ho : o = 36 ∨ o = 41) : Cu x M M' := by
  refine ⟨fun a h1 h2 => ⟨⟨by funext k; exact (g.2.2.2.2.2 a k (fun e => by omega) (fun i hi e => by simp at hi; omega)).1, by funext k; exact (g.2.2.2.2.2 a k (fun e => by omega) (fun i hi e => by simp at hi; omega)).2, by rw [g.2.2.2.2.1]⟩, by rw [g.2.2.1], by rw [g.2.2.2.1]⟩, by rw [g.1]; omega, by rw [g.2.1]; omega⟩
/-- as many cells as before -/
def Cv (x : Nat) (M M' : Mem) : Prop := (∀ a, x + 55 ≤ a → a < x + 101 → same M M' a ∧ mK M' a = mK M a ∧ mA M' a = mA M a) ∧ mN M' = mN M ∧ mS M' = mS M
theorem Frl.lcv (g : Frl (x + o) [0, 4] [1, 2, 3, 4] M M') (ho : o = 36 ∨ o = 41) : Cv x M M' := ⟨(g.lcu ho).1, g.1, g.2.1⟩
theorem Cu.cv {M'' : Mem} (h : Cu x M M') (h2 : Cv x M' M'') : Cu x M M'' := ⟨fun a h3 h4 => ⟨(h.1 a h3 h4).1.trans (h2.1 a h3 h4).1, (h2.1 a h3 h4).2.1.trans (h.1 a h3 h4).2.1, (h2.1 a h3 h4).2.2.trans (h.1 a h3 h4).2.2⟩, by rw [h2.2.1]; exact h.2.1, by rw [h2.2.2]; exact h.2.2⟩
theorem tx_g (h : XC W M x T c) : txA M (x + 3 + 1) (gL' (sh T)) := by
  have V := h.cs.2.1
  have g := V.g
  have O := h.1.2.2.1
  exact ⟨ob8_k0 O, by rw [ob8_l0 O, gL_len]; exact g, by rw [ob8_l0 O]; decide, fun i hi => by rw [gL_len] at hi; rw [gL_get hi]; exact h.cs.gb hi⟩
theorem tx_w (h : XC W M x T c) : txA M (x + 3 + 2) (wL' (sh T)) := by
  have V := h.cs.2.1
  have g := V.w
  have O := h.1.2.2.1
  exact ⟨ob8_k2 O, by rw [ob8_l2 O, wL_len]; exact g, by rw [ob8_l2 O]; decide, fun i hi => by rw [wL_len] at hi; rw [wL_get hi]; exact h.cs.wb hi⟩
theorem tx_o {l v : Nat} (ov : ObAt 10 M v) (vc : vCom M v (sh T) (qL T l)) : txA M (v + 3) (ouT (sh T) (qL T l)) := ⟨ob10_k2 ov, by rw [ob10_l2 ov]; exact ouT_4, by rw [ob10_l2 ov]; decide, vc.2⟩
theorem k_isWidth {w : Int32} {Q : Int32 → Mem → Prop} (hq : Q (bI (wOk w)) M) : CI G (d + 1) 146 [.int w] M Q := by
  refine c_X11_isWidth ?_
  rw [fa_lt, fa_lt, show (5 : Int32).toInt = 5 from rfl, show (60 : Int32).toInt = 60 from rfl]
  refine ⟨fun z => qF2 hq (fun y => by have := y.1; omega), fun z => ⟨fun z2 => qF2 hq (fun y => by have := y.2; omega), fun z2 => qT2 hq ⟨by omega, by omega⟩⟩⟩
theorem k_setLines {a w : Int32} {Q : Int32 → Mem → Prop} (h : XC W M x T c) (hy : wOk w → tOk T a → ∀ M', XC W M' x T c → Cu x M M' → lnK M' (x + 36) (lnL (txW T a.toNatClampNeg) w.toNatClampNeg) → Q 1 M') (hn : ¬ (wOk w ∧ tOk T a) → Q 0 M) : CI G (d + 7) 143 [.ref x, .int a, .int w] M Q := by
  have V := h.cs.2.1
  have q4 := h.2.2.1.2.2.2.1
  refine c_X11_setLines h.1 (k_isWidth ⟨h.1, bnz (fun cw => ?_) (fun cw => ⟨Or.inl rfl, hn (fun z => cw z.1)⟩)⟩)
  have hy := hy cw
  obtain ⟨v, hv, ev⟩ := asN (a := w) (N := 61) (by have := cw.1; omega) (by have := cw.2; omega)
  subst ev
  unfold wOk at cw
  rw [nI_toIntN (by omega)] at cw
  rw [nI_clamp (n := v) (by omega)] at hy
  have O36 : ∀ {M' : Mem}, XC W M' x T c → ObAt 4 M' (x + 36) := fun h' => h'.1.2.2.2.2.2.2.1
  have fin : ∀ (M1 M2 : Mem) (k : Nat), tOk T (nI k) → k < 100 → a = nI k → XC W M1 x T c → Cu x M M1 → Frl (x + 36) [0, 4] [1, 2, 3, 4] M1 M2 → lnK M2 (x + 36) (lnL (txW T k) v) → XAt M2 x ∧ (((1 : Int32) = 0 ∨ (1 : Int32) = 1) ∧ Q 1 M2) := fun M1 M2 k ok k1 ea h1 u1 g2 l2 => by
    have X2 := h1.lin g2 (Or.inl rfl)
    subst ea
    rw [nI_clamp (n := k) (by omega)] at hy
    exact ⟨X2.1, Or.inr rfl, hy ok M2 X2 (u1.cv (g2.lcv (Or.inl rfl))) l2⟩
  refine ⟨fun n0 => ⟨fun n1 => ⟨fun a2 => ?_, fun a2 => ⟨Or.inl rfl, hn (fun z => ?_)⟩⟩, fun y1 => ?_⟩, fun y0 => ?_⟩
  · rw [fa_le, show (2 : Int32).toInt = 2 from rfl] at a2
    by_cases ok : tOk T a
    · obtain ⟨k, hk, ek⟩ := asN (a := a) (N := 2 + qN T) ok.1 (by have := ok.2; omega)
      subst ek
      rw [nI_toIntN (by omega)] at a2
      rw [show (2 : Int32) = nI 2 from rfl, pk_sub (by omega)]
      refine k_composed h (fun n => absurd ⟨by rw [nI_toIntN (by omega)]; omega, by rw [nI_toIntN (by omega)]; omega⟩ n) (fun l er hl M1 u h1 u1 eu ou wu vs vc => ⟨h1.1, fun r4 e4 => ?_, fun e4 => (by cases e4)⟩)
      cases e4
      rw [eq_I (by omega) (by omega)] at er
      refine ⟨ou.1, fun r5 e5 => ⟨ou.1, ?_⟩, fun e5 => (by rw [ob10_r2 ou] at e5; cases e5)⟩
      have e5 : r5 = u + 3 := some_inj (ob10_r2 ou) e5
      subst e5
      rw [vc.1]
      have ow := h1.ow.1
      have nb : ∀ i, i < 5 → u + 3 ≠ x + 36 + i := fun i hi e => by
        have h1' := wu 3 (by decide)
        rw [e, Nat.add_assoc, ow (36 + i) (by omega) (by omega)] at h1'
        omega
      have et : txW T k = ouT (sh T) (qL T l) := by unfold txW; rw [if_neg (by omega), if_neg (by omega), show k - 2 = l by omega]
      refine k_layOut (O36 h1) (tx_o ou vc) ⟨nb 0 (by decide), fun i hi => nb i (by simp at hi; omega)⟩ ouT_4 rfl (by omega) (by omega) (fun M2 g2 l2 => fin M1 M2 k ok (by omega) rfl h1 u1 g2 (by rw [et]; exact l2))
    · refine k_composed h (fun _ => ⟨h.1, fun r4 e4 => (by cases e4), fun _ => ⟨Or.inl rfl, hn (fun z => ok z.2)⟩⟩) (fun l er hl M1 u h1 u1 eu ou wu vs vc => ?_)
      exfalso
      refine ok ⟨by omega, ?_⟩
      have ea : a = nI (l + 2) := by
        have : a - 2 + 2 = nI l + 2 := by rw [er]
        rw [Int32.sub_add_cancel] at this
        rw [this, show (2 : Int32) = nI 2 from rfl, nI_add]
      rw [ea, nI_toIntN (by omega)]
      omega
  · rw [fa_le, show (2 : Int32).toInt = 2 from rfl] at a2
    have := z.2.1
    rw [fa_eq, show (0 : Int32).toInt = 0 from rfl] at n0
    rw [fa_eq, show (1 : Int32).toInt = 1 from rfl] at n1
    omega
  · rw [h.cs.ww, ← wL_len]
    have ok : tOk T (nI 1) := ⟨by decide, by show (1 : Int) ≤ _; omega⟩
    exact k_layOut (O36 h) (tx_w h) ⟨by omega, fun i hi => by simp at hi; omega⟩ (txW_4 (a := 1) V) rfl (by omega) (by omega) (fun M2 g2 l2 => fin M M2 1 ok (by decide) y1 h Cu.refl g2 l2)
  · rw [h.cs.g, ← gL_len]
    have ok : tOk T (nI 0) := ⟨by decide, by show (0 : Int) ≤ _; omega⟩
    exact k_layOut (O36 h) (tx_g h) ⟨by omega, fun i hi => by simp at hi; omega⟩ (txW_4 (a := 0) V) rfl (by omega) (by omega) (fun M2 g2 l2 => fin M M2 0 ok (by decide) y0 h Cu.refl g2 l2)
theorem k_lines {a w : Int32} {Q : Int32 → Mem → Prop} (h : XC W M x T c) (hq : ∀ M', XC W M' x T c → Cu x M M' → Q (f_lines T a w) M') : CI G (d + 8) 128 [.ref x, .int a, .int w] M Q := by
  unfold f_lines at hq
  refine c_X11_lines h.1 (k_setLines h (fun cw ok M1 h1 u1 l1 => ⟨h1.1, fun z => absurd z (by decide), fun _ => ?_⟩) (fun n => ⟨h.1, fun _ => by rw [cif_F n] at hq; exact hq M h Cu.refl, fun z => absurd rfl z⟩))
  rw [cif_T ⟨cw, ok⟩] at hq
  rw [l1.1]; exact hq M1 h1 u1
theorem k_line {a w k e : Int32} {Q : Int32 → Mem → Prop} (h : XC W M x T c) (hq : ∀ M', XC W M' x T c → Cu x M M' → Q (f_line T a w k e) M') : CI G (d + 8) 129 [.ref x, .int a, .int w, .int k, .int e] M Q := by
  unfold f_line at hq
  have V := h.cs.2.1
  refine c_X11_line h.1 (k_setLines h (fun cw ok M1 h1 u1 l1 => ⟨h1.1, fun z => absurd z (by decide), fun _ => ?_⟩) (fun n => ⟨h.1, fun _ => by rw [cif_F (fun z => n ⟨z.1, z.2.1⟩)] at hq; exact hq M h Cu.refl, fun z => absurd rfl z⟩))
  have hq := hq M1 h1 u1
  have l4 : (lnL (txW T a.toNatClampNeg) w.toNatClampNeg).length ≤ 400 := by
    refine Nat.le_trans (lnL_le ?_) (txW_4 V)
    obtain ⟨v, hv, ev⟩ := asN (a := w) (N := 61) (by have := cw.1; omega) (by have := cw.2; omega)
    subst ev
    unfold wOk at cw
    rw [nI_toIntN (by omega)] at cw
    rw [nI_clamp (by omega)]; omega
  generalize lnL (txW T a.toNatClampNeg) w.toNatClampNeg = ln at *
  rw [l1.1, fb_lt0, fa_lt, nI_toIntN (by omega)]
  refine ⟨fun z => ?_, fun z => ⟨fun z2 => ?_, fun z2 => ?_⟩⟩
  · rw [cif_F (fun y => by have := y.2.2.2.1; omega)] at hq; exact hq
  · obtain ⟨j, hj, ej⟩ := asN (a := k) (N := ln.length) (by omega) z2
    subst ej
    rw [nI_clamp (n := j) (by omega)] at hq ⊢
    have lj := l1.2.2.1 j hj
    rw [lj.1, lj.2.1]
    refine ⟨fun n0 => ⟨fun n1 => ?_, fun y1 => ⟨vp_in_nI (by omega) (by omega), ?_⟩⟩, fun y0 => ⟨vp_in_nI (by omega) (by omega), ?_⟩⟩
    · rw [cif_F (fun y => ?_)] at hq; exact hq
      have := y.2.2.1
      rw [fa_eq, show (0 : Int32).toInt = 0 from rfl] at n0
      rw [fa_eq, show (1 : Int32).toInt = 1 from rfl] at n1
      omega
    · rw [cif_T ⟨cw, ok, by rw [y1]; decide, by omega, z2⟩, cif_F n0] at hq; exact hq
    · rw [cif_T ⟨cw, ok, by rw [y0]; decide, by omega, z2⟩, cif_T y0] at hq; exact hq
  · rw [cif_F (fun y => z2 y.2.2.2.2)] at hq; exact hq
end
