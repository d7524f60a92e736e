/-! MOVED: the class's search -/
section
variable {G : GT} {d : Nat} {M M' : Mem} {o a : Nat} {w : Nat → Nat} {S : ShT}
theorem k_searchM {Q : Mem → Prop} (O : ObAt 7 M o) (H : shE M a S) (V : okS S) (dj : a + 9 ≤ o) (g4 : gN S ≤ 24) (hq : ∀ M' n cur, Frl o [1, 2, 3, 4] [1, 2, 3, 4] M M' → encC M' o n cur → bs4 S (isT (gN S)) n cur → Q M') : CV G (d + 5) 67 [.ref o, .ref a, .int (nI (edC S))] M Q := by
  have w2 := V.w
  have gl : (gL' S).length = gN S := gL_len
  have eC := edC_le V
  have v07 : vp_in (0 : Int32) 7 := v_i (k := 0) (by decide) (by decide)
  refine c_X7_search O H.1 (fun M1 e1 M2 e2 M3 e3 M4 e4 => ?_)
  have gA : Frl o [1, 2, 3, 4] [1, 2, 3, 4] M M4 := by rw [e4, e3, e2, e1]; exact (Frl.sf (by decide)).trans ((Frl.sf (by decide)).trans ((Frl.sf (by decide)).trans (Frl.sf (by decide))))
  have en4 : encC M4 o (edC S) none := by
    refine ⟨?_, ?_, ?_, ?_⟩
    · rw [e4, vi_seti, if_neg (by omega), e3, vi_seti, if_neg (by omega), e2, vi_seti, if_neg (by omega), e1, vi_seti, if_pos ⟨rfl, rfl⟩]
    · rw [e4, vi_seti, if_neg (by omega), e3, vi_seti, if_neg (by omega), e2, vi_seti, if_pos ⟨rfl, rfl⟩]; rfl
    · rw [e4, vi_seti, if_neg (by omega), e3, vi_seti, if_pos ⟨rfl, rfl⟩]; rfl
    · rw [e4, vi_seti, if_pos ⟨rfl, rfl⟩]; rfl
  have H4 := H.fr gA dj
  have O4 := gA.ob O
  rw [H4.2.1, en4.1]
  refine ⟨fun z => absurd z (by rw [show (24 : Int32) = nI 24 from rfl, lt_I (by omega) (by omega)]; omega), fun _ => ⟨fun _ => ?_, fun z => ?_⟩⟩
  rotate_left
  · rw [il_0, eq_I (by omega) (by omega)] at z
    exact hq M4 (edC S) none gA en4 ⟨rfl, fun a b c _ => by omega⟩
  refine k_fillBehind O4 H4 V dj g4 (fun M5 g5 hB => ?_)
  have O5 := g5.ob O4
  have H5 := H4.fr g5 dj
  have en5 := en4.fr g5 (by decide)
  refine ⟨⟨O5, H5.1⟩, ?_⟩
  have g05 : Frl o [1, 2, 3, 4] [1, 2, 3, 4] M M5 := gA.trans (g5.sub (by decide) (by decide))
  generalize hN : gN S = N at *
  -- for each first PLACE
  have l92 : ∀ (r x n : Nat) (cur : Option (Nat × Nat × Nat)) (Mx : Mem), r + x = N → Frl o [1, 2, 3, 4] [2, 3, 4] M5 Mx → rwC Mx (o + 2) S ((gL' S).take x) → encC Mx o n cur → bs4 S (prc N x 0 0) n cur → At G (d + 5) 67 92 [(0, .ref o), (1, .ref a), (3, .int (nI N)), (4, .int (nI x))] [] Mx (qV Q) := by
    intro r
    induction r with
    | zero =>
      intro x n cur Mx e gx rx en hb
      have e : x = N := by omega
      subst e
      refine c_X7_search_92 (gx.ob O5) (H5.fr gx dj).1 ?_
      rw [le_I (by omega) (by omega)]
      refine ⟨fun _ => hq Mx n cur (g05.trans (gx.sub (by decide) (by decide))) en (bs4_i hb (fun p q s => ?_)), fun z => absurd (Nat.le_refl _) z⟩
      unfold prc isT lex3
      exact ⟨fun h => h.1, fun h => ⟨h, by omega⟩⟩
    | succ r ih =>
      intro x n cur Mx e gx rx en hb
      refine c_X7_search_92 (gx.ob O5) (H5.fr gx dj).1 ?_
      rw [le_I (by omega) (by omega), nI_1]
      refine ⟨fun z => absurd z (by omega), fun _ => ?_⟩
      -- for each second
      have l104 : ∀ (s y n : Nat) (cur : Option (Nat × Nat × Nat)) (My : Mem), s + y = N → x < y → Frl o [1, 2, 3, 4] [2, 3, 4] M5 My → rwC My (o + 2) S ((gL' S).take x) → encC My o n cur → bs4 S (prc N x y 0) n cur → At G (d + 5) 67 104 [(0, .ref o), (1, .ref a), (3, .int (nI N)), (4, .int (nI x)), (5, .int (nI y))] [] My (qV Q) := by
        intro s
        induction s with
        | zero =>
          intro y n cur My e2 xy gy ry en hb
          have e2 : y = N := by omega
          subst e2
          refine c_X7_search_104 (gy.ob O5) (H5.fr gy dj).1 ?_
          rw [le_I (by omega) (by omega), nI_1]
          refine ⟨fun _ => ?_, fun z => absurd (Nat.le_refl _) z⟩
          refine k_extend (t := 2) (gy.ob O5) (H5.fr gy dj) V dj (by omega) (by omega) (by rw [List.length_take]; omega) ry (fun M7 g7 r7 => ⟨⟨g7.ob (gy.ob O5), g7.ob (H5.fr gy dj).1⟩, ih (x + 1) n cur M7 (by omega) (gy.trans (g7.sub (by decide) (by decide))) ?_ (en.fr g7 (by decide)) (bs4_i hb (fun p q s => ?_))⟩)
          · rw [tk_s (by omega), gL_get (by omega)]; exact r7
          · unfold prc isT lex3
            exact ⟨fun h => ⟨h.1, by omega⟩, fun h => ⟨h.1, by omega⟩⟩
        | succ s ihs =>
          intro y n cur My e2 xy gy ry en hb
          refine c_X7_search_104 (gy.ob O5) (H5.fr gy dj).1 ?_
          rw [le_I (by omega) (by omega), nI_1 (a := y)]
          refine ⟨fun z => absurd z (by omega), fun _ M8 e8 => ?_⟩
          have e8 : M8 = cpi My (o + 2) 0 (o + 3) 0 201 := e8
          have g8 : Frl o [] [3] My M8 := by rw [e8]; exact Frl.cp (by decide)
          have r8 : rwC M8 (o + 3) S ((gL' S).take x) := by rw [e8]; exact cp_rw V ry
          -- for each third
          have l132 : ∀ (t z n : Nat) (cur : Option (Nat × Nat × Nat)) (Mz : Mem), t + z = N + 1 → y < z → Frl o [1, 2, 3, 4] [2, 3, 4] M5 Mz → rwC Mz (o + 2) S ((gL' S).take x) → rwC Mz (o + 3) S ((gL' S).take x ++ sl (gL' S) y (z - 1)) → encC Mz o n cur → bs4 S (prc N x y z) n cur → At G (d + 5) 67 132 [(0, .ref o), (1, .ref a), (3, .int (nI N)), (4, .int (nI x)), (5, .int (nI y)), (6, .int (nI z))] [] Mz (qV Q) := by
            intro t
            induction t with
            | zero =>
              intro z n cur Mz e3 yz gz rz r3 en hb
              have e3 : z = N + 1 := by omega
              subst e3
              refine c_X7_search_132 (gz.ob O5) (H5.fr gz dj).1 ?_
              rw [lt_I (by omega) (by omega), nI_1]
              refine ⟨fun _ => ihs (y + 1) n cur Mz (by omega) (by omega) gz rz en (bs4_i hb (fun p q s => ?_)), fun z => absurd (by omega) z⟩
              unfold prc isT lex3
              exact ⟨fun h => ⟨h.1, by omega⟩, fun h => ⟨h.1, by omega⟩⟩
            | succ t iht =>
              intro z n cur Mz e3 yz gz rz r3 en hb
              have Oz := gz.ob O5
              have Hz := H5.fr gz dj
              have sb := sl_len (l := gL' S) (i := y) (j := z - 1)
              refine c_X7_search_132 Oz Hz.1 ?_
              rw [lt_I (by omega) (by omega), show (1 : Int32) = nI 1 from rfl, pk_sub (by omega), nI_add (a := z)]
              refine ⟨fun q => absurd q (by omega), fun _ => ?_⟩
              refine k_extend (t := 3) Oz Hz V dj (by omega) (by omega) (by rw [List.length_append, List.length_take]; omega) r3 (fun M9 g9 r9 => ⟨⟨g9.ob Oz, g9.ob Hz.1⟩, ?_⟩)
              rw [List.append_assoc, ← gL_get (by omega), ← sl_s (l := gL' S) (by omega) (by omega), show z - 1 + 1 = z by omega] at r9
              have O9 := g9.ob Oz
              have H9 := Hz.fr g9 dj
              have B9 : bhd M9 o S := (hB.fr gz (by decide)).fr g9 (by decide)
              refine k_tryMoves O9 H9 V dj (by omega) xy yz (by omega) r9 B9 (en.fr g9 (by decide)) hb (fun p q s h => by rw [hN]; exact h.1) (P' := prc N x y (z + 1)) (fun p q s h => ?_) (fun p q s h => ?_) ?_ ?_ (fun M10 n' cur' g10 e10 b10 => ⟨⟨g10.ob O9, g10.ob H9.1⟩, ?_⟩)
              · unfold prc isT lex3 at h ⊢
                by_cases k1 : p = x ∧ q = y ∧ s = z
                · exact Or.inr (Or.inl k1)
                · by_cases k2 : p = y ∧ q = z ∧ s = x
                  · exact Or.inr (Or.inr k2)
                  · exact Or.inl ⟨h.1, by omega⟩
              · unfold prc isT lex3 at h ⊢; exact ⟨h.1, by omega⟩
              · unfold prc isT lex3; omega
              · unfold prc isT lex3; omega
              · refine iht (z + 1) n' cur' M10 (by omega) (by omega) (gz.trans ((g9.sub (by decide) (by decide)).trans (g10.sub (by decide) (by decide)))) ((rz.fr g9 (by decide) (by decide)).fr g10 (by decide) (by decide)) ?_ e10 b10
                rw [show z + 1 - 1 = z by omega]
                exact r9.fr g10 (by decide) (by decide)
          refine l132 (N - y) (y + 1) n cur M8 (by omega) (by omega) (gy.trans (g8.sub (by decide) (by decide))) (ry.fr g8 (by decide) (by decide)) ?_ (en.fr g8 (by decide)) (bs4_i hb (fun p q s => ?_))
          · rw [show y + 1 - 1 = y by omega, sl_0 (Nat.le_refl _), List.append_nil]; exact r8
          · unfold prc isT lex3
            exact ⟨fun h => ⟨h.1, by omega⟩, fun h => ⟨h.1, by omega⟩⟩
      refine l104 (N - (x + 1)) (x + 1) n cur Mx (by omega) (by omega) gx rx en (bs4_i hb (fun p q s => ?_))
      unfold prc isT lex3
      exact ⟨fun h => ⟨h.1, by omega⟩, fun h => ⟨h.1, by omega⟩⟩
  -- the row of what is put in alone
  have l50 : ∀ (k j : Nat) (Mx : Mem), k + j = wN S + 1 → Frl o [1, 2, 3, 4] [2, 3, 4] M5 Mx → encC Mx o (edC S) none → (∀ q, q < j → vi Mx (o + 2) q = nI (q * kc S 0)) → At G (d + 5) 67 50 [(0, .ref o), (1, .ref a), (3, .int (nI N)), (4, .int (nI j))] [] Mx (qV Q) := by
    intro k
    induction k with
    | zero =>
      intro j Mx e gx en hx
      have Hx := H5.fr gx dj
      refine c_X7_search_50 (gx.ob O5) Hx.1 ?_
      rw [Hx.2.2.1, lt_I (by omega) (by omega)]
      refine ⟨fun _ => l92 N 0 (edC S) none Mx rfl gx (fun q hq' => ?_) en ⟨rfl, fun p q s h => ?_⟩, fun z => absurd (by omega) z⟩
      · rw [hx q (by omega), List.take_zero]
        show _ = nI (((wL' S).take q).length * kc S 0)
        rw [List.length_take, wL_len, Nat.min_eq_left hq']
      · unfold prc isT lex3 at h; omega
    | succ k ih =>
      intro j Mx e gx en hx
      have Hx := H5.fr gx dj
      refine c_X7_search_50 (gx.ob O5) Hx.1 ?_
      rw [Hx.2.2.1, lt_I (by omega) (by omega), nI_clamp (n := j) (by omega), show (0 : Int32).toNatClampNeg = 0 from rfl, Hx.2.2.2.2.2 0 (by decide), pk_mul, nI_1]
      refine ⟨fun z => absurd z (by omega), fun _ => ⟨fun z => absurd z (nI_ge (a := j) (b := 201) (by omega) (by decide)), fun _ => ⟨v07, v_i (by omega) (by decide), fun M6 e6 => ?_⟩⟩⟩
      have g6 : Frl o [] [2] Mx M6 := by rw [e6]; exact Frl.si (by decide)
      refine ih (j + 1) M6 (by omega) (gx.trans (g6.sub (by decide) (by decide))) (en.fr g6 (by decide)) (fun q hq' => ?_)
      rw [e6, vi_seti]
      by_cases y : q = j
      · rw [if_pos ⟨rfl, y⟩, y]
      · rw [if_neg (fun z => y z.2)]; exact hx q (by omega)
  exact l50 (wN S + 1) 0 M5 rfl Frl.refl en5 (fun q hq' => absurd hq' (Nat.not_lt_zero q))
end
section
variable {G : GT} {d : Nat} {M M' : Mem} {x c : Nat} {w : Nat → Nat} {T : StT}
theorem k_moved {k : Int32} {Q : Int32 → Mem → Prop} (h : XC w M x T c) (hq : ∀ M', XC w M' x T c → Cu x M M' → Q (f_moved T k) M') : CI G (d + 6) 134 [.ref x, .int k] M Q := by
  unfold f_moved at hq
  have V := h.cs.2.1
  have g2 := V.g
  have cl := h.cl
  refine c_X11_moved h.1 ?_
  rw [fb_lt0, fa_lt, show (3 : Int32).toInt = 3 from rfl, h.cs.g, show (24 : Int32) = nI 24 from rfl, le_I (by omega) (by omega), h.ch]
  have no : ¬ ((0 ≤ k.toInt ∧ k.toInt ≤ 3) ∧ gN (sh T) ≤ 24) → Q (-1) M := fun n => by rw [cif_F n] at hq; exact hq M h Cu.refl
  refine ⟨fun z => no (fun y => by have := y.1.1; omega), fun z => ⟨fun z2 => no (fun y => by have := y.1.2; omega), fun z2 => ⟨fun g4 => ?_, fun g4 => no (fun y => g4 y.2)⟩⟩⟩
  rw [cif_T ⟨⟨by omega, by omega⟩, g4⟩] at hq
  have fin : ∀ (M1 : Mem), XC w M1 x T c → Cu x M M1 → isMvd (sh T) (vi M1 (x + 50) 1) (vi M1 (x + 50) 2) (vi M1 (x + 50) 3) (vi M1 (x + 50) 4) → ((k).toInt < 1 ∨ 3 < (k).toInt → Q (vi M1 (x + 50) 1) M1) ∧ ((k).toInt = 1 → Q (vi M1 (x + 50) 2) M1) ∧ ((k).toInt = 2 → Q (vi M1 (x + 50) 3) M1) ∧ ((k).toInt = 3 → Q (vi M1 (x + 50) 4) M1) ∧ True := fun M1 h1 u1 md => by
    have hq := hq M1 h1 u1
    rw [mv4_e md] at hq
    rw [fa_eq, fa_eq, fa_eq, show (0 : Int32).toInt = 0 from rfl, show (1 : Int32).toInt = 1 from rfl, show (2 : Int32).toInt = 2 from rfl] at hq
    refine ⟨fun y => ?_, fun y => ?_, fun y => ?_, fun y => ?_, trivial⟩
    · rw [cif_T (by omega)] at hq; exact hq
    · rw [cif_F (by omega), cif_T (by omega)] at hq; exact hq
    · rw [cif_F (by omega), cif_F (by omega), cif_T (by omega)] at hq; exact hq
    · rw [cif_F (by omega), cif_F (by omega), cif_F (by omega)] at hq; exact hq
  have cM := h.2.2.2.2.2.2.2.2.2.2.2.1
  refine ⟨fun e => fin M h Cu.refl (cM.2 e), fun _ => ?_⟩
  refine k_findEdit h (fun M1 h1 u1 f1 => ⟨h1.1, ?_⟩)
  rw [f1.1]
  refine k_searchM h1.1.2.2.2.2.2.2.2.2.2 h1.cs.shE V (by omega) g4 (fun M2 n cur g2' en hb => ?_)
  have X2 : XAt M2 x := h1.1.keep (fun b _ => by rw [g2'.2.2.1, g2'.2.2.2.1]; exact ⟨rfl, rfl⟩) (fun i _ => by rw [g2'.2.2.2.2.1])
  refine ⟨X2, fun M3 e3 => ?_⟩
  have ch2 : vi M2 x 13 = nI c := by rw [(g2'.2.2.2.2.2 x 13 (fun e => by omega) (fun i hi e => by simp at hi; omega)).1]; exact h1.ch
  rw [ch2] at e3
  have g3 : Frl (x + 50) [0, 1, 2, 3, 4] [1, 2, 3, 4] M1 M3 := (g2'.sub (by decide) (by decide)).trans (by rw [e3]; exact Frl.sf (by decide))
  have md : isMvd (sh T) (vi M3 (x + 50) 1) (vi M3 (x + 50) 2) (vi M3 (x + 50) 3) (vi M3 (x + 50) 4) := by
    rw [e3, vi_seti, vi_seti, vi_seti, vi_seti, if_neg (by omega), if_neg (by omega), if_neg (by omega), if_neg (by omega), en.1, en.2.1, en.2.2.1, en.2.2.2]
    exact bs4_d hb
  have sm : ∀ b, (∀ i, 50 ≤ i → i < 55 → b ≠ x + i) → vi M3 b = vi M1 b ∧ vl M3 b = vl M1 b := fun b hb => ⟨by funext k; exact (g3.2.2.2.2.2 b k (fun e => absurd e (hb 50 (by decide) (by decide))) (fun i hi => by rw [Nat.add_assoc]; simp at hi; exact hb _ (by omega) (by omega))).1, by funext k; exact (g3.2.2.2.2.2 b k (fun e => absurd e (hb 50 (by decide) (by decide))) (fun i hi => by rw [Nat.add_assoc]; simp at hi; exact hb _ (by omega) (by omega))).2⟩
  have s46 := (sm (x + 46) (fun i h1 h2 => by omega)).1
  have s47 := (sm (x + 46 + 1) (fun i h1 h2 => by omega)).1
  have s0 := (sm x (fun i h1 h2 => by omega)).1
  have h3 : XC w M3 x T c := by
    refine h1.fix g3.1 g3.2.2.1 g3.2.2.2.1 g3.2.2.2.2.1 (fun b _ h2 => sm b (fun i h3 h4 => h2 i (by omega) h4)) (fun k _ _ => by rw [s0]) ?_ ⟨?_, fun _ => md⟩ ?_
    · have z := h1.2.2.2.2.2.2.2.2.2.2.1
      unfold cEd at z ⊢
      rw [s46, s47]; exact z
    · rw [e3, vi_seti, if_pos ⟨rfl, rfl⟩, nI_toIntN (by omega)]; omega
    · have z := h1.2.2.2.2.2.2.2.2.2.2.2.2
      unfold cFw at z ⊢
      rw [s0]; exact z
  refine fin M3 h3 (u1.cu.cv ⟨fun b h4 h5 => ?_, g3.1, g3.2.1⟩) md
  have := sm b (fun i h6 h7 => by omega)
  exact ⟨⟨this.1, this.2, by rw [g3.2.2.2.2.1]⟩, by rw [g3.2.2.1], by rw [g3.2.2.2.1]⟩
end
