/-! CHANGED, RUN: the class -/
section
variable {t : List Int32} {w : Nat} {acc A B : List LnT} {a k : Nat} {u v : List Int32}
theorem hld_at : ∀ (A : List LnT) (k i : Nat), k < A.length → i < (A.getD k (0, [])).2.length → (hld (A.take k)).length + i < (hld A).length ∧ (hld A).getD ((hld (A.take k)).length + i) 0 = (A.getD k (0, [])).2.getD i 0
  | [], k, i, h, _ => absurd h (Nat.not_lt_zero k)
  | x :: A, 0, i, h, hi => by
    have hi : i < x.2.length := hi
    have e : hld (x :: A) = x.2 ++ hld A := by unfold hld; rw [List.flatMap_cons]
    show (0 : Nat) + i < _ ∧ (hld (x :: A)).getD (0 + i) 0 = x.2.getD i 0
    rw [Nat.zero_add, e, List.length_append, List.getD_eq_getElem?_getD, List.getD_eq_getElem?_getD, List.getElem?_append_left hi]
    exact ⟨by omega, rfl⟩
  | x :: A, k + 1, i, h, hi => by
    have ih := hld_at A k i (by rw [List.length_cons] at h; omega) hi
    have e : hld (x :: A) = x.2 ++ hld A := by unfold hld; rw [List.flatMap_cons]
    have e2 : hld ((x :: A).take (k + 1)) = x.2 ++ hld (A.take k) := by rw [List.take_succ_cons]; unfold hld; rw [List.flatMap_cons]
    rw [e, e2, List.length_append, List.length_append]
    refine ⟨by omega, ?_⟩
    rw [List.getD_eq_getElem?_getD, List.getElem?_append_right (by omega), show x.2.length + (hld (A.take k)).length + i - x.2.length = (hld (A.take k)).length + i by omega, ← List.getD_eq_getElem?_getD]
    exact ih.2
theorem lnW_hl (h : acc ≠ [] → (hld acc).length + 1 ≤ k) : (hld (lnW w acc k u)).length ≤ k + u.length := by
  have h0 : (hld acc).length ≤ k := by
    by_cases z : acc = []
    · rw [z]; exact Nat.zero_le _
    · have := h z; omega
  unfold lnW
  by_cases cw : w < u.length
  · rw [if_pos cw]
    have := lnC_hl (w := w) 401 acc k u
    omega
  · rw [if_neg cw]
    have := lnJ_hl (w := w) (acc := acc) (a := k) (u := u)
    by_cases z : acc = []
    · rw [if_pos z] at this; omega
    · rw [if_neg z] at this
      have := h z
      omega
theorem lnS_hl : ∀ (f k : Nat) (acc : List LnT), (acc ≠ [] → (hld acc).length + 1 ≤ k) → k ≤ t.length + 1 → (hld (lnS t w f acc k)).length ≤ t.length
  | 0, k, acc, h, hk => by
    show (hld acc).length ≤ _
    by_cases z : acc = []
    · rw [z]; exact Nat.zero_le _
    · have := h z; omega
  | f + 1, k, acc, h, hk => by
    unfold lnS
    refine cif_el (φ := fun l : List LnT => (hld l).length ≤ t.length) (fun c => ?_) (fun _ => ?_)
    · have wl := wr_le (t := t) (k := k) (by omega)
      have sl := sg_len wl
      refine lnS_hl f _ _ (fun _ => ?_) (by omega)
      refine cif_el (φ := fun l : List LnT => (hld l).length + 1 ≤ k + wr t k + 1) (fun _ => ?_) (fun _ => ?_)
      · by_cases z : acc = []
        · rw [z]; show 0 + 1 ≤ _; omega
        · have := h z; omega
      · have := lnW_hl (w := w) (u := sg t k (wr t k)) h; omega
    · by_cases z : acc = []
      · rw [z]; exact Nat.zero_le _
      · have := h z; omega
theorem lnL_hl : (hld (lnL t w)).length ≤ t.length := lnS_hl 402 0 [] (fun z => absurd rfl z) (by omega)
theorem l_ext {u v : List Int32} (h : u.length = v.length) (h2 : ∀ i, i < u.length → u.getD i 0 = v.getD i 0) : u = v := by
  refine List.ext_getElem h (fun i h3 h4 => ?_)
  have := h2 i h3
  rw [List.getD_eq_getElem?_getD, List.getD_eq_getElem?_getD, List.getElem?_eq_getElem h3, List.getElem?_eq_getElem h4] at this
  exact this
end
section
variable {G : GT} {d : Nat} {M M' : Mem} {o b : Nat} {A B : List LnT}
theorem lnK.i3 (h : lnK M o A) {k i : Nat} (hk : k < A.length) (hi : i < (A.getD k (0, [])).2.length) : vi M (o + 3) ((hld (A.take k)).length + i) = (A.getD k (0, [])).2.getD i 0 := by
  have := hld_at A k i hk hi
  rw [h.2.2.2 _ this.1]; exact this.2
theorem k_sameLine {k : Nat} {Q : Int32 → Mem → Prop} (O : ObAt 4 M o) (P : ObAt 4 M b) (hA : lnK M o A) (hB : lnK M b B) (a4 : A.length ≤ 400) (b4 : B.length ≤ 400) (ha : (hld A).length ≤ 400) (hb : (hld B).length ≤ 400) (k4 : k < 100000) (hq : Q (bI (¬ dif A B k)) M) : CI G (d + 1) 46 [.ref o, .ref b, .int (nI k)] M Q := by
  refine c_X4_sameLine O P ?_
  rw [hA.1, hB.1, le_I (by omega) (by omega), le_I (by omega) (by omega), nI_clamp (by omega)]
  refine ⟨fun z => absurd z (nlt0 _ (by omega)), fun _ => ⟨fun z => qF2 hq (fun y => y (fun q => by have := q.1; omega)), fun k1 => ⟨fun z => qF2 hq (fun y => y (fun q => by have := q.2.1; omega)), fun k2 => ⟨fun z => absurd z (nI_ge (a := k) (b := 400) (by omega) (by decide)), fun _ => ?_⟩⟩⟩⟩
  have k1 : k < A.length := by omega
  have k2 : k < B.length := by omega
  have vk : vp_in (nI k) 400 := vp_in_nI (by omega) (by omega)
  have lA := hA.2.2.1 k k1
  have lB := hB.2.2.1 k k2
  have iA := fun i (hi : i < (A.getD k (0, [])).2.length) => hld_at A k i k1 hi
  have iB := fun i (hi : i < (B.getD k (0, [])).2.length) => hld_at B k i k2 hi
  have tA : ∀ i, i < (A.getD k (0, [])).2.length → vi M (o + 3) ((hld (A.take k)).length + i) = (A.getD k (0, [])).2.getD i 0 := fun i hi => hA.i3 k1 hi
  have tB : ∀ i, i < (B.getD k (0, [])).2.length → vi M (b + 3) ((hld (B.take k)).length + i) = (B.getD k (0, [])).2.getD i 0 := fun i hi => hB.i3 k2 hi
  have sA : (A.getD k (0, [])).2.length ≤ 400 := by
    rcases Nat.eq_zero_or_pos (A.getD k (0, [])).2.length with z | z
    · omega
    · have := (iA ((A.getD k (0, [])).2.length - 1) (by omega)).1; omega
  have sB : (B.getD k (0, [])).2.length ≤ 400 := by
    rcases Nat.eq_zero_or_pos (B.getD k (0, [])).2.length with z | z
    · omega
    · have := (iB ((B.getD k (0, [])).2.length - 1) (by omega)).1; omega
  rw [show (¬ dif A B k) = ((A.getD k (0, [])).2 = (B.getD k (0, [])).2) from propext ⟨fun z => (Classical.byContradiction z).2.2, fun z y => y ⟨k1, k2, z⟩⟩] at hq
  rw [lA.2.1, lB.2.1, eq_I (by omega) (by omega)]
  refine ⟨vk, vk, fun el => ?_, fun ne => qF2 hq (fun z => ne (by rw [z]))⟩
  generalize (A.getD k (0, [])).2 = u at *
  generalize (B.getD k (0, [])).2 = v at *
  generalize (hld (A.take k)).length = p at *
  generalize (hld (B.take k)).length = q at *
  have key : ∀ j i, j + i = u.length → (∀ i', i' < i → u.getD i' 0 = v.getD i' 0) → At G (d + 1) 46 46 [(0, .ref o), (1, .ref b), (2, .int (nI k)), (3, .int (nI i))] [] M (qI Q) := by
    intro j
    induction j with
    | zero =>
      intro i e hi
      refine c_X4_sameLine_46 O P ?_
      rw [nI_clamp (n := k) (by omega), lA.2.1, le_I (by omega) (by omega)]
      exact ⟨vk, fun _ => qT2 hq (l_ext el (fun i' h' => hi i' (by omega))), fun z => absurd (by omega) z⟩
    | succ j ih =>
      intro i e hi
      have i1 := iA i (by omega)
      have i2 := iB i (by omega)
      refine c_X4_sameLine_46 O P ?_
      rw [nI_clamp (n := k) (by omega), lA.2.1, le_I (by omega) (by omega), lA.2.2, lB.2.2, nI_add, nI_add, nI_clamp (n := p + i) (by omega), nI_clamp (n := q + i) (by omega), tA i (by omega), tB i (by omega), nI_1]
      refine ⟨vk, fun z => absurd z (by omega), fun _ => ⟨vk, vk, fun z => absurd z (nlt0 _ (by omega)), fun _ => ⟨fun z => absurd z (nI_ge (a := p + i) (b := 400) (by omega) (by decide)), fun _ => ⟨fun z => absurd z (nlt0 _ (by omega)), fun _ => ⟨fun _ => ⟨vp_in_nI (by omega) (by omega), vp_in_nI (by omega) (by omega), fun eq => ih (i + 1) (by omega) (fun i' h' => ?_), fun ne => qF2 hq (fun z => ne (by rw [z]))⟩, fun z => absurd ?_ z⟩⟩⟩⟩⟩
      · by_cases y : i' = i
        · rw [y]; exact eq
        · exact hi i' (by omega)
      · rw [show (400 : Int32) = nI 400 from rfl, lt_I (by omega) (by omega)]; omega
  exact key u.length 0 rfl (fun i' h' => absurd h' (Nat.not_lt_zero i'))
theorem k_pagesUnlike {g : Nat} {Q : Int32 → Mem → Prop} (O : ObAt 4 M o) (P : ObAt 4 M b) (hA : lnK M o A) (hB : lnK M b B) (a4 : A.length ≤ 400) (b4 : B.length ≤ 400) (ha : (hld A).length ≤ 400) (hb : (hld B).length ≤ 400) (g1 : 1 ≤ g) (g6 : g ≤ 60) (hq : Q (nI (pg (dif A B) g (max A.length B.length)).1) M) : CI G (d + 2) 45 [.ref o, .ref b, .int (nI g)] M Q := by
  refine c_X4_pagesUnlike O P ⟨fun _ => ?_, fun z => absurd ?_ z⟩
  · have em : (if vi M o 0 < vi M b 0 then vi M b 0 else vi M o 0) = nI (max A.length B.length) := by
      rw [hA.1, hB.1]
      by_cases c : A.length < B.length
      · rw [if_pos (by rw [lt_I (by omega) (by omega)]; exact c), show max A.length B.length = B.length by omega]
      · rw [if_neg (by rw [lt_I (by omega) (by omega)]; exact c), show max A.length B.length = A.length by omega]
    rw [em]
    have cm : max A.length B.length ≤ 400 := by omega
    generalize max A.length B.length = n at *
    have key : ∀ j i, j + i = n → At G (d + 2) 45 28 [(0, .ref o), (1, .ref b), (2, .int (nI g)), (3, .int (nI (pg (dif A B) g i).1)), (4, .int (pg (dif A B) g i).2), (5, .int (nI n)), (6, .int (nI i))] [] M (qI Q) := by
      intro j
      induction j with
      | zero =>
        intro i e
        have e : i = n := by omega
        subst e
        refine c_X4_pagesUnlike_28 O P ?_
        rw [le_I (by omega) (by omega)]
        exact ⟨fun _ => hq, fun z => absurd (Nat.le_refl _) z⟩
      | succ j ih =>
        intro i e
        have nx := ih (i + 1) (by omega)
        refine c_X4_pagesUnlike_28 O P ?_
        rw [le_I (by omega) (by omega), nI_1, nI_1, pk_div (by omega) (by omega) (by omega)]
        have nz : ¬ nI g = 0 := nI_ne0 (by omega) (by omega)
        refine ⟨fun z => absurd z (by omega), fun _ => ⟨nz, fun eq => ?_, fun ne => ?_⟩⟩
        · rw [show pg (dif A B) g (i + 1) = pg (dif A B) g i by show cif _ _ _ = _; rw [cif_F (fun z => z.2 eq)]] at nx; exact nx
        · refine k_sameLine O P hA hB a4 b4 ha hb (by omega) ⟨⟨O, P⟩, bnz (fun y => ?_) (fun y => ⟨nz, ?_⟩)⟩
          · rw [show pg (dif A B) g (i + 1) = pg (dif A B) g i by show cif _ _ _ = _; rw [cif_F (fun z => y z.1)]] at nx; exact nx
          · rw [show pg (dif A B) g (i + 1) = ((pg (dif A B) g i).1 + 1, nI (i / g)) by show cif _ _ _ = _; rw [cif_T ⟨Classical.byContradiction y, ne⟩]] at nx; exact nx
    exact key n 0 rfl
  · rw [show (1 : Int32) = nI 1 from rfl, le_I (by omega) (by omega)]; exact g1
end
section
variable {G : GT} {d : Nat} {M M' : Mem} {x c w : Nat} {W : Nat → Nat} {T : StT}
theorem Cv.refl : Cv x M M := ⟨fun _ _ _ => ⟨same.refl, rfl, rfl⟩, rfl, rfl⟩
theorem k_unlikePages {l v g : Nat} {Q : Int32 → Mem → Prop} (h : XC W M x T c) (hl : l < qN T) (ov : ObAt 10 M v) (wv : ∀ i, i < 5 → W (v + i) = 30 + l) (vc : vCom M v (sh T) (qL T l)) (w5 : 5 ≤ w) (w6 : w ≤ 60) (g1 : 1 ≤ g) (g6 : g ≤ 60) (hq : ∀ M', XC W M' x T c → Cv x M M' → (∀ i, i < 36 → vi M' (x + i) = vi M (x + i)) → Q (nI (pg (dif (chA T w) (chB T l w)) g (chM T l w)).1) M') : CI G (d + 5) 144 [.ref x, .ref v, .int (nI w), .int (nI g)] M Q := by
  have V := h.cs.2.1
  have tA4 : (gL' (sh T)).length ≤ 400 := txW_4 (a := 0) V
  have ow := h.ow.1
  have nb : ∀ j i, j < 5 → i < 10 → v + j ≠ x + 36 + i := fun j i hj hi e => by
    have h1' := wv j hj
    rw [e, Nat.add_assoc, ow (36 + i) (by omega) (by omega)] at h1'
    omega
  refine c_X11_unlikePages h.1 ?_
  rw [h.cs.g, ← gL_len]
  refine k_layOut h.1.2.2.2.2.2.2.1 (tx_g h) ⟨by omega, fun i hi => by simp at hi; omega⟩ tA4 rfl w5 w6 (fun M1 g1' l1 => ?_)
  have X1 := h.lin g1' (Or.inl rfl)
  have ov1 := g1'.ob ov
  have sm : ∀ j, j < 5 → vi M1 (v + j) = vi M (v + j) := fun j hj => by funext k; exact (g1'.2.2.2.2.2 (v + j) k (fun e => absurd e (nb j 0 hj (by decide))) (fun i hi => nb j i hj (by simp at hi; omega))).1
  have vc1 : vCom M1 v (sh T) (qL T l) := ⟨by rw [show vi M1 v = vi M v from sm 0 (by decide)]; exact vc.1, fun i hi => by rw [sm 3 (by decide)]; exact vc.2 i hi⟩
  refine ⟨X1.1, ov1.1, fun r2 e2 => ⟨ov1.1, ?_⟩, fun e2 => (by rw [ob10_r2 ov1] at e2; cases e2)⟩
  have e2 : r2 = v + 3 := some_inj (ob10_r2 ov1) e2
  subst e2
  rw [vc1.1]
  refine k_layOut X1.1.2.2.2.2.2.2.2.1 (tx_o ov1 vc1) ⟨fun e => nb 3 5 (by decide) (by decide) (by omega), fun i hi e => nb 3 (5 + i) (by decide) (by simp at hi; omega) (by omega)⟩ ouT_4 rfl w5 w6 (fun M2 g2 l2 => ?_)
  have X2 := X1.lin g2 (Or.inr rfl)
  have l1 : lnK M1 (x + 36) (chA T w) := l1
  have sm2 : ∀ j, j < 5 → vi M2 (x + 36 + j) = vi M1 (x + 36 + j) := fun j hj => by funext k; exact (g2.2.2.2.2.2 _ k (fun e => by omega) (fun i hi e => by simp at hi; omega)).1
  have l12 : lnK M2 (x + 36) (chA T w) := by
    refine ⟨?_, ?_, fun i hi => ?_, fun j hj => ?_⟩
    · rw [show vi M2 (x + 36) = vi M1 (x + 36) from sm2 0 (by decide)]; exact l1.1
    · rw [show vi M2 (x + 36) = vi M1 (x + 36) from sm2 0 (by decide)]; exact l1.2.1
    · rw [sm2 1 (by decide), sm2 2 (by decide), sm2 4 (by decide)]; exact l1.2.2.1 i hi
    · rw [sm2 3 (by decide)]; exact l1.2.2.2 j hj
  refine ⟨X2.1, k_pagesUnlike X2.1.2.2.2.2.2.2.1 X2.1.2.2.2.2.2.2.2.1 l12 l2 (Nat.le_trans (lnL_le (by omega)) tA4) (Nat.le_trans (lnL_le (by omega)) ouT_4) (Nat.le_trans lnL_hl tA4) (Nat.le_trans lnL_hl ouT_4) g1 g6 ⟨X2.1, ?_⟩⟩
  have c1 : Cv x M M1 := g1'.lcv (Or.inl rfl)
  have c2 : Cv x M1 M2 := g2.lcv (Or.inr rfl)
  refine hq M2 X2 ⟨fun a h3 h4 => ⟨(c1.1 a h3 h4).1.trans (c2.1 a h3 h4).1, (c2.1 a h3 h4).2.1.trans (c1.1 a h3 h4).2.1, (c2.1 a h3 h4).2.2.trans (c1.1 a h3 h4).2.2⟩, c2.2.1.trans c1.2.1, c2.2.2.trans c1.2.2⟩ (fun i hi => ?_)
  funext k
  rw [(g2.2.2.2.2.2 (x + i) k (fun e => by omega) (fun j hj e => by simp at hj; omega)).1, (g1'.2.2.2.2.2 (x + i) k (fun e => by omega) (fun j hj e => by simp at hj; omega)).1]
theorem k_changed {r v : Int32} {Q : Int32 → Mem → Prop} (h : XC W M x T c) (hq : ∀ M', XC W M' x T c → Cu x M M' → Q (f_changed T r v) M') : CI G (d + 7) 130 [.ref x, .int r, .int v] M Q := by
  unfold f_changed at hq
  have q4 := h.2.2.1.2.2.2.1
  refine c_X11_changed h.1 (k_composed h (fun n => ⟨h.1, fun r2 er => (by cases er), fun _ => ?_⟩) (fun l er hl M1 u h1 u1 ev ov wv vs vc => ⟨h1.1, fun r2 e2 => ?_, fun e2 => (by cases e2)⟩))
  · rw [cif_F (fun z => n z.1)] at hq; exact hq M h Cu.refl
  · cases e2
    subst er
    have lw : lwOk T (nI l) := by unfold lwOk; rw [nI_toIntN (by omega)]; omega
    refine k_isWidth ⟨h1.1, bnz (fun cw => ?_) (fun cw => by rw [cif_F (fun z => cw z.2)] at hq; exact hq M1 h1 u1)⟩
    rw [cif_T ⟨lw, cw⟩] at hq
    obtain ⟨w, hw, ew⟩ := asN (a := v) (N := 61) (by have := cw.1; omega) (by have := cw.2; omega)
    subst ew
    unfold wOk at cw
    rw [nI_toIntN (by omega)] at cw
    rw [nI_clamp (n := w) (by omega), nI_clamp (n := l) (by omega)] at hq
    exact k_unlikePages (g := 1) h1 hl ov wv vc (by omega) (by omega) (by decide) (by decide) (fun M2 h2 u2 _ => ⟨h2.1, hq M2 h2 (u1.cv u2)⟩)
theorem k_run {r v g : Int32} {Q : Int32 → Mem → Prop} (h : XC W M x T c) (hq : ∀ M', XC W M' x T c → Cu x M M' → Q (f_run T r v g) M') : CI G (d + 7) 131 [.ref x, .int r, .int v, .int g] M Q := by
  unfold f_run at hq
  have q4 := h.2.2.1.2.2.2.1
  refine c_X11_run h.1 (k_composed h (fun n => ⟨h.1, fun r2 er => (by cases er), fun _ => ?_⟩) (fun l er hl M1 u h1 u1 ev ov wv vs vc => ⟨h1.1, fun r2 e2 => ?_, fun e2 => (by cases e2)⟩))
  · rw [cif_F (fun z => n z.1)] at hq; exact hq M h Cu.refl
  · cases e2
    subst er
    have lw : lwOk T (nI l) := by unfold lwOk; rw [nI_toIntN (by omega)]; omega
    refine k_isWidth ⟨h1.1, bz (fun cw => ?_) (fun cw => by rw [cif_F (fun z => cw z.2.1)] at hq; exact hq M1 h1 u1)⟩
    rw [fa_lt, fa_le, show (1 : Int32).toInt = 1 from rfl, show (60 : Int32).toInt = 60 from rfl]
    refine ⟨fun z => by rw [cif_F (fun y => by have := y.2.2.1; omega)] at hq; exact hq M1 h1 u1, fun z => ⟨fun z2 => ?_, fun z2 => by rw [cif_F (fun y => z2 y.2.2.2)] at hq; exact hq M1 h1 u1⟩⟩
    rw [cif_T ⟨lw, cw, by omega, z2⟩] at hq
    obtain ⟨w, hw, ew⟩ := asN (a := v) (N := 61) (by have := cw.1; omega) (by have := cw.2; omega)
    subst ew
    obtain ⟨b, hb, eb⟩ := asN (a := g) (N := 61) (by omega) (by omega)
    subst eb
    unfold wOk at cw
    rw [nI_toIntN (by omega)] at cw z z2
    rw [nI_clamp (n := w) (by omega), nI_clamp (n := l) (by omega), nI_clamp (n := b) (by omega)] at hq
    exact k_unlikePages h1 hl ov wv vc (by omega) (by omega) (by omega) (by omega) (fun M2 h2 u2 _ => ⟨h2.1, hq M2 h2 (u1.cv u2)⟩)
end
