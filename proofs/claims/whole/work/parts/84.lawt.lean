/-! LAW: the reference's call -/
theorem seti_same {M : Mem} {a i : Nat} {v : Int32} (h : v = vi M a i) : seti M a i v = M := by
  subst h
  show (mN M, mS M, mK M, mA M, up2 (vi M) a i (vi M a i), vl M, vr M) = M
  have : up2 (vi M) a i (vi M a i) = vi M := by
    funext b j
    unfold up2
    by_cases y : b = a ∧ j = i
    · rw [if_pos y, y.1, y.2]
    · rw [if_neg y]
  rw [this]
  rfl
/-- what a clause adds -/
def clOk (cd : List Nat) (n : Nat) (S F : Nat × LxT) : Prop := F.1 = 0 → ∃ e1 e2, S.2.2.1 = cd ++ e1 ∧ F.2.2.1 = cd ++ e1 ++ e2 ∧ tcL e1 [] = some [false] ∧ (e2 = [] ∨ tcL e2 [] = some [true]) ∧ cnV e1 + cnV e2 + n ≤ F.2.2.2
theorem pCl_ok {t : TpT} {i q n : Nat} {cd : List Nat} : clOk cd n (clS' t q cd n) (pCl t i q cd n) := by
  unfold pCl
  refine cif_el (φ := clOk cd n (clS' t q cd n)) (fun _ => ?_) (fun _ z => absurd z (flt_ne _ _))
  refine cif_el (φ := clOk cd n (clS' t q cd n)) (fun _ z => absurd z (flt_ne _ _)) (fun _ => ?_)
  have v : emt cd n [] [false] (clS' t q cd n) := pSm_emt
  refine bnd_el (φ := clOk cd n (clS' t q cd n)) (fun z y => absurd y z) (fun z => ?_)
  obtain ⟨e1, a1, a2, a3⟩ := v z
  refine cif_el (φ := clOk cd n (clS' t q cd n)) (fun _ y => ?_) (fun _ _ => ⟨e1, [], a1, by rw [List.append_nil]; exact a1, a2 [], Or.inl rfl, by show cnV e1 + 0 + n ≤ (clS' t q cd n).2.2.2; omega⟩)
  obtain ⟨e2, b1, b2, b3⟩ := pX_emt (t := t) 1700 1 0 (skB t ((clS' t q cd n).2.1 + 2)) (clS' t q cd n).2.2.1 (clS' t q cd n).2.2.2 y
  exact ⟨e1, e2, a1, by rw [← a1]; exact b1, a2 [], Or.inr (b2 []), by unfold pTst; omega⟩
theorem pCl_rom {t : TpT} {i q n : Nat} {cd : List Nat} (t4 : t.1 ≤ 400) (q4 : q ≤ t.1) (n6 : n ≤ 60) : rom t q cd n 0 (pCl t i q cd n) := by
  have fl : ∀ c, c < 8 → rom t q cd n 0 (flt q c, q, cd, n) := fun c hc => ⟨flt_lt (by omega) hc, fun z => absurd z (flt_ne _ _)⟩
  unfold pCl
  refine cif_el (φ := rom t q cd n 0) (fun c => ?_) (fun _ => fl 0 (by omega))
  refine cif_el (φ := rom t q cd n 0) (fun _ => fl 4 (by omega)) (fun _ => ?_)
  have lw := wl_of c
  have l6 : wSt.length = 6 := rfl
  have wq := wl_le q4
  have sk6 := skB_le (t := t) (p := q + 6) (by omega)
  have v : rom t (skB t (q + 6)) cd n 3 (clS' t q cd n) := pSm_rom t4 sk6.2 n6
  refine bnd_el (φ := rom t q cd n 0) (fun z => ⟨v.1, fun y => absurd y z⟩) (fun z => ?_)
  have v2 := v.2 z
  refine cif_el (φ := rom t q cd n 0) (fun c2 => ?_) (fun _ => ⟨by show 0 < _; omega, fun _ => ?_⟩)
  · have lw2 := wl_of c2
    have l2 : wIf.length = 2 := rfl
    have wq2 := wl_le v2.2.1
    have sk2 := skB_le (t := t) (p := (clS' t q cd n).2.1 + 2) (by omega)
    have r : rom t (skB t ((clS' t q cd n).2.1 + 2)) (clS' t q cd n).2.2.1 (clS' t q cd n).2.2.2 (rmK 1) (pTst t (skB t ((clS' t q cd n).2.1 + 2)) (clS' t q cd n).2.2.1 (clS' t q cd n).2.2.2) := pX_rom t4 _ _ _ _ _ _ sk2.2 v2.2.2.1
    refine ⟨r.1, fun y => ?_⟩
    have r2 := r.2 y
    omega
  · show q ≤ (clS' t q cd n).2.1 ∧ (clS' t q cd n).2.1 ≤ t.1 ∧ (clS' t q cd n).2.2.2 ≤ 60 ∧ 6 * n + q + 3 * (clS' t q cd n).2.2.1.length + 0 ≤ 6 * (clS' t q cd n).2.2.2 + (clS' t q cd n).2.1 + 3 * cd.length
    omega
/-- clauses read so far -/
def okA (cd : List Nat) (acc : List (Nat × Nat)) : Prop := acc.length ≤ 12 ∧ cBeg (cd, acc) acc.length = cd.length ∧
  ∀ i, i < acc.length → cBeg (cd, acc) i ≤ cSum (cd, acc) i ∧ cSum (cd, acc) i ≤ cEnd (cd, acc) i ∧ cEnd (cd, acc) i ≤ cd.length ∧ tcL (seg cd (cBeg (cd, acc) i) (cSum (cd, acc) i)) [] = some [false] ∧ (cSum (cd, acc) i = cEnd (cd, acc) i ∨ tcL (seg cd (cSum (cd, acc) i) (cEnd (cd, acc) i)) [] = some [true])
theorem okA.nil : okA [] [] := ⟨by decide, rfl, fun i hi => absurd hi (Nat.not_lt_zero i)⟩
theorem cBeg_app {cd cd' : List Nat} {acc : List (Nat × Nat)} {x : Nat × Nat} {i : Nat} (h : i ≤ acc.length) : cBeg (cd', acc ++ [x]) i = cBeg (cd, acc) i := by
  cases i with
  | zero => rfl
  | succ i => show ((acc ++ [x]).getD i (0, 0)).2 = (acc.getD i (0, 0)).2; rw [gA_l (by omega)]
theorem seg_mid {a b c : List Nat} : seg (a ++ b ++ c) a.length (a.length + b.length) = b := by
  unfold seg
  rw [List.append_assoc, List.drop_left, Nat.add_sub_cancel_left, List.take_left]
theorem okA.add {cd e1 e2 : List Nat} {acc : List (Nat × Nat)} (h : okA cd acc) (l : acc.length < 12) (h1 : tcL e1 [] = some [false]) (h2 : e2 = [] ∨ tcL e2 [] = some [true]) : okA (cd ++ e1 ++ e2) (acc ++ [((cd ++ e1).length, (cd ++ e1 ++ e2).length)]) := by
  have e0 : (acc ++ [((cd ++ e1).length, (cd ++ e1 ++ e2).length)]).length = acc.length + 1 := List.length_append
  refine ⟨by omega, ?_, fun i hi => ?_⟩
  · rw [e0]
    show ((acc ++ [((cd ++ e1).length, (cd ++ e1 ++ e2).length)]).getD acc.length (0, 0)).2 = _
    rw [gA_r]
  · rw [e0] at hi
    have L1 : (cd ++ e1).length = cd.length + e1.length := List.length_append
    have L2 : (cd ++ e1 ++ e2).length = cd.length + e1.length + e2.length := by rw [List.length_append, L1]
    rcases Nat.lt_or_ge i acc.length with u | u
    · have z := h.2.2 i u
      have s1 : cSum (cd ++ e1 ++ e2, acc ++ [((cd ++ e1).length, (cd ++ e1 ++ e2).length)]) i = cSum (cd, acc) i := by unfold cSum; dsimp only; rw [gA_l u]
      have s2 : cEnd (cd ++ e1 ++ e2, acc ++ [((cd ++ e1).length, (cd ++ e1 ++ e2).length)]) i = cEnd (cd, acc) i := by unfold cEnd; dsimp only; rw [gA_l u]
      rw [s1, s2, cBeg_app (cd := cd) (Nat.le_of_lt u), List.append_assoc cd, seg_app (by omega) z.1, seg_app (by omega) z.2.1]
      exact ⟨z.1, z.2.1, by rw [List.length_append]; omega, z.2.2.2⟩
    · have ei : i = acc.length := by omega
      subst ei
      have s0 : cBeg (cd ++ e1 ++ e2, acc ++ [((cd ++ e1).length, (cd ++ e1 ++ e2).length)]) acc.length = cd.length := by rw [cBeg_app (cd := cd) (Nat.le_refl _)]; exact h.2.1
      have s1 : cSum (cd ++ e1 ++ e2, acc ++ [((cd ++ e1).length, (cd ++ e1 ++ e2).length)]) acc.length = cd.length + e1.length := by unfold cSum; dsimp only; rw [gA_r]; exact L1
      have s2 : cEnd (cd ++ e1 ++ e2, acc ++ [((cd ++ e1).length, (cd ++ e1 ++ e2).length)]) acc.length = cd.length + e1.length + e2.length := by unfold cEnd; dsimp only; rw [gA_r]; exact L2
      rw [s0, s1, s2]
      refine ⟨by omega, by omega, by omega, by rw [seg_mid]; exact h1, ?_⟩
      rcases h2 with y | y
      · left; rw [y]; show _ = _ + 0; omega
      · right
        have := seg_mid (a := cd ++ e1) (b := e2) (c := [])
        rw [List.append_nil, L1] at this
        rw [this]; exact y
theorem okA.ok {cd : List Nat} {acc : List (Nat × Nat)} (h : okA cd acc) (l : cd.length ≤ 300) (c : cnV cd ≤ 60) : okL (cd, acc) := ⟨l, h.1, c, h.2.2⟩
section
variable {G : GT} {d : Nat} {M M' : Mem} {m s p n f : Nat} {T : StT} {cd : List Nat} {acc : List (Nat × Nat)}
/-- places of the clauses read -/
def clA (M : Mem) (m s : Nat) (cd : List Nat) (acc : List (Nat × Nat)) : Prop := ∀ i, i < acc.length → vi M (m + 17) (12 * s + i) = nI (cBeg (cd, acc) i) ∧ vi M (m + 18) (12 * s + i) = nI (cSum (cd, acc) i) ∧ vi M (m + 19) (12 * s + i) = nI (cEnd (cd, acc) i)
theorem clA.fr {F : List Nat} (h : clA M m s cd acc) (g : Frl m F [] M M') : clA M' m s cd acc := fun i hi => by
  rw [g.i (by decide) (by decide), g.i (by decide) (by decide), g.i (by decide) (by decide)]; exact h i hi
theorem clA.add {a b : Nat} {cd' : List Nat} (h : clA M m s cd acc) (g : clP m s acc.length M M' cd.length a b) (e : cBeg (cd, acc) acc.length = cd.length) : clA M' m s cd' (acc ++ [(a, b)]) := fun i hi => by
  rw [List.length_append] at hi
  have hi : i < acc.length + 1 := hi
  rcases Nat.lt_or_ge i acc.length with u | u
  · rw [g.2 17 (by omega) _ (by omega), g.2 18 (by omega) _ (by omega), g.2 19 (by omega) _ (by omega)]
    have z := h i u
    rw [cBeg_app (cd := cd) (Nat.le_of_lt u)]
    unfold cSum cEnd at z ⊢
    dsimp only at z ⊢
    rw [gA_l u]
    exact z
  · have ei : i = acc.length := by omega
    subst ei
    rw [cBeg_app (cd := cd) (Nat.le_refl _), e]
    unfold cSum cEnd
    dsimp only
    rw [gA_r]
    exact g.1
theorem RX.arr16 {v : Int32} (W : RX M m T) (q1 : qN T ≤ s) : RX (seti M (m + 16) s v) m T := by
  have g : Frl m [] [16] M (seti M (m + 16) s v) := Frl.si (by simp)
  have e2 : ∀ o', o' ≠ 16 → 0 < o' → ∀ k, vi (seti M (m + 16) s v) (m + o') k = vi M (m + o') k := fun o' h1 h4 k => g.i (by simp; omega) h4 k
  refine ⟨g.ra W.1, W.2.1, W.2.2.1.fr W.2.1.2.2.1 g (fun o ho => by simp; omega), ⟨?_, fun k hk => ?_⟩, ?_, ⟨?_, fun l hl => ?_⟩, fun ii hi => ?_⟩
  · rw [g.f (by decide) (by decide)]; exact W.t
  · rw [e2 13 (by omega) (by omega)]; exact W.tb hk
  · rw [g.f (by decide) (by decide)]; exact W.2.2.2.2.1
  · rw [g.f (by decide) (by decide)]; exact W.q
  · have z := W.2.2.2.2.2.1.2 l hl
    refine ⟨fun k hk => ?_, ?_, fun i hi => ?_⟩
    · rw [e2 14 (by omega) (by omega), e2 15 (by omega) (by omega)]; exact z.1 k hk
    · rw [vi_seti, if_neg (by omega)]; exact z.2.1
    · rw [e2 17 (by omega) (by omega), e2 18 (by omega) (by omega), e2 19 (by omega) (by omega)]; exact z.2.2 i hi
  · refine ⟨fun z => ?_, fun S hS => ?_⟩
    · rw [e2 45 (by omega) (by omega)]; exact (W.2.2.2.2.2.2 ii hi).1 z
    · rw [e2 45 (by omega) (by omega)]
      have z := (W.2.2.2.2.2.2 ii hi).2 S hS
      refine ⟨z.1, ?_⟩
      have eq : (fun o' k => vi (seti M (m + 16) s v) (m + 44) (2100 * ii + rOff o' + k)) = (fun o' k => vi M (m + 44) (2100 * ii + rOff o' + k)) := by
        funext o' k
        exact e2 44 (by omega) (by omega) _
      unfold rImg
      rw [eq]
      exact z.2
/-- a LAW more -/
theorem RX.more (h : LwA M m T (qN T) p cd n f) (q4 : qN T < 4) (ok : okL (cd, acc)) (ha : clA M m (qN T) cd acc) (g : Frl m [13, 14, 17] [16] M M') (e13 : vi M' m 13 = nI 0) (e17 : vi M' m 17 = nI (qN T + 1)) (e16 : vi M' (m + 16) (qN T) = nI acc.length)
    (e16' : ∀ l, l ≠ qN T → vi M' (m + 16) l = vi M (m + 16) l) : RX M' m (v_law T (cd, acc)) := by
  have W := h.1
  have e2 : ∀ o', o' ≠ 16 → 0 < o' → ∀ k, vi M' (m + o') k = vi M (m + o') k := fun o' h1 h4 k => g.i (by simp; omega) h4 k
  have V := W.2.1
  have oT : okT (v_law T (cd, acc)) := by
    refine ⟨Nat.zero_le _, fun k hk => absurd hk (Nat.not_lt_zero k), V.2.2.1, ?_, fun l hl => ?_, V.2.2.2.2.2⟩
    · show qN T + 1 ≤ 4; omega
    · show okL (if l = qN T then (cd, acc) else qL T l)
      have hl : l < qN T + 1 := hl
      by_cases y : l = qN T
      · rw [if_pos y]; exact ok
      · rw [if_neg y]; exact V.2.2.2.2.1 l (by omega)
  refine ⟨g.ra W.1, oT, W.2.2.1.fr V.2.2.1 g (fun o ho => by simp; omega), ⟨e13, fun k hk => absurd hk (Nat.not_lt_zero k)⟩, ?_, ⟨e17, fun l hl => ?_⟩, fun ii hi => ?_⟩
  · rw [g.f (by decide) (by decide)]; exact W.2.2.2.2.1
  · have hl : l < qN T + 1 := hl
    show rLaw M' m l (if l = qN T then (cd, acc) else qL T l)
    by_cases y : l = qN T
    · rw [if_pos y, y]
      refine ⟨fun k hk => ?_, e16, fun i hi => ?_⟩
      · rw [e2 14 (by omega) (by omega), e2 15 (by omega) (by omega)]; exact h.2.2.2.2.2.2.2.2.2.2.2 k hk
      · rw [e2 17 (by omega) (by omega), e2 18 (by omega) (by omega), e2 19 (by omega) (by omega)]; exact ha i hi
    · rw [if_neg y]
      have z := W.2.2.2.2.2.1.2 l (by omega)
      refine ⟨fun k hk => ?_, ?_, fun i hi => ?_⟩
      · rw [e2 14 (by omega) (by omega), e2 15 (by omega) (by omega)]; exact z.1 k hk
      · rw [e16' l y]; exact z.2.1
      · rw [e2 17 (by omega) (by omega), e2 18 (by omega) (by omega), e2 19 (by omega) (by omega)]; exact z.2.2 i hi
  · refine ⟨fun z => ?_, fun S hS => ?_⟩
    · rw [e2 45 (by omega) (by omega)]; exact (W.2.2.2.2.2.2 ii hi).1 z
    · rw [e2 45 (by omega) (by omega)]
      have z := (W.2.2.2.2.2.2 ii hi).2 S hS
      refine ⟨z.1, ?_⟩
      have eq : (fun o' k => vi M' (m + 44) (2100 * ii + rOff o' + k)) = (fun o' k => vi M (m + 44) (2100 * ii + rOff o' + k)) := by
        funext o' k
        exact e2 44 (by omega) (by omega) _
      unfold rImg
      rw [eq]
      exact z.2
theorem m_law {Q : Int32 → Mem → Prop} (W : RX M m T) (hq : ∀ M', RX M' m (u_law T) → Ou m M M' → Q (f_law T) M') : CI G (d + 13) 198 [.ref m] M Q := by
  have t4 : T.1.1 ≤ 400 := W.t4
  have q4 := W.q4
  unfold u_law f_law at hq
  refine r_law W.1 ?_
  rw [W.q, show (4 : Int32) = nI 4 from rfl, eq_I (by omega) (by omega)]
  refine ⟨fun c => ?_, fun c => by rw [cif_T c, cif_T c] at hq; exact hq M W Ou.refl⟩
  rw [cif_F c, cif_F c] at hq
  intro M1 e1 M2 e2 M3 e3 M4 e4 M5 e5 M6 e6
  have g6 : Frl m [14, 15, 16, 18, 19, 20] [] M M6 := by
    rw [e6, e5, e4, e3, e2, e1]
    exact (Frl.sf (by decide)).trans ((Frl.sf (by decide)).trans ((Frl.sf (by decide)).trans ((Frl.sf (by decide)).trans ((Frl.sf (by decide)).trans (Frl.sf (by decide))))))
  have W6 : RX M6 m T := W.fr g6 (fun o ho => by simp) (by decide)
  have h6 : LwA M6 m T (qN T) 0 [] 0 0 := by
    refine ⟨W6, Nat.le_refl _, by omega, ?_, ?_, ?_, ?_, ?_, Nat.zero_le _, by omega, fun _ => ⟨by omega, by show 3 * 0 ≤ _; omega⟩, fun k hk => absurd hk (Nat.not_lt_zero k)⟩
    · rw [e6, vi_seti, if_neg (by omega), e5, vi_seti, if_neg (by omega), e4, vi_seti, if_neg (by omega), e3, vi_seti, if_neg (by omega), e2, vi_seti, if_pos ⟨rfl, rfl⟩]; rfl
    · rw [e6, vi_seti, if_neg (by omega), e5, vi_seti, if_neg (by omega), e4, vi_seti, if_neg (by omega), e3, vi_seti, if_pos ⟨rfl, rfl⟩]; rfl
    · rw [e6, vi_seti, if_neg (by omega), e5, vi_seti, if_neg (by omega), e4, vi_seti, if_neg (by omega), e3, vi_seti, if_neg (by omega), e2, vi_seti, if_neg (by omega), e1, vi_seti, if_pos ⟨rfl, rfl⟩]
    · rw [e6, vi_seti, if_neg (by omega), e5, vi_seti, if_neg (by omega), e4, vi_seti, if_pos ⟨rfl, rfl⟩]; rfl
    · rw [e6, vi_seti, if_pos ⟨rfl, rfl⟩]; rfl
  have z19 : vi M6 m 19 = nI 0 := by rw [e6, vi_seti, if_neg (by omega), e5, vi_seti, if_pos ⟨rfl, rfl⟩]; rfl
  -- the end at a FAULT
  have bad : ∀ (Mx : Mem) (e i : Nat), ¬ e = 0 → (pAllL T).1 = e → LwF Mx m T e → vi Mx m 16 = nI (qN T) → Ou m M Mx → At G (d + 13) 198 99 [(0, .ref m), (1, .int (nI i))] [] Mx (qI Q) := by
    intro Mx e i e0 pe hF h16 ox
    have f4 := hF.2.2.1
    have ne : ¬ vi Mx m 15 = 0 := by rw [hF.2.1]; exact nI_ne0 (by omega) (by omega)
    refine r_law_99 hF.1.1 ⟨fun _ => r_law_121 hF.1.1 (r_law_122 hF.1.1 (fun M9 e9 => ?_)), fun c => absurd c ne⟩
    have g9 : Frl m [14] [] Mx M9 := by rw [e9]; exact Frl.sf (by decide)
    have W9 := hF.1.fr g9 (fun o ho => by simp) (by decide)
    refine r_law_47 W9.1 ⟨fun _ M7 e7 => ?_, fun c => absurd rfl c⟩
    have g7 : Frl m [13] [] M9 M7 := by rw [e7]; exact Frl.sf (by decide)
    have W7 : RX M7 m (v_end T 0) := by rw [e7]; exact W9.tape0 (Nat.zero_le _)
    have x16 : vi M7 m 16 = nI (qN T) := by rw [g7.f (by decide) (by decide), g9.f (by decide) (by decide)]; exact h16
    rw [x16, nI_clamp (by omega)]
    refine ⟨vp_in_nI (by omega) (by omega), fun M8 e8 => ?_⟩
    have W8 : RX M8 m (v_end T 0) := by rw [e8]; exact W7.arr16 (Nat.le_refl _)
    have x15 : vi M8 m 15 = nI e := by rw [e8, vi_seti, if_neg (by omega), g7.f (by decide) (by decide), g9.f (by decide) (by decide)]; exact hF.2.1
    have ne8 : ¬ vi M8 m 15 = 0 := by rw [x15]; exact nI_ne0 (by omega) (by omega)
    refine ⟨fun _ => r_law_168 W8.1 ⟨W8.1.1, fun M15 e15 => ?_⟩, fun c => absurd c ne8⟩
    rw [seti_same (by rw [show (0 : Int32) = nI 0 from rfl, W8.q, nI_add]; rfl)] at e15
    rw [e15, x15, il_0, le_I (by omega) (by omega)]
    refine ⟨fun y => absurd y (by omega), fun _ => r_law_195 W8.1 ?_⟩
    rw [cif_F (by rw [pe]; exact e0), cif_F (by rw [pe]; exact e0), pe] at hq
    refine hq M8 W8 (ox.trans ((g9.ou (by decide)).trans ((g7.ou (by decide)).trans (by rw [e8]; exact (Frl.si (F := []) (L := [16]) (by decide)).ou (by decide)))))
  -- the loop
  have key : ∀ (k p : Nat) (cd : List Nat) (n : Nat) (acc : List (Nat × Nat)) (Mx : Mem), k + acc.length = 13 → okA cd acc → cnV cd ≤ n → pAllL T = pLw T.1 k p cd n acc → LwA Mx m T (qN T) p cd n 0 → vi Mx m 19 = nI 0 → clA Mx m (qN T) cd acc → Ou m M Mx →
      At G (d + 13) 198 47 [(0, .ref m), (1, .int (nI acc.length)), (2, .int 1)] [] Mx (qI Q) := by
    intro k
    induction k with
    | zero => intro p cd n acc Mx h1 h2; have := h2.1; omega
    | succ k ih =>
      intro p cd n acc Mx h1 oa hc pe hx x19 xa ox
      have l12 := oa.1
      have b := hx.b rfl
      have sk := skB_le hx.p4
      have ro := pCl_rom (i := acc.length) (cd := cd) t4 sk.2 b.1
      have ko := pCl_ok (t := T.1) (i := acc.length) (q := skB T.1 p) (n := n) (cd := cd)
      unfold pLw at pe
      refine r_law_47 hx.1.1 ⟨fun c => absurd c (by decide), fun _ => s_clause hx x19 l12 (fun z M9 o9 h9 y19 cp => ⟨h9.1.1, ?_⟩) (fun z M9 o9 h9 y16 => ⟨h9.1.1, ?_⟩)⟩
      · rw [cif_T z] at pe
        have i12 : acc.length < 12 := by
          rcases Nat.lt_or_ge acc.length 12 with u | u
          · exact u
          · exfalso
            have e12 : acc.length = 12 := by omega
            unfold pCl at z
            rw [e12] at z
            revert z
            exact cif_el (φ := fun r : Nat × LxT => r.1 = 0 → False) (fun _ => by rw [cif_T rfl]; exact fun z => flt_ne _ _ z) (fun _ z => flt_ne _ _ z)
        obtain ⟨x1, x2, k1, k2, k3, k4, k5⟩ := ko z
        have ro2 := ro.2 z
        have oa' := oa.add i12 k3 k4
        rw [← k2, ← k1] at oa'
        have xa' := xa.add (cd' := (pCl T.1 acc.length (skB T.1 p) cd n).2.2.1) cp oa.2.1
        have hc' : cnV (pCl T.1 acc.length (skB T.1 p) cd n).2.2.1 ≤ (pCl T.1 acc.length (skB T.1 p) cd n).2.2.2 := by rw [k2, cnV_app, cnV_app]; omega
        have oa2 : (clS' T.1 (skB T.1 p) cd n).2.2.1.length = (cd ++ x1).length := by rw [k1]
        have b9 := h9.b rfl
        generalize hR : pCl T.1 acc.length (skB T.1 p) cd n = R at *
        generalize hS : (clS' T.1 (skB T.1 p) cd n).2.2.1.length = sl at *
        refine s_blanks h9.1 h9.pp (by have := h9.p4; omega) (fun M10 g10 e10 => ⟨g10.ra h9.1.1, ?_⟩)
        have skq := skB_le h9.p4
        have h10 := h9.mv g10 e10 skq.2 skq.1
        have a10 := xa'.fr g10
        have x10 : vi M10 m 19 = nI 0 := by rw [g10.f (by decide) (by decide)]; exact y19
        have o10 : Ou m M M10 := (ox.trans o9).trans (g10.ou (by decide))
        have z10 : vi M10 m 15 = 0 := h10.ff
        have e13 : vi M10 m 13 = nI T.1.1 := h10.1.t
        have el : (acc ++ [(sl, R.2.2.1.length)]).length = acc.length + 1 := List.length_append
        refine ⟨fun c => absurd z10 c, fun _ => ?_⟩
        rw [e13, e10, le_I (by omega) (by omega), nI_1]
        refine ⟨fun c => ?_, fun c => ?_⟩
        · rw [cif_F (by omega)] at pe
          refine r_law_99 h10.1.1 ⟨fun c => absurd z10 c, fun _ => ?_⟩
          rw [e13, e10, le_I (by omega) (by omega)]
          refine ⟨fun _ => r_law_121 h10.1.1 (r_law_122 h10.1.1 (fun M9 e9 => ?_)), fun y => absurd c y⟩
          have g9 : Frl m [14] [] M10 M9 := by rw [e9]; exact Frl.sf (by decide)
          refine r_law_47 (g9.ra h10.1.1) ⟨fun _ M7 e7 => ?_, fun c => absurd rfl c⟩
          have g7 : Frl m [13] [] M9 M7 := by rw [e7]; exact Frl.sf (by decide)
          have x16 : vi M7 m 16 = nI (qN T) := by rw [g7.f (by decide) (by decide), g9.f (by decide) (by decide)]; exact h10.2.2.2.2.2.1
          rw [x16, nI_clamp (by omega)]
          refine ⟨vp_in_nI (by omega) (by omega), fun M8 e8 => ?_⟩
          have g8 : Frl m [] [16] M7 M8 := by rw [e8]; exact Frl.si (by decide)
          have x15 : vi M8 m 15 = 0 := by rw [g8.f (by decide) (by decide), g7.f (by decide) (by decide), g9.f (by decide) (by decide)]; exact z10
          have x17 : vi M8 m 17 = nI (qN T) := by rw [g8.f (by decide) (by decide), g7.f (by decide) (by decide), g9.f (by decide) (by decide)]; exact h10.1.q
          have R8 := g8.ra (g7.ra (g9.ra h10.1.1))
          refine ⟨fun c => absurd x15 c, fun _ => r_law_168 R8 ⟨R8.1, fun M15 e15 => ?_⟩⟩
          rw [x17, nI_1] at e15
          have g15 : Frl m [17] [] M8 M15 := by rw [e15]; exact Frl.sf (by decide)
          have y15 : vi M15 m 15 = nI 0 := by rw [g15.f (by decide) (by decide)]; exact x15
          have y17 : vi M15 m 17 = nI (qN T + 1) := by rw [e15, vi_seti, if_pos ⟨rfl, rfl⟩]
          rw [y15, y17]
          refine ⟨fun _ => r_law_195 (g15.ra R8) ?_, fun y => absurd (show nI 0 ≤ (0 : Int32) by decide) y⟩
          have p1 : (pAllL T).1 = 0 := by rw [pe]
          have p2 : (pAllL T).2 = (R.2.2.1, acc ++ [(sl, R.2.2.1.length)]) := by rw [pe]
          rw [cif_T p1, cif_T p1, p2] at hq
          rw [show (1 : Int32) = nI 1 from rfl, pk_sub (by omega), Nat.add_sub_cancel]
          have gg : Frl m [13, 14, 17] [16] M10 M15 := ((g9.sub (by decide) (by decide)).trans (g7.sub (by decide) (by decide))).trans ((g8.sub (by decide) (by decide)).trans (g15.sub (by decide) (by decide)))
          refine hq M15 (RX.more h10 (by omega) (oa'.ok (by omega) (by omega)) a10 gg ?_ y17 ?_ (fun l hl => ?_)) (o10.trans (gg.ou (by decide)))
          · rw [g15.f (by decide) (by decide), g8.f (by decide) (by decide), e7, vi_seti, if_pos ⟨rfl, rfl⟩]; rfl
          · rw [g15.i (by decide) (by decide), e8, vi_seti, if_pos ⟨rfl, rfl⟩, el]
          · rw [g15.i (by decide) (by decide), e8, vi_seti, if_neg (fun u => hl u.2), g7.i (by decide) (by decide), g9.i (by decide) (by decide)]
        · rw [cif_T (by omega)] at pe
          refine s_sign h10.1 e10 (by omega) ⟨h10.1.1, ?_⟩
          have epk : pk T.1 (skB T.1 R.2.1) = T.1.2 (skB T.1 R.2.1) := by unfold pk; rw [cif_T (by omega)]
          rw [epk]
          refine ⟨fun c59 => ?_, fun c59 => ?_⟩
          · rw [cif_T c59] at pe
            refine r_law_99 h10.1.1 ⟨fun c => absurd z10 c, fun _ => ?_⟩
            rw [e13, e10, le_I (by omega) (by omega)]
            refine ⟨fun y => absurd y c, fun _ => r_law_122 h10.1.1 (fun M9 e9 => ?_)⟩
            rw [e10, nI_1] at e9
            have g9 : Frl m [14] [] M10 M9 := by rw [e9]; exact Frl.sf (by decide)
            have := ih (skB T.1 R.2.1 + 1) R.2.2.1 R.2.2.2 (acc ++ [(sl, R.2.2.1.length)]) M9 (by omega) oa' hc' pe (h10.mv g9 (by rw [e9, vi_seti, if_pos ⟨rfl, rfl⟩]) (by omega) (by omega)) (by rw [g9.f (by decide) (by decide)]; exact x10) (a10.fr g9) (o10.trans (g9.ou (by decide)))
            rw [el] at this
            exact this
          · rw [cif_F c59] at pe
            rw [e10]
            refine s_fails (c := 0) h10.1.1 h10.ff (by omega) (by omega) (by omega) (fun M8 f8 h8 => ⟨f8.ra h10.1.1, ?_⟩)
            rw [if_pos rfl] at h8
            have h8' := h10.ft f8 h8 (flt_ne _ _) (flt_lt (by omega) (by omega))
            exact bad M8 _ _ (flt_ne _ _) (by rw [pe]) h8'.toF h8'.2.2.2.2.2.1 (o10.trans (f8.ou (by decide)))
      · rw [cif_F z] at pe
        obtain ⟨pp, pp4, epp⟩ := h9.2.2.2
        refine s_blanks h9.1 epp (by omega) (fun M10 g10 e10 => ⟨g10.ra h9.1.1, ?_⟩)
        have x15 : vi M10 m 15 = nI (pCl T.1 acc.length (skB T.1 p) cd n).1 := by rw [g10.f (by decide) (by decide)]; exact h9.2.1
        have f4 := h9.2.2.1
        have ne : ¬ vi M10 m 15 = 0 := by rw [x15]; exact nI_ne0 (by omega) (by omega)
        refine ⟨fun _ => ?_, fun c => absurd c ne⟩
        rw [nI_1]
        exact bad M10 _ _ z (by rw [pe]) ⟨h9.1.fr g10 (fun o ho => by simp) (by decide), x15, f4, skB T.1 pp, (by
          rcases Nat.lt_or_ge T.1.1 pp with u | u
          · rw [skB_n (fun z => by omega)]; exact pp4
          · have := skB_le u; omega), e10⟩ (by rw [g10.f (by decide) (by decide)]; exact y16) ((ox.trans o9).trans (g10.ou (by decide)))
  exact key 13 0 [] 0 [] M6 rfl okA.nil (by decide) rfl h6 z19 (fun i hi => absurd hi (Nat.not_lt_zero i)) (g6.ou (by decide))
end
