/-! WEIGHT: both -/
def lwOk (T : StT) (a : Int32) : Prop := 0 ≤ a.toInt ∧ a.toInt < qN T
noncomputable def f_weight (T : StT) (a b c : Int32) : Int64 := cif (lwOk T a ∧ isK (sh T) b c) (wgt (sh T) (qL T a.toNatClampNeg) (slo b c)) 0
section
variable {G : GT} {d : Nat} {M M' : Mem} {m : Nat} {T : StT}
theorem s_isLaw {a : Int32} {Q : Int32 → Mem → Prop} (W : RX M m T) (hq : Q (bI (lwOk T a)) M) : CI G (d + 2) 199 [.ref m, .int a] M Q := by
  have q4 := W.q4
  refine r_isLaw W.1 (s_in (lwOk T a) ?_ ⟨W.1, b01 hq⟩)
  unfold lwOk
  rw [W.q, Int32.toInt_toInt64, Int32.toInt_toInt64, ll_0, show (1 : Int32) = nI 1 from rfl, pk_sub_toInt (by omega) (by omega)]
  omega
/-- the clauses from the i-th on, over words that are asked for -/
theorem s_clauses {l s : Nat} {ws : Nat → Int64} {Q : Int64 → Mem → Prop} (W : RX M m T) (hl : l < qN T) (hw : ∀ k, k < 7 → vl M (m + 21) k = ws k) (hq : ∀ M', Frl m [] [22] M M' → Q (lawW (qL T l) ws (qL T l).2.length 0) M') : At G (d + 4) 219 95 [(0, .ref m), (1, .int (nI l)), (3, .int (nI (12 * l)))] [] M (qJ Q) := by
  have q4 := W.q4
  have okl := W.2.1.2.2.2.2.1 l hl
  have L3 : (qL T l).1.length ≤ 300 := okl.1
  have l12 := okl.2.1
  have oki := okl.2.2.2
  have rl := (W.2.2.2.2.2.1.2 l hl)
  have key : ∀ (j i : Nat) (Mx : Mem), j + i = (qL T l).2.length → Frl m [] [22] M Mx → lawW (qL T l) ws (qL T l).2.length 0 = lawW (qL T l) ws j i → At G (d + 4) 219 95 [(0, .ref m), (1, .int (nI l)), (3, .int (nI (12 * l + i)))] [] Mx (qJ Q) := by
    intro j
    induction j with
    | zero =>
      intro i Mx e gx he
      have e16 : vi Mx (m + 16) l = nI (qL T l).2.length := by rw [gx.i (by decide) (by decide)]; exact rl.2.1
      refine r_weightOf_95 (gx.ra W.1) ⟨vp_in_nI (by omega) (by omega), ?_⟩
      rw [nI_clamp (by omega), e16, show (12 : Int32) = nI 12 from rfl, pk_mul, nI_add, le_I (by omega) (by omega)]
      refine ⟨fun _ => ?_, fun z => absurd (by omega) z⟩
      have := hq Mx gx
      rw [he] at this
      exact this
    | succ j ih =>
      intro i Mx e gx he
      have Wx := W.fr gx (fun o ho => by simp; omega) (by decide)
      have e16 : vi Mx (m + 16) l = nI (qL T l).2.length := by rw [gx.i (by decide) (by decide)]; exact rl.2.1
      have ci := rl.2.2 i (by omega)
      have e17 : vi Mx (m + 17) (12 * l + i) = nI (cBeg (qL T l) i) := by rw [gx.i (by decide) (by decide)]; exact ci.1
      have e18 : vi Mx (m + 18) (12 * l + i) = nI (cSum (qL T l) i) := by rw [gx.i (by decide) (by decide)]; exact ci.2.1
      have e19 : vi Mx (m + 19) (12 * l + i) = nI (cEnd (qL T l) i) := by rw [gx.i (by decide) (by decide)]; exact ci.2.2
      have x21 : ∀ k, k < 7 → vl Mx (m + 21) k = ws k := fun k hk => by rw [gx.l (by decide) (by decide)]; exact hw k hk
      have ok := oki i (by omega)
      have he : lawW (qL T l) ws (qL T l).2.length 0 = cif (cSum (qL T l) i = cEnd (qL T l) i ∨ ¬ evV ws (seg (qL T l).1 (cSum (qL T l) i) (cEnd (qL T l) i)) = 0) (evV ws (seg (qL T l).1 (cBeg (qL T l) i) (cSum (qL T l) i))) (lawW (qL T l) ws j (i + 1)) := he
      have v48 : vp_in (nI (12 * l + i)) 48 := vp_in_nI (by omega) (by omega)
      refine r_weightOf_95 (gx.ra W.1) ⟨vp_in_nI (by omega) (by omega), ?_⟩
      rw [nI_clamp (by omega), nI_clamp (by omega), e16, e17, e18, e19, show (12 : Int32) = nI 12 from rfl, pk_mul, nI_add, le_I (by omega) (by omega), eq_I (by omega) (by omega)]
      refine ⟨fun z => absurd z (by omega), fun _ => ⟨v48, v48, fun z => ⟨v48, v48, ?_⟩, fun z => ⟨v48, v48, ?_⟩⟩⟩
      · refine s_answer Wx hl ok.1 (by omega) x21 ok.2.2.2.1 (fun M2 g2 => ⟨g2.ra Wx.1, ?_⟩)
        rw [cif_T (Or.inl z)] at he
        rw [← he]
        exact hq M2 (gx.trans g2)
      · have tt := ok.2.2.2.2.resolve_left z
        refine s_answer Wx hl ok.2.1 ok.2.2.1 x21 tt (fun M2 g2 => ⟨g2.ra Wx.1, ?_⟩)
        have bv := evV_b (ws := ws) tt
        have W2 := Wx.fr g2 (fun o ho => by simp; omega) (by decide)
        rw [cmp_eq, g2.i (by decide) (by decide), g2.i (by decide) (by decide), e17, e18]
        refine ⟨fun y => ?_, fun y => ⟨v48, v48, ?_⟩⟩
        · rw [nI_1]
          rw [cif_F (fun u => u.elim z (fun u => u (bv.resolve_right y)))] at he
          exact ih (i + 1) M2 (by omega) (gx.trans g2) he
        · refine s_answer (ws := ws) W2 hl ok.1 (by omega) (fun k hk => by rw [g2.l (by decide) (by decide)]; exact x21 k hk) ok.2.2.2.1 (fun M3 g3 => ⟨g3.ra W2.1, ?_⟩)
          rw [cif_T (Or.inr (by rw [y]; decide))] at he
          rw [← he]
          exact hq M3 (gx.trans (g2.trans g3))
  exact key _ 0 M rfl Frl.refl rfl
theorem s_weightOf {l s : Nat} {Q : Int64 → Mem → Prop} (W : RX M m T) (hl : l < qN T) (hs : isM (sh T) s) (hq : ∀ M', Frl m [] [21, 22] M M' → Q (wgt (sh T) (qL T l) s) M') : CJ G (d + 4) 219 [.ref m, .int (nI l), .int (nI s)] M Q := by
  have s6 := isM_lt W.rs.2.1 hs
  have h4 := W.rs.2.1.h
  have hh := hs.1
  have q4 := W.q4
  have v7 : ∀ i, i < 7 → vp_in (nI i) 7 := fun i hi => vp_in_nI hi (by omega)
  have v64 : vp_in (nI s) 64 := vp_in_nI s6 (by omega)
  refine r_weightOf W.1 ?_
  rw [show (16 : Int32) = nI 16 from rfl, pk_rem (by omega) (by omega) (by omega), pk_div (by omega) (by omega) (by omega), nI_clamp (by omega), nI_clamp (by omega), W.rs.2.2.r hh]
  refine ⟨by decide, vp_in_nI (by omega) (by omega), v7 0 (by decide), fun M1 e1 => ⟨by decide, v7 1 (by decide), fun M2 e2 => ⟨by decide, v7 2 (by decide), fun M3 e3 => ⟨v64, v7 3 (by decide), fun M4 e4 => ⟨v64, v7 4 (by decide), fun M5 e5 => ⟨v64, v7 5 (by decide), fun M6 e6 => ?_⟩⟩⟩⟩⟩⟩
  have g3 : Frl m [] [21] M M3 := by rw [e3, e2, e1]; exact (Frl.sl (by decide)).trans ((Frl.sl (by decide)).trans (Frl.sl (by decide)))
  have g6 : Frl m [] [21] M M6 := g3.trans (by rw [e6, e5, e4]; exact (Frl.sl (by decide)).trans ((Frl.sl (by decide)).trans (Frl.sl (by decide))))
  have W6 := W.fr g6 (fun o ho => by simp; omega) (by decide)
  have i3 : ∀ o k, vi M3 o k = vi M o k := fun o k => by rw [e3, e2, e1]; rfl
  have i4 : ∀ o k, vi M4 o k = vi M o k := fun o k => by rw [e4]; exact i3 o k
  have i5 : ∀ o k, vi M5 o k = vi M o k := fun o k => by rw [e5]; exact i4 o k
  rw [i3, W.rs.2.2.m7 hs] at e4
  rw [i4, W.rs.2.2.m11 hs] at e5
  rw [i5, W.rs.2.2.m8 hs] at e6
  refine s_agree W6.rs hs ⟨W6.1, v7 6 (by decide), fun M9 e9 => ?_⟩
  have g9 : Frl m [] [21] M M9 := g6.trans (by rw [e9]; exact Frl.sl (by decide))
  have W9 := W.fr g9 (fun o ho => by simp; omega) (by decide)
  have c : ∀ i, i < 7 → (nI i).toNatClampNeg = i := fun i hi => nI_clamp (by omega)
  have ws : ∀ k, k < 7 → vl M9 (m + 21) k = wdS (sh T) s k := fun k hk => by
    have e : ∀ i, (if m + 21 = m + 21 ∧ k = i then True else False) = (k = i) := fun i => by
      by_cases y : k = i
      · rw [if_pos ⟨rfl, y⟩]; exact (eq_true y).symm
      · rw [if_neg (fun z => y z.2)]; exact (eq_false y).symm
    rw [e9, vl_setl, e6, vl_setl, e5, vl_setl, e4, vl_setl, e3, vl_setl, e2, vl_setl, e1, vl_setl]
    have z0 : (0 : Int32).toNatClampNeg = 0 := rfl
    have z1 : (1 : Int32).toNatClampNeg = 1 := rfl
    have z2 : (2 : Int32).toNatClampNeg = 2 := rfl
    have z3 : (3 : Int32).toNatClampNeg = 3 := rfl
    have z4 : (4 : Int32).toNatClampNeg = 4 := rfl
    have z5 : (5 : Int32).toNatClampNeg = 5 := rfl
    have z6 : (6 : Int32).toNatClampNeg = 6 := rfl
    rw [z0, z1, z2, z3, z4, z5, z6]
    unfold wdS
    obtain rfl | rfl | rfl | rfl | rfl | rfl | rfl : k = 0 ∨ k = 1 ∨ k = 2 ∨ k = 3 ∨ k = 4 ∨ k = 5 ∨ k = 6 := by omega
    · rw [if_neg (by omega), if_neg (by omega), if_neg (by omega), if_neg (by omega), if_neg (by omega), if_neg (by omega), if_pos ⟨rfl, rfl⟩, if_pos rfl]
    · rw [if_neg (by omega), if_neg (by omega), if_neg (by omega), if_neg (by omega), if_neg (by omega), if_pos ⟨rfl, rfl⟩, if_neg (by omega), if_pos rfl]
    · rw [if_neg (by omega), if_neg (by omega), if_neg (by omega), if_neg (by omega), if_pos ⟨rfl, rfl⟩, if_neg (by omega), if_neg (by omega), if_pos rfl]
    · rw [if_neg (by omega), if_neg (by omega), if_neg (by omega), if_pos ⟨rfl, rfl⟩, if_neg (by omega), if_neg (by omega), if_neg (by omega), if_pos rfl]
    · rw [if_neg (by omega), if_neg (by omega), if_pos ⟨rfl, rfl⟩, if_neg (by omega), if_neg (by omega), if_neg (by omega), if_neg (by omega), if_pos rfl]
    · rw [if_neg (by omega), if_pos ⟨rfl, rfl⟩, if_neg (by omega), if_neg (by omega), if_neg (by omega), if_neg (by omega), if_neg (by omega), if_pos rfl]
    · rw [if_pos ⟨rfl, rfl⟩, if_neg (by omega), if_neg (by omega), if_neg (by omega), if_neg (by omega), if_neg (by omega), if_neg (by omega)]
  rw [show (12 : Int32) = nI 12 from rfl, pk_mul]
  exact s_clauses (s := s) W9 hl ws (fun M10 g10 => hq M10 ((g9.sub (by decide) (by decide)).trans (g10.sub (by decide) (by decide))))
theorem m_weight {a b c : Int32} {Q : Int64 → Mem → Prop} (W : RX M m T) (hq : ∀ M', RX M' m T → Ou m M M' → Q (f_weight T a b c) M') : CJ G (d + 5) 220 [.ref m, .int a, .int b, .int c] M Q := by
  have q4 := W.q4
  unfold f_weight at hq
  refine r_weight W.1 (s_isLaw W ⟨W.1, bz (fun ca => ?_) (fun ca => by rw [cif_F (fun z => ca z.1)] at hq; exact hq M W Ou.refl)⟩)
  refine s_isMark W.rs ⟨W.1, bz (fun cb => ?_) (fun cb => by rw [cif_F (fun z => cb z.2)] at hq; exact hq M W Ou.refl)⟩
  obtain ⟨h1, h2, h3, -⟩ := isK_slo W.rs.2.1 cb
  rw [cif_T ⟨ca, cb⟩] at hq
  obtain ⟨l, hl, ea⟩ := asN ca.1 ca.2
  subst ea
  rw [nI_clamp (by omega)] at hq
  rw [h3]
  exact s_weightOf W hl h1 (fun M' g => ⟨g.ra W.1, hq M' (W.fr g (fun o ho => by simp; omega) (by decide)) (g.ou (by decide))⟩)
/-! the class -/
variable {w : Nat → Nat} {S : ShT}
theorem k_learn {a b s : Nat} {Q : Int32 → Mem → Prop} (O : ObAt 2 M a) (W : CS w M b S) (s6 : s < 64) (hy : isM S s → ∀ M', Frl a [] [4] M M' → (∀ k, k < 7 → vl M' (a + 4) k = wdS S s k) → Q 1 M') (hn : ¬ isM S s → Q 0 M) : CI G (d + 1) 26 [.ref a, .ref b, .int (nI s)] M Q := by
  have v7 : ∀ i, i < 7 → vp_in (nI i) 7 := fun i hi => vp_in_nI hi (by omega)
  have v64 : vp_in (nI s) 64 := vp_in_nI s6 (by omega)
  refine c_X2_learn O W.1 ?_
  rw [show (64 : Int32) = nI 64 from rfl, lt_I (by omega) (by omega), nI_clamp (by omega)]
  refine ⟨fun z => absurd z (nlt0 _ (by omega)), fun _ => ⟨fun _ => ⟨v64, fun r er => ?_, fun er => ?_⟩, fun z => absurd s6 z⟩⟩
  · by_cases is : isM S s
    · obtain ⟨o, e1, e2, -⟩ := W.m is
      have eo : r = o := some_inj e1 er
      subst eo
      have k6 := e2.k
      have hh := is.1
      have h4 := W.2.1.h
      rw [show (16 : Int32) = nI 16 from rfl, pk_rem (by omega) (by omega) (by omega), pk_div (by omega) (by omega) (by omega), nI_clamp (by omega), W.r hh]
      refine ⟨by decide, fun z => absurd z (nI_ge (a := s / 16) (b := 4) (by omega) (by decide)), fun _ => ⟨vp_in_nI (by omega) (by omega), v7 0 (by decide), fun M1 e1 => ⟨v7 1 (by decide), fun M2 e2' => ⟨by decide, v7 2 (by decide), fun M3 e3 => ⟨by rw [e3, e2', e1]; exact k6, v7 3 (by decide), fun M4 e4 => ⟨by rw [e4, e3, e2', e1]; exact k6, v7 4 (by decide), fun M5 e5 => ⟨by rw [e5, e4, e3, e2', e1]; exact k6, v7 5 (by decide), fun M6 e6 => ⟨v64, v7 6 (by decide), fun M9 e9 => ⟨Or.inr rfl, ?_⟩⟩⟩⟩⟩⟩⟩⟩⟩
      have i3 : ∀ o k, vi M3 o k = vi M o k := fun o k => by rw [e3, e2', e1]; rfl
      have i4 : ∀ o k, vi M4 o k = vi M o k := fun o k => by rw [e4]; exact i3 o k
      have i5 : ∀ o k, vi M5 o k = vi M o k := fun o k => by rw [e5]; exact i4 o k
      have i6 : ∀ o k, vi M6 o k = vi M o k := fun o k => by rw [e6]; exact i5 o k
      rw [i3, e2.f0] at e4
      rw [i4, e2.f4] at e5
      rw [i5, e2.f1] at e6
      rw [i6, W.ag is] at e9
      refine hy is M9 ?_ (fun k hk => ?_)
      · rw [e9, e6, e5, e4, e3, e2', e1]
        exact (Frl.sl (by decide)).trans ((Frl.sl (by decide)).trans ((Frl.sl (by decide)).trans ((Frl.sl (by decide)).trans ((Frl.sl (by decide)).trans ((Frl.sl (by decide)).trans (Frl.sl (by decide)))))))
      · rw [e9, vl_setl, e6, vl_setl, e5, vl_setl, e4, vl_setl, e3, vl_setl, e2', vl_setl, e1, vl_setl]
        have z0 : (0 : Int32).toNatClampNeg = 0 := rfl
        have z1 : (1 : Int32).toNatClampNeg = 1 := rfl
        have z2 : (2 : Int32).toNatClampNeg = 2 := rfl
        have z3 : (3 : Int32).toNatClampNeg = 3 := rfl
        have z4 : (4 : Int32).toNatClampNeg = 4 := rfl
        have z5 : (5 : Int32).toNatClampNeg = 5 := rfl
        have z6 : (6 : Int32).toNatClampNeg = 6 := rfl
        rw [z0, z1, z2, z3, z4, z5, z6]
        unfold wdS
        obtain rfl | rfl | rfl | rfl | rfl | rfl | rfl : k = 0 ∨ k = 1 ∨ k = 2 ∨ k = 3 ∨ k = 4 ∨ k = 5 ∨ k = 6 := by omega
        · rw [if_neg (by omega), if_neg (by omega), if_neg (by omega), if_neg (by omega), if_neg (by omega), if_neg (by omega), if_pos ⟨rfl, rfl⟩, if_pos rfl]
        · rw [if_neg (by omega), if_neg (by omega), if_neg (by omega), if_neg (by omega), if_neg (by omega), if_pos ⟨rfl, rfl⟩, if_neg (by omega), if_pos rfl]
        · rw [if_neg (by omega), if_neg (by omega), if_neg (by omega), if_neg (by omega), if_pos ⟨rfl, rfl⟩, if_neg (by omega), if_neg (by omega), if_pos rfl]
        · rw [if_neg (by omega), if_neg (by omega), if_neg (by omega), if_pos ⟨rfl, rfl⟩, if_neg (by omega), if_neg (by omega), if_neg (by omega), if_pos rfl]
        · rw [if_neg (by omega), if_neg (by omega), if_pos ⟨rfl, rfl⟩, if_neg (by omega), if_neg (by omega), if_neg (by omega), if_neg (by omega), if_pos rfl]
        · rw [if_neg (by omega), if_pos ⟨rfl, rfl⟩, if_neg (by omega), if_neg (by omega), if_neg (by omega), if_neg (by omega), if_neg (by omega), if_pos rfl]
        · rw [if_pos ⟨rfl, rfl⟩, if_neg (by omega), if_neg (by omega), if_neg (by omega), if_neg (by omega), if_neg (by omega), if_neg (by omega)]
    · rw [W.n s6 is] at er; cases er
  · by_cases is : isM S s
    · obtain ⟨o, e1, -⟩ := W.m is
      rw [e1] at er; cases er
    · exact ⟨Or.inl rfl, hn is⟩
theorem k_weigh {a b s : Nat} {L : LawT} {Q : Int64 → Mem → Prop} (O : ObAt 2 M a) (W : CS w M b S) (hL : cLaw M a L) (okl : okL L) (s6 : s < 64) (hy : isM S s → ∀ M', Frl a [] [4, 5] M M' → Q (wgt S L s) M') (hn : ¬ isM S s → Q 0 M) : CJ G (d + 3) 25 [.ref a, .ref b, .int (nI s)] M Q := by
  have L3 := okl.1
  have l12 := okl.2.1
  have c60 : cnV L.1 ≤ 60 := okl.2.2.1
  have oki := okl.2.2.2
  refine c_X2_weigh O W.1 (k_learn O W s6 (fun is M1 g1 hw => ⟨⟨g1.ob O, g1.ob W.1⟩, fun _ => ?_, fun z => absurd z (by decide)⟩) (fun is => ⟨⟨O, W.1⟩, fun z => absurd rfl z, fun _ => hn is⟩))
  have hy := hy is
  have key : ∀ (j i : Nat) (Mx : Mem), j + i = L.2.length → Frl a [] [4, 5] M Mx → (∀ k, k < 7 → vl Mx (a + 4) k = wdS S s k) → wgt S L s = lawW L (wdS S s) j i → At G (d + 3) 25 16 [(0, .ref a), (3, .int (nI (cBeg L i))), (4, .int (nI i))] [] Mx (qJ Q) := by
    intro j
    induction j with
    | zero =>
      intro i Mx e gx hw he
      have e4 : vi Mx a 4 = nI L.2.length := by rw [gx.f (by decide) (by decide)]; exact hL.1
      refine c_X2_weigh_16 (gx.ob O) (gx.ob W.1) ?_
      rw [e4, le_I (by omega) (by omega)]
      refine ⟨fun _ => ?_, fun z => absurd (by omega) z⟩
      have := hy Mx gx
      rw [he] at this
      exact this
    | succ j ih =>
      intro i Mx e gx hw he
      have e4 : vi Mx a 4 = nI L.2.length := by rw [gx.f (by decide) (by decide)]; exact hL.1
      have ci := hL.2.2 i (by omega)
      have e2 : vi Mx (a + 2) i = nI (cSum L i) := by rw [gx.i (by decide) (by decide)]; exact ci.1
      have e3 : vi Mx (a + 3) i = nI (cEnd L i) := by rw [gx.i (by decide) (by decide)]; exact ci.2
      have cd : ∀ k, k < L.1.length → vi Mx (a + 1) k = nI (L.1.getD k 0) := fun k hk => by rw [gx.i (by decide) (by decide)]; exact hL.2.1 k hk
      have ok := oki i (by omega)
      have he : wgt S L s = cif (cSum L i = cEnd L i ∨ ¬ evV (wdS S s) (seg L.1 (cSum L i) (cEnd L i)) = 0) (evV (wdS S s) (seg L.1 (cBeg L i) (cSum L i))) (lawW L (wdS S s) j (i + 1)) := he
      have v12 : vp_in (nI i) 12 := vp_in_nI (by omega) (by omega)
      have Ox := gx.ob O
      have Wx := gx.ob W.1
      refine c_X2_weigh_16 Ox Wx ?_
      rw [e4, le_I (by omega) (by omega), nI_clamp (by omega), e2, e3, eq_I (by omega) (by omega)]
      refine ⟨fun z => absurd z (by omega), fun _ => ⟨fun z => absurd z (nI_ge (a := i) (b := 12) (by omega) (by decide)), fun _ => ⟨v12, v12, fun z => ⟨fun y => absurd rfl y, fun _ => ⟨v12, v12, ?_⟩⟩, fun z => ⟨fun _ => ⟨v12, ?_⟩, fun y => absurd y (by decide)⟩⟩⟩⟩
      · have tt := ok.2.2.2.2.resolve_left z
        refine k_lawVal Ox L3 c60 cd ok.2.1 ok.2.2.1 hw tt (fun M2 g2 => ⟨⟨g2.ob Ox, g2.ob Wx⟩, ?_⟩)
        rw [cmp_eq, g2.i (by decide) (by decide), g2.i (by decide) (by decide), e2, e3]
        have h2 : ∀ k, k < 7 → vl M2 (a + 4) k = wdS S s k := fun k hk => by rw [g2.l (by decide) (by decide)]; exact hw k hk
        have gg : Frl a [] [4, 5] M M2 := gx.trans (g2.sub (by decide) (by decide))
        refine ⟨fun y => ⟨v12, ?_⟩, fun y => ⟨v12, ?_⟩⟩
        · rw [nI_1]
          rw [cif_F (fun u => u.elim z (fun u => u y))] at he
          exact ih (i + 1) M2 (by omega) gg h2 he
        · refine k_lawVal (g2.ob Ox) L3 c60 (fun k hk => by rw [g2.i (by decide) (by decide)]; exact cd k hk) ok.1 (by omega) h2 ok.2.2.2.1 (fun M3 g3 => ⟨⟨g3.ob (g2.ob Ox), g3.ob (g2.ob Wx)⟩, ?_⟩)
          rw [cif_T (Or.inr y)] at he
          rw [← he]
          exact hy M3 (gg.trans (g3.sub (by decide) (by decide)))
      · refine k_lawVal Ox L3 c60 cd ok.1 (by omega) hw ok.2.2.2.1 (fun M2 g2 => ⟨⟨g2.ob Ox, g2.ob Wx⟩, ?_⟩)
        rw [cif_T (Or.inl z)] at he
        rw [← he]
        exact hy M2 (gx.trans (g2.sub (by decide) (by decide)))
  exact key _ 0 M1 rfl (g1.sub (by decide) (by decide)) hw rfl
end
