/-! WHAT STANDS: the class's calls -/
section
variable {G : GT} {d : Nat} {M M' M'' : Mem} {v a b : Nat} {w : Nat → Nat} {S : ShT} {L : LawT}
theorem k_settle {Q : Mem → Prop} (h : Js w M v a b S L) (hq : ∀ M', FrV v a M M' → vSet M' v S L → Q M') : CV G (d + 4) 99 [.ref v, .ref b, .ref a] M Q := by
  have V := h.2.2.1.2.1
  -- the rounds
  have l2 : ∀ (n i : Nat) (st : Nat → Nat) (Mx : Mem), n + i = 64 → FrV v a M Mx → stC Mx v S st → (∀ s, st s ≤ 3) → (∀ s, s < 64 → (isM S s → vl Mx (v + 1) s = wgt S L s) ∧ (¬ isM S s → vl Mx (v + 1) s = 0)) → (∀ o, o < 64 → (bit (vl Mx v 6) o ↔ isM S o ∧ st o = 1)) → jS S L = jud S (wgt S L) n st →
      At G (d + 4) 99 53 [(0, .ref v), (1, .ref b), (3, .int (nI i))] [] Mx (qV Q) := by
    intro n
    induction n with
    | zero =>
      intro i st Mx e gx sx sb wx bx he
      have hx := h.fr gx
      have he : jS S L = st := he
      refine c_X10_settle_53 (a2 := a) hx.1 hx.2.2.1.1 hx.2.1 ⟨fun _ => hq Mx gx ⟨fun s hs => ⟨fun is => ⟨(wx s hs).1 is, ?_⟩, fun is => ⟨(wx s hs).2 is, ?_⟩⟩, fun s hs => ?_⟩, fun z => absurd (show (64 : Int32) ≤ nI i from nI_le (a := 64) (by omega) (by omega)) z⟩
      · rw [sx s hs, cif_T is, he]
      · rw [sx s hs, cif_F is]
      · rw [bx s hs]; unfold stS; rw [he]
    | succ n ih =>
      intro i st Mx e gx sx sb wx bx he
      have hx := h.fr gx
      have he : jS S L = (match hv S (wgt S L) st 64 with | none => st | some b => jud S (wgt S L) n (stl S (wgt S L) st (wgt S L b))) := he
      have wM : ∀ s, isM S s → vl Mx (v + 1) s = wgt S L s := fun s is => (wx s (isM_lt V is)).1 is
      refine c_X10_settle_53 (a2 := a) hx.1 hx.2.2.1.1 hx.2.1 ⟨fun z => absurd z (nI_ge (a := i) (b := 64) (by omega) (by decide)), fun _ => k_heaviest hx.1 V sx sb wM ⟨⟨hx.1, hx.2.2.1.1, hx.2.1⟩, ?_⟩⟩
      cases hb : hv S (wgt S L) st 64 with
      | none =>
        rw [hb] at he
        have he : jS S L = st := he
        refine ⟨fun z => absurd z (by decide), fun _ => hq Mx gx ⟨fun s hs => ⟨fun is => ⟨(wx s hs).1 is, ?_⟩, fun is => ⟨(wx s hs).2 is, ?_⟩⟩, fun s hs => ?_⟩⟩
        · rw [sx s hs, cif_T is, he]
        · rw [sx s hs, cif_F is]
        · rw [bx s hs]; unfold stS; rw [he]
      | some o =>
        rw [hb] at he
        dsimp only at he
        have q := hv_some 64 o hb
        have eb : hvI (some o) = nI o := rfl
        rw [eb, nI_clamp (by omega), wM o q.2.1, nI_1]
        refine ⟨fun _ => ⟨vp_in_nI (by omega) (by omega), k_decide hx sx sb wM bx (fun M2 g2 w2 s2 b2 => ?_)⟩, fun z => absurd (show (0 : Int32) ≤ nI o from nI_le (a := 0) (by omega) (by omega)) z⟩
        have h2 := hx.fr g2
        exact ⟨⟨h2.1, h2.2.2.1.1, h2.2.1⟩, ih (i + 1) _ M2 (by omega) (gx.trans g2) s2 (stl_le sb) (fun s hs => by rw [w2]; exact wx s hs) b2 he⟩
  -- the weights
  have l1 : ∀ (j i : Nat) (Mx : Mem), j + i = 64 → FrV v a M Mx → (∀ s, s < i → (isM S s → vl Mx (v + 1) s = wgt S L s ∧ vi Mx (v + 2) s = nI 3) ∧ (¬ isM S s → vl Mx (v + 1) s = 0 ∧ vi Mx (v + 2) s = -1)) → At G (d + 4) 99 2 [(0, .ref v), (1, .ref b), (2, .ref a), (3, .int (nI i))] [] Mx (qV Q) := by
    intro j
    induction j with
    | zero =>
      intro i Mx e gx hs
      have hx := h.fr gx
      refine c_X10_settle_2 hx.1 hx.2.2.1.1 hx.2.1 ⟨fun _ M1 e1 => ?_, fun z => absurd (show (64 : Int32) ≤ nI i from nI_le (a := 64) (by omega) (by omega)) z⟩
      have g1 : FrV v a M M1 := gx.trans (by rw [e1]; exact FrV.sl (Or.inl rfl))
      refine l2 64 0 (fun _ => 3) M1 rfl g1 (fun s h6 => ?_) (fun _ => Nat.le_refl 3) (fun s h6 => ?_) (fun o ho => ?_) rfl
      · rw [e1, vi_setl]
        by_cases is : isM S s
        · rw [cif_T is]; exact ((hs s (by omega)).1 is).2
        · rw [cif_F is]; exact ((hs s (by omega)).2 is).2
      · rw [e1, vl_setl, if_neg (fun y => by omega)]
        exact ⟨fun is => ((hs s (by omega)).1 is).1, fun is => ((hs s (by omega)).2 is).1⟩
      · rw [e1, vl_setl, if_pos ⟨rfl, rfl⟩]
        exact ⟨fun z => absurd z (bit_0 o), fun z => by have := z.2; omega⟩
    | succ j ih =>
      intro i Mx e gx hs
      have hx := h.fr gx
      have v6 : vp_in (nI i) 64 := vp_in_nI (by omega) (by omega)
      have dj := h.2.2.2.2.2.2.1
      -- behind the WEIGHT
      have go : ∀ (M2 : Mem) (y : Int64), FrV v a Mx M2 → vl M2 (v + 1) = vl Mx (v + 1) → vi M2 (v + 2) = vi Mx (v + 2) → (isM S i → y = wgt S L i) → (¬ isM S i → y = 0) → (ObAt 10 M2 v ∧ ObAt 8 M2 b ∧ ObAt 2 M2 a) ∧ (vp_in (nI i) 64 ∧ (∀ M4, M4 = setl M2 (v + 1) (nI i).toNatClampNeg y → vp_in (nI i) 64 ∧ ((∀ r5, (vr M4 (b + 5) (nI i).toNatClampNeg) = some r5 → vp_in (nI i) 64 ∧ (∀ M6, M6 = seti M4 (v + 2) (nI i).toNatClampNeg (3 : Int32) → At G (d + 4) 99 2 [(0, .ref v), (1, .ref b), (2, .ref a), (3, .int (nI i + (1 : Int32)))] [] M6 (qV Q))) ∧ ((vr M4 (b + 5) (nI i).toNatClampNeg) = none → vp_in (nI i) 64 ∧ (∀ M7, M7 = seti M4 (v + 2) (nI i).toNatClampNeg (-1 : Int32) → At G (d + 4) 99 2 [(0, .ref v), (1, .ref b), (2, .ref a), (3, .int (nI i + (1 : Int32)))] [] M7 (qV Q)))))) := by
        intro M2 y g2 wl wi hy hn
        have h2 := hx.fr g2
        refine ⟨⟨h2.1, h2.2.2.1.1, h2.2.1⟩, v6, ?_⟩
        rw [nI_clamp (by omega), nI_1]
        intro M4 e4
        have g4 : FrV v a M M4 := gx.trans (g2.trans (by rw [e4]; exact FrV.sl (Or.inr rfl)))
        have h4 := h.fr g4
        have nx : ∀ (M6 : Mem) (z : Int32), M6 = seti M4 (v + 2) i z → (isM S i → z = nI 3) → (¬ isM S i → z = -1) → At G (d + 4) 99 2 [(0, .ref v), (1, .ref b), (2, .ref a), (3, .int (nI (i + 1)))] [] M6 (qV Q) := fun M6 z e6 z1 z2 => by
          refine ih (i + 1) M6 (by omega) (g4.trans (by rw [e6]; exact FrV.si)) (fun s h6 => ?_)
          have es : vl M6 (v + 1) s = if s = i then y else vl Mx (v + 1) s := by
            rw [e6, vl_seti, e4, vl_setl, wl]
            by_cases u : s = i
            · rw [if_pos ⟨rfl, u⟩, if_pos u]
            · rw [if_neg (fun q => u q.2), if_neg u]
          have ei : vi M6 (v + 2) s = if s = i then z else vi Mx (v + 2) s := by
            rw [e6, vi_seti, e4, vi_setl, wi]
            by_cases u : s = i
            · rw [if_pos ⟨rfl, u⟩, if_pos u]
            · rw [if_neg (fun q => u q.2), if_neg u]
          rw [es, ei]
          by_cases u : s = i
          · rw [if_pos u, if_pos u, u]; exact ⟨fun is => ⟨hy is, z1 is⟩, fun is => ⟨hn is, z2 is⟩⟩
          · rw [if_neg u, if_neg u]; exact hs s (by omega)
        refine ⟨v6, fun r5 e5 => ⟨v6, fun M6 e6 => nx M6 _ e6 (fun _ => rfl) (fun is => ?_)⟩, fun e5 => ⟨v6, fun M6 e6 => nx M6 _ e6 (fun is => ?_) (fun _ => rfl)⟩⟩
        · rw [h4.2.2.1.n (by omega) is] at e5; cases e5
        · obtain ⟨o, eo, -⟩ := h4.2.2.1.m is
          rw [eo] at e5; cases e5
      refine c_X10_settle_2 hx.1 hx.2.2.1.1 hx.2.1 ⟨fun z => absurd z (nI_ge (a := i) (b := 64) (by omega) (by decide)), fun _ => ?_⟩
      refine k_weigh hx.2.1 hx.2.2.1 hx.2.2.2.1 hx.2.2.2.2.1 (by omega) (fun is M2 g2 => ?_) (fun is => ?_)
      · refine go M2 _ (FrV.law g2 dj.1) ?_ ?_ (fun _ => rfl) (fun n => absurd is n)
        · funext k; exact (g2.2.2.2.2.2 (v + 1) k (fun _ z => by cases z) (fun o ho e => by simp at ho; rcases ho with y | y <;> rw [y] at e <;> omega)).2
        · funext k; exact (g2.2.2.2.2.2 (v + 2) k (fun _ z => by cases z) (fun o ho e => by simp at ho; rcases ho with y | y <;> rw [y] at e <;> omega)).1
      · exact go Mx 0 FrV.refl rfl rfl (fun y => absurd y is) (fun _ => rfl)
  exact c_X10_settle h.1 h.2.2.1.1 h.2.1 (l1 64 0 M rfl FrV.refl (fun s hs => absurd hs (Nat.not_lt_zero s)))
theorem k_feller {s : Nat} {Q : Int32 → Mem → Prop} (O : ObAt 10 M v) (W : CS w M b S) (hs : isM S s) (hb : ∀ o, o < 64 → (bit (vl M v 6) o ↔ stS S L o)) (hq : Q (cif (fst (isFl S L s) 64 < 64) (nI (fst (isFl S L s) 64)) (-1)) M) : CI G (d + 1) 102 [.ref v, .ref b, .int (nI s)] M Q := by
  have s6 := isM_lt W.2.1 hs
  refine c_X10_feller O W.1 ?_
  rw [show (64 : Int32) = nI 64 from rfl, lt_I (by omega) (by omega), nI_clamp (by omega)]
  refine ⟨fun z => absurd z (nlt0 _ (by omega)), fun _ => ⟨fun _ => ⟨vp_in_nI s6 (by omega), ?_⟩, fun z => absurd s6 z⟩⟩
  have hbt : ∀ o, o < 64 → (bit (vl M (b + 8) s &&& vl M v 6) o ↔ isFl S L s o) := fun o ho => by
    rw [bit_and, W.cl hs ho, hb o ho]
    exact ⟨fun z => ⟨z.1.1, z.2.2, z.1.2⟩, fun z => ⟨⟨z.1, z.2.2⟩, z.1, z.2.1⟩⟩
  generalize vl M (b + 8) s &&& vl M v 6 = y at *
  have key : ∀ (j i : Nat), j + i = 64 → (∀ o, o < i → ¬ isFl S L s o) → At G (d + 1) 102 27 [(3, .long y), (5, .int (nI i))] [] M (qI Q) := by
    intro j
    induction j with
    | zero =>
      intro i e no
      rw [fst_n 64 (fun o ho => no o (by omega)), cif_F (by omega)] at hq
      exact c_X10_feller_27 (a1 := b) O W.1 ⟨fun _ => hq, fun z => absurd (show (64 : Int32) ≤ nI i from nI_le (a := 64) (by omega) (by omega)) z⟩
    | succ j ih =>
      intro i e no
      refine c_X10_feller_27 (a1 := b) O W.1 ⟨fun z => absurd z (nI_ge (a := i) (b := 64) (by omega) (by decide)), fun _ => ?_⟩
      rw [cmp_eq, bit_at (by omega), hbt i (by omega), nI_1]
      refine ⟨fun n => ih (i + 1) (by omega) (fun o ho => ?_), fun n => ?_⟩
      · rcases Nat.lt_or_ge o i with z | z
        · exact no o z
        · rw [show o = i by omega]; exact n
      · have f : isFl S L s i := Classical.byContradiction n
        rw [fst_y f no 64 (by omega), cif_T (by omega)] at hq
        exact hq
  exact key 64 0 rfl (fun o ho => absurd ho (Nat.not_lt_zero o))
theorem k_howMany {x : Int32} {st : Nat → Nat} {Q : Int32 → Mem → Prop} (O : ObAt 10 M v) (hst : stC M v S st) (hx : ¬ x = -1) (hq : Q (nI (ct (fun s => isM S s ∧ nI (st s) = x) 64)) M) : CI G (d + 1) 103 [.ref v, .int x] M Q := by
  refine c_X10_howMany O ?_
  have key : ∀ (j i : Nat), j + i = 64 → At G (d + 1) 103 4 [(0, .ref v), (1, .int x), (2, .int (nI (ct (fun s => isM S s ∧ nI (st s) = x) i))), (3, .int (nI i))] [] M (qI Q) := by
    intro j
    induction j with
    | zero =>
      intro i e
      have e : i = 64 := by omega
      subst e
      exact c_X10_howMany_4 O ⟨fun _ => hq, fun z => absurd (show (64 : Int32) ≤ nI 64 from nI_le (a := 64) (by omega) (by omega)) z⟩
    | succ j ih =>
      intro i e
      have ih := ih (i + 1) (by omega)
      refine c_X10_howMany_4 O ⟨fun z => absurd z (nI_ge (a := i) (b := 64) (by omega) (by decide)), fun _ => ⟨vp_in_nI (by omega) (by omega), ?_⟩⟩
      rw [nI_1, nI_1, nI_clamp (by omega), hst i (by omega)]
      by_cases is : isM S i
      · rw [cif_T is]
        refine ⟨fun n => ?_, fun y => ?_⟩
        · rw [ct_n (p := fun s => isM S s ∧ nI (st s) = x) (fun z => n z.2)] at ih; exact ih
        · rw [ct_y (p := fun s => isM S s ∧ nI (st s) = x) ⟨is, y⟩] at ih; exact ih
      · rw [cif_F is, ct_n (p := fun s => isM S s ∧ nI (st s) = x) (fun z => is z.1)] at *
        exact ⟨fun _ => ih, fun y => absurd y.symm hx⟩
  exact key 64 0 rfl
end
section
variable {G : GT} {d : Nat} {M M' : Mem} {x v a l c : Nat} {w : Nat → Nat} {T : StT}
/-- a verdict is another; scratch cells too -/
theorem XC.verd (h : XC w M x T c) (hl : l < qN T) (ev : vr M (x + 14) l = some v) (ea : vr M (x + 13) l = some a) (wv : ∀ i, i < 5 → w (v + i) = 30 + l) (wa : ∀ i, i < 6 → w (a + i) = 20 + l) (hN : mN M' = mN M) (hK : mK M' = mK M) (hA : mA M' = mA M)
    (hs : ∀ b, w b ≠ 30 + l → w b ≠ 20 + l → (∀ i, scr i → b ≠ x + i) → same M M' b) (hr : ∀ i, i = 1 ∨ i = 15 ∨ i = 18 ∨ i = 25 ∨ i = 36 ∨ i = 41 → vr M' (x + i) = vr M (x + i)) (h1 : vi M' (x + 1) 1 = vi M (x + 1) 1) (hvr : vr M' v = vr M v) (har : vr M' a = vr M a) (hai : ∀ i, i < 4 → vi M' (a + i) = vi M (a + i))
    (cv : cVd M' v (sh T) (qL T l) c) : XC w M' x T c := by
  have F := h.2.1
  have X := h.1
  have lx := h.2.2.2.2.1
  have ow := h.ow.1
  have q4 := h.2.2.1.2.2.2.1
  have hKA : ∀ b, mK M b ≠ 0 → mK M' b = mK M b ∧ mA M' b = mA M b := fun b _ => by rw [hK, hA]; exact ⟨rfl, rfl⟩
  have fx : ∀ i, i < 55 → (i < 19 ∨ 25 ≤ i) → ¬ scr i → same M M' (x + i) := fun i h2 h3 h4 => hs _ (by rw [ow i h2 h3]; omega) (by rw [ow i h2 h3]; omega) (fun j hj e => h4 (by rw [show i = j by omega]; exact hj))
  have no : ∀ i, (i = 0 ∨ (2 ≤ i ∧ i ≤ 14) ∨ i = 46 ∨ i = 47 ∨ i = 50) → ¬ scr i := fun i hi z => by unfold scr at z; omega
  have f0 : same M M' x := fx 0 (by decide) (by decide) (no 0 (by omega))
  have tg : ∀ b, w b ≠ 0 → w b ≠ 30 + l → w b ≠ 20 + l → same M M' b := fun b h0 h2 h3 => hs b h2 h3 (fun i hi e => h0 (by
    rw [e]
    unfold scr at hi
    exact ow i (by omega) (by omega)))
  have km : keepM w M M' := fun b hb _ => ⟨tg b (by omega) (by omega) (by omega), by rw [hK], by rw [hA]⟩
  obtain ⟨⟨dr, hd, hw⟩, hla, hve, him⟩ := h.dy
  have f12 := fx 12 (by decide) (by decide) (no 12 (by omega))
  have f13 := fx 13 (by decide) (by decide) (no 13 (by omega))
  have f14 := fx 14 (by decide) (by decide) (no 14 (by omega))
  refine ⟨X.keep hKA (fun i hi => ?_), fun b hb => by rw [hK]; exact F b (by rw [← hN]; exact hb), h.2.2.1, h.ow, by rw [hN]; exact lx, ⟨by rw [h1]; exact h.t, fun k hk => by rw [(fx 2 (by decide) (by decide) (no 2 (by omega))).1]; exact h.tb hk⟩, ?_, by rw [f0.1]; exact h.q, ⟨h.cl, by rw [f0.1]; exact h.ch⟩, ⟨⟨dr, ⟨by rw [hK]; exact hd.1, by rw [hr 18 (by omega)]; exact hd.2.1, hd.2.2.1.keep hKA (hr 1 (by omega)) (by decide), by rw [hr 18 (by omega)]; exact hd.2.2.2.1, ?_⟩, hw⟩, fun l' hl' => ?_, fun l' hl' => ?_, fun i hi2 => ⟨fun z => by rw [f12.2.2]; exact (him i hi2).1 z, fun S hS => ?_⟩⟩, ?_, ?_, ?_⟩
  · simp at hi
    rcases hi with y | y | y | y | y | y | y | y | y <;> rw [y]
    · exact f0.2.2
    · exact hr 1 (by omega)
    · exact (fx 3 (by decide) (by decide) (no 3 (by omega))).2.2
    · exact hr 15 (by omega)
    · exact hr 25 (by omega)
    · exact hr 36 (by omega)
    · exact hr 41 (by omega)
    · exact (fx 46 (by decide) (by decide) (no 46 (by omega))).2.2
    · exact (fx 50 (by decide) (by decide) (no 50 (by omega))).2.2
  · exact h.cs.2.2.keep F km (fun i hi => by rw [Nat.add_assoc]; exact fx _ (by omega) (by omega) (no _ (by omega)))
  · have e0 := hw 0 (by decide)
    rw [Nat.add_zero] at e0
    exact hd.2.2.2.2.keep hKA (tg dr (by omega) (by omega) (by omega)).2.2 (by decide)
  · obtain ⟨b, h1', h2, h3, h4⟩ := hla l' hl'
    by_cases y : l' = l
    · subst y
      have eb : b = a := some_inj ea h1'
      subst eb
      refine ⟨b, by rw [f13.2.2]; exact h1', h2.keep hKA har (by decide), ?_, h4⟩
      unfold cLaw at h3 ⊢
      rw [show vi M' b = vi M b from hai 0 (by decide), hai 1 (by decide), hai 2 (by decide), hai 3 (by decide)]
      exact h3
    · have sb : ∀ i, i < 6 → same M M' (b + i) := fun i hi => tg _ (by rw [h4 i hi]; omega) (by rw [h4 i hi]; omega) (by rw [h4 i hi]; omega)
      refine ⟨b, by rw [f13.2.2]; exact h1', h2.keep hKA (show same M M' b from sb 0 (by decide)).2.2 (by decide), ?_, h4⟩
      unfold cLaw at h3 ⊢
      rw [(show same M M' b from sb 0 (by decide)).1, (sb 1 (by decide)).1, (sb 2 (by decide)).1, (sb 3 (by decide)).1]
      exact h3
  · obtain ⟨u, h1', h2, h3, h4⟩ := hve l' hl'
    by_cases y : l' = l
    · subst y
      have eb : u = v := some_inj ev h1'
      subst eb
      exact ⟨u, by rw [f14.2.2]; exact h1', h2.keep hKA hvr (by decide), h3, cv⟩
    · have sb : ∀ i, i < 5 → same M M' (u + i) := fun i hi => tg _ (by rw [h3 i hi]; omega) (by rw [h3 i hi]; omega) (by rw [h3 i hi]; omega)
      refine ⟨u, by rw [f14.2.2]; exact h1', h2.keep hKA (show same M M' u from sb 0 (by decide)).2.2 (by decide), h3, ?_⟩
      unfold cVd vSet vCom at h4 ⊢
      rw [(show same M M' u from sb 0 (by decide)).1, (show same M M' u from sb 0 (by decide)).2.1, (sb 1 (by decide)).2.1, (sb 2 (by decide)).1, (sb 3 (by decide)).1]
      exact h4
  · obtain ⟨b, h1', h2, h3, h4⟩ := (him i hi2).2 S hS
    have sb : ∀ j, j < 9 → same M M' (b + j) := fun j hj => tg _ (by rw [h4 j hj]; omega) (by rw [h4 j hj]; omega) (by rw [h4 j hj]; omega)
    exact ⟨b, by rw [f12.2.2]; exact h1', h2.keep hKA (show same M M' b from sb 0 (by decide)).2.2 (by decide), h3.keep F km sb, h4⟩
  · have z := h.2.2.2.2.2.2.2.2.2.2.1
    unfold cEd at z ⊢
    rw [(fx 46 (by decide) (by decide) (no 46 (by omega))).1, show x + 46 + 1 = x + 47 from rfl, (fx 47 (by decide) (by decide) (no 47 (by omega))).1]
    exact z
  · have z := h.2.2.2.2.2.2.2.2.2.2.2.1
    unfold cMv at z ⊢
    rw [(fx 50 (by decide) (by decide) (no 50 (by omega))).1]
    exact z
  · have z := h.2.2.2.2.2.2.2.2.2.2.2.2
    unfold cFw at z ⊢
    rw [f0.1]
    exact z
/-- blocks of different owners lie apart -/
theorem apart {a n b k : Nat} {p q : Nat} (hp : ∀ i, i < n → w (a + i) = p) (hq : ∀ i, i < k → w (b + i) = q) (hn : p ≠ q) (k0 : 0 < k) (n0 : 0 < n) : a + n ≤ b ∨ b + k ≤ a := by
  rcases Nat.lt_or_ge b (a + n) with z | z
  · rcases Nat.lt_or_ge a (b + k) with y | y
    · exfalso
      rcases Nat.lt_or_ge a b with u | u
      · have e1 := hp (b - a) (by omega)
        have e2 := hq 0 k0
        rw [show a + (b - a) = b by omega] at e1
        rw [Nat.add_zero] at e2
        omega
      · have e1 := hp 0 n0
        have e2 := hq (a - b) (by omega)
        rw [show b + (a - b) = a by omega] at e2
        rw [Nat.add_zero] at e1
        omega
    · exact Or.inr y
  · exact Or.inl z
theorem k_judged {r : Int32} {Q : Option Nat → Mem → Prop} (h : XC w M x T c) (hn : ¬ lwOk T r → Q none M) (hy : ∀ l, r = nI l → l < qN T → ∀ M' v, XC w M' x T c → Cu x M M' → vr M' (x + 14) l = some v → ObAt 10 M' v → (∀ i, i < 5 → w (v + i) = 30 + l) → vi M' v 4 = nI c → vSet M' v (sh T) (qL T l) → Q (some v) M') : CR G (d + 5) 141 [.ref x, .int r] M Q := by
  have X := h.1
  have q4 := h.2.2.1.2.2.2.1
  have cl := h.cl
  refine c_X11_judged X ?_
  rw [h.q, fb_lt0, fa_lt, nI_toIntN (by omega)]
  refine ⟨fun z => hn (fun y => by have := y.1; omega), fun z => ⟨fun z2 => ?_, fun z2 => hn (fun y => z2 y.2)⟩⟩
  obtain ⟨l, hl, er⟩ := asN (N := qN T) (by omega) z2
  subst er
  have hy := hy l rfl hl
  obtain ⟨a, a1, a2, a3, a4⟩ := h.dy.2.1 l hl
  obtain ⟨v, v1, v2, v3, v4⟩ := h.dy.2.2.1 l hl
  rw [nI_clamp (by omega), h.ch]
  refine ⟨vp_in_nI (by omega) (by omega), fun r1 e1 => ⟨vp_in_nI (by omega) (by omega), fun r2 e2 => ?_, fun e2 => (by rw [a1] at e2; cases e2)⟩, fun e1 => (by rw [v1] at e1; cases e1)⟩
  have er1 : r1 = v := some_inj v1 e1
  have er2 : r2 = a := some_inj a1 e2
  subst er1 er2
  refine ⟨v2.1, fun e4 => hy M r1 h Cu.refl v1 v2 v3 e4 (v4.2.2.1 e4), fun n4 => ⟨v2.1, ?_⟩⟩
  have ow : ∀ i, i < 9 → w (x + 3 + i) = 0 := fun i hi => by rw [Nat.add_assoc]; exact h.ow.1 _ (by omega) (by omega)
  have J : Js w M r1 r2 (x + 3) (sh T) (qL T l) := ⟨v2, a2, h.cs, a3, h.2.2.1.2.2.2.2.1 l hl, h.2.1, ⟨apart (w := w) v3 a4 (by omega) (by decide) (by decide), apart (w := w) v3 ow (by omega) (by decide) (by decide), apart (w := w) a4 ow (by omega) (by decide) (by decide)⟩, fun j hj => by rw [v3 j hj]; omega, fun j hj => by rw [a4 j hj]; omega⟩
  refine k_settle J (fun M3 g3 s3 => ?_)
  have sm : ∀ b, w b ≠ 30 + l → w b ≠ 20 + l → same M M3 b := fun b h1 h2 => by
    have n3 : ∀ i, i < 5 → b ≠ r1 + i := fun i hi e => h1 (by rw [e]; exact v3 i hi)
    have n2 : ∀ i, i < 6 → b ≠ r2 + i := fun i hi e => h2 (by rw [e]; exact a4 i hi)
    have y := g3.2.2.2.2.2.1 b (n3 0 (by decide)) (n3 1 (by decide)) (n3 2 (by decide)) (n2 4 (by decide)) (n2 5 (by decide))
    exact ⟨y.1, y.2, by rw [g3.2.2.2.2.1]⟩
  have x0 : same M M3 x := sm x (by have := h.ow.1 0 (by decide) (by decide); rw [Nat.add_zero] at this; omega) (by have := h.ow.1 0 (by decide) (by decide); rw [Nat.add_zero] at this; omega)
  have X3 : XAt M3 x := X.keep (fun b _ => by rw [g3.2.2.1, g3.2.2.2.1]; exact ⟨rfl, rfl⟩) (fun i _ => by rw [g3.2.2.2.2.1])
  have k3 : mK M3 r1 = 11 := by rw [g3.2.2.1]; exact v2.1
  refine ⟨X3, k3, fun M4 e4 => ?_⟩
  rw [x0.1, h.ch] at e4
  have s4 : ∀ b, b ≠ r1 → same M3 M4 b := fun b hb => by rw [e4]; exact ⟨by funext j; rw [vi_seti, if_neg (fun y => hb y.1)], rfl, rfl⟩
  have ne1 : ∀ b, w b ≠ 30 + l → b ≠ r1 := fun b hb e => hb (by rw [e]; exact v3 0 (by decide))
  have dj := J.2.2.2.2.2.2.1.1
  have vs : vSet M4 r1 (sh T) (qL T l) := by
    unfold vSet at s3 ⊢
    rw [(s4 (r1 + 1) (by omega)).2.1, (s4 (r1 + 2) (by omega)).1, show vl M4 r1 = vl M3 r1 by rw [e4]; rfl]
    exact s3
  have e44 : vi M4 r1 4 = nI c := by rw [e4, vi_seti, if_pos ⟨rfl, rfl⟩]
  have i5 : ∀ k, k ≠ 4 → vi M4 r1 k = vi M r1 k := fun k hk => by rw [e4, vi_seti, if_neg (fun y => hk y.2), g3.2.2.2.2.2.2]
  have out : vi M4 (r1 + 3) = vi M (r1 + 3) := by
    rw [(s4 (r1 + 3) (by omega)).1]
    exact (g3.2.2.2.2.2.1 (r1 + 3) (by omega) (by omega) (by omega) (by omega) (by omega)).1
  have cv : cVd M4 r1 (sh T) (qL T l) c := by
    refine ⟨by rw [e44, nI_toIntN (by omega)]; omega, by rw [i5 5 (by decide)]; exact v4.2.1, fun _ => vs, fun e5 => ?_⟩
    rw [i5 5 (by decide)] at e5
    have vc := v4.2.2.2 e5
    unfold vCom at vc ⊢
    rw [i5 3 (by decide), out]
    exact vc
  have xs : ∀ i, i < 101 → (i < 19 ∨ 25 ≤ i) → w (x + i) ≠ 30 + l ∧ w (x + i) ≠ 20 + l := fun i h1 h2 => by
    rcases Nat.lt_or_ge i 55 with z | z
    · rw [h.ow.1 i z h2]; omega
    · have := h.ow.2 (i - 55) (by omega)
      rw [show x + 55 + (i - 55) = x + i by omega] at this
      rw [this]; omega
  have H : XC w M4 x T c := by
    refine h.verd hl v1 a1 v3 a4 (by rw [e4]; exact g3.1) (by rw [e4]; exact g3.2.2.1) (by rw [e4]; exact g3.2.2.2.1) (fun b h1 h2 _ => (sm b h1 h2).trans (s4 b (ne1 b h1))) (fun i _ => by rw [e4, vr_seti, g3.2.2.2.2.1]) ?_ (by rw [e4, vr_seti, g3.2.2.2.2.1]) (by rw [e4, vr_seti, g3.2.2.2.2.1]) (fun i hi => ?_) cv
    · have y := xs 1 (by decide) (by decide)
      rw [((sm (x + 1) y.1 y.2).trans (s4 _ (ne1 _ y.1))).1]
    · rw [(s4 (r2 + i) (by omega)).1]
      exact (g3.2.2.2.2.2.1 (r2 + i) (by omega) (by omega) (by omega) (by omega) (by omega)).1
  refine hy M4 r1 H ⟨fun b h1 h2 => ?_, ?_, ?_⟩ ?_ ?_ v3 e44 vs
  · have y := xs (b - x) (by omega) (by omega)
    rw [show x + (b - x) = b by omega] at y
    exact ⟨(sm b y.1 y.2).trans (s4 b (ne1 b y.1)), by rw [e4, mK_seti, g3.2.2.1], by rw [e4, mA_seti, g3.2.2.2.1]⟩
  · rw [e4, mN_seti, g3.1]; omega
  · rw [e4, mS_seti, g3.2.1]; omega
  · rw [e4, vr_seti, g3.2.2.2.2.1]; exact v1
  · exact v2.cg (by rw [e4]; exact g3.2.2.1) (by rw [e4]; exact g3.2.2.2.1) (by rw [e4]; exact g3.2.2.2.2.1)
end
