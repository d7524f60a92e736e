/-! OUT, READS: the class's calls -/
section
variable {G : GT} {d : Nat} {M M' : Mem} {v b : Nat} {w : Nat → Nat} {S : ShT} {L : LawT}
theorem k_gather {Q : Int32 → Mem → Prop} (O : ObAt 10 M v) (W : CS w M b S) (Fm : frM M) (hv : vSet M v S L) (hw : ∀ j, j < 5 → w (v + j) ≠ 2) (dj : v + 5 ≤ b ∨ b + 9 ≤ v) (hq : ∀ M', Frv v [] [4] M M' → mrA w M' (v + 4) S (psl (stS S L) 64) → Q (nI (psl (stS S L) 64).length) M') : CI G (d + 1) 105 [.ref v, .ref b] M Q := by
  have V := W.2.1
  have hw4 : ∀ c, w c = 2 → c ≠ v ∧ ∀ i ∈ [4], c ≠ v + i := fun c hc => ⟨fun e => hw 0 (by decide) (by rw [Nat.add_zero, ← e]; exact hc), fun i hi e => hw i (by simp at hi; omega) (by rw [← e]; exact hc)⟩
  have KM : ∀ {M' : Mem}, Frv v [] [4] M M' → keepM w M M' := fun g c hc _ => ⟨g.2.2.2.2.1 c (hw4 c hc).1 (hw4 c hc).2, by rw [g.2.2.1], by rw [g.2.2.2.1]⟩
  have WS : ∀ {M' : Mem}, Frv v [] [4] M M' → CS w M' b S := fun g => ⟨g.ob2 (by omega) (fun i hi => by simp at hi; omega) W.1, V, W.2.2.keep Fm (KM g) (fun i hi => g.2.2.2.2.1 _ (by omega) (fun j hj => by simp at hj; omega))⟩
  have key : ∀ (j i : Nat) (Mx : Mem), j + i = 64 → Frv v [] [4] M Mx → (∀ k, k < (psl (stS S L) i).length → isM S ((psl (stS S L) i).getD k 0) ∧ ∃ r, vr Mx (v + 4) k = some r ∧ cMk w Mx r (kM S ((psl (stS S L) i).getD k 0))) → At G (d + 1) 105 4 [(0, .ref v), (1, .ref b), (2, .int (nI (psl (stS S L) i).length)), (3, .int (nI i))] [] Mx (qI Q) := by
    intro j
    induction j with
    | zero =>
      intro i Mx e gx hx
      have e : i = 64 := by omega
      subst e
      have l6 : (psl (stS S L) 64).length ≤ 64 := by rw [psl_ct]; exact ct_le _ _
      refine c_X10_gather_4 (gx.ob O) (WS gx).1 ⟨fun _ => hq Mx gx ⟨?_, ?_, ?_, hx⟩, fun z => absurd (show (64 : Int32) ≤ nI 64 from nI_le (a := 64) (by omega) (by omega)) z⟩
      · exact ob10_k7 (gx.ob O)
      · rw [ob10_l7 (gx.ob O)]; exact l6
      · rw [ob10_l7 (gx.ob O)]; exact Nat.le_refl _
    | succ j ih =>
      intro i Mx e gx hx
      have v6 : vp_in (nI i) 64 := vp_in_nI (by omega) (by omega)
      have li : (psl (stS S L) i).length ≤ i := by rw [psl_ct]; exact ct_le _ _
      have jl := jS_le (S := S) (L := L) (s := i)
      have st1 : vi Mx (v + 2) i = 1 ↔ stS S L i := by
        rw [(gx.c (o := 2) (by decide) (by decide)).1]
        by_cases is : isM S i
        · rw [((hv.1 i (by omega)).1 is).2, show (1 : Int32) = nI 1 from rfl, eq_I (by omega) (by omega)]
          exact ⟨fun z => ⟨is, z⟩, fun z => z.2⟩
        · rw [((hv.1 i (by omega)).2 is).2]
          exact ⟨fun z => absurd z (by decide), fun z => absurd z.1 is⟩
      refine c_X10_gather_4 (gx.ob O) (WS gx).1 ⟨fun z => absurd z (nI_ge (a := i) (b := 64) (by omega) (by decide)), fun _ => ⟨v6, ?_⟩⟩
      rw [nI_clamp (n := i) (by omega), st1, nI_1]
      refine ⟨fun n => ?_, fun y => ⟨fun z => absurd z (nI_ge (a := (psl (stS S L) i).length) (b := 64) (by omega) (by decide)), fun _ => ⟨v6, fun r1 e1 => ⟨vp_in_nI (by omega) (by omega), ?_⟩, fun e1 => ?_⟩⟩⟩
      · have := ih (i + 1) Mx (by omega) gx (by rw [psl_n n]; exact hx)
        rw [psl_n n] at this
        exact this
      · obtain ⟨r, er, hr⟩ := (WS gx).m y.1
        have e1 : r1 = r := some_inj er e1
        subst e1
        refine ⟨by rw [hr.1.k, ob10_k7 (gx.ob O)]; rfl, fun M2 e2 => ?_⟩
        rw [nI_clamp (by omega)] at e2
        have g2 : Frv v [] [4] Mx M2 := by rw [e2]; exact Frv.sr (by decide) (by decide)
        have gg := gx.trans g2
        have FX : frM Mx := fun c hc => by rw [gx.2.2.1]; exact Fm c (by rw [← gx.1]; exact hc)
        have KM2 : keepM w Mx M2 := fun c hc _ => ⟨g2.2.2.2.2.1 c (hw4 c hc).1 (hw4 c hc).2, by rw [g2.2.2.1], by rw [g2.2.2.2.1]⟩
        have := ih (i + 1) M2 (by omega) gg (by
          rw [psl_y y]
          intro k hk
          rw [List.length_append] at hk
          have hk : k < (psl (stS S L) i).length + 1 := hk
          by_cases u : k = (psl (stS S L) i).length
          · rw [u, gA_r]
            exact ⟨y.1, r1, by rw [e2, vr_setr, if_pos ⟨rfl, rfl⟩], hr.keep FX KM2⟩
          · rw [gA_l (by omega)]
            obtain ⟨is, r', er', hr'⟩ := hx k (by omega)
            exact ⟨is, r', by rw [e2, vr_setr, if_neg (fun q => u q.2)]; exact er', hr'.keep FX KM2⟩)
        rw [psl_y y, List.length_append] at this
        rw [nI_1]
        exact this
      · obtain ⟨r, er, hr⟩ := (WS gx).m y.1
        rw [er] at e1; cases e1
  exact c_X10_gather O W.1 (key 64 0 M rfl Frv.refl (fun k hk => absurd hk (Nat.not_lt_zero k)))
end
section
variable {G : GT} {d : Nat} {M M' : Mem} {x c : Nat} {w : Nat → Nat} {T : StT}
theorem k_composed {r : Int32} {Q : Option Nat → Mem → Prop} (h : XC w M x T c) (hn : ¬ lwOk T r → Q none M) (hy : ∀ l, r = nI l → l < qN T → ∀ M' v, XC w M' x T c → Cu x M M' → vr M' (x + 14) l = some v → ObAt 10 M' v → (∀ i, i < 5 → w (v + i) = 30 + l) → vSet M' v (sh T) (qL T l) → vCom M' v (sh T) (qL T l) → Q (some v) M') : CR G (d + 6) 142 [.ref x, .int r] M Q := by
  have cl := h.cl
  refine c_X11_composed h.1 (k_judged h (fun n => ⟨h.1, fun r2 er => (by cases er), fun _ => hn n⟩) (fun l er hl M1 v h1 u1 ev ov wv e4 vs => ⟨h1.1, fun r2 e2 => ?_, fun e2 => (by cases e2)⟩))
  cases e2
  have q4 := h.2.2.1.2.2.2.1
  obtain ⟨a, a1, a2, a3, a4⟩ := h1.dy.2.1 l hl
  obtain ⟨v', v1, v2, v3, v4⟩ := h1.dy.2.2.1 l hl
  have evv : v' = v := some_inj ev v1
  subst evv
  rw [h1.ch]
  refine ⟨ov.1, fun e5 => hy l er hl M1 v' h1 u1 ev ov wv vs (v4.2.2.2 e5), fun _ => ⟨ov.1, ?_⟩⟩
  have ow := h1.ow.1
  have ow3 : ∀ i, i < 9 → w (x + 3 + i) = 0 := fun i hi => by rw [Nat.add_assoc]; exact ow _ (by omega) (by omega)
  have ow25 : ∀ i, i < 11 → w (x + 25 + i) = 0 := fun i hi => by rw [Nat.add_assoc]; exact ow _ (by omega) (by omega)
  have d1 : v' + 5 ≤ x + 3 ∨ x + 3 + 9 ≤ v' := apart (w := w) wv ow3 (by omega) (by decide) (by decide)
  have d2 : v' + 5 ≤ x + 25 ∨ x + 25 + 11 ≤ v' := apart (w := w) wv ow25 (by omega) (by decide) (by decide)
  have d3 : v' + 5 ≤ a ∨ a + 6 ≤ v' := apart (w := w) wv a4 (by omega) (by decide) (by decide)
  have X1 := h1.1
  have F1 := h1.2.1
  have O25 : ObAt 0 M1 (x + 25) := X1.2.2.2.2.2.1
  refine c_X10_compose ov X1.2.2.1 O25 (k_gather ov h1.cs F1 vs (fun j hj => by rw [wv j hj]; omega) d1 (fun M2 g2 m2 => ?_))
  have hw4 : ∀ cc, w cc = 2 → cc ≠ v' ∧ ∀ i ∈ [4], cc ≠ v' + i := fun cc hc => ⟨fun e => by have := wv 0 (by decide); rw [Nat.add_zero, ← e] at this; omega, fun i hi e => by have := wv i (by simp at hi; omega); rw [← e] at this; omega⟩
  have km2 : keepM w M1 M2 := fun cc hc _ => ⟨g2.2.2.2.2.1 cc (hw4 cc hc).1 (hw4 cc hc).2, by rw [g2.2.2.1], by rw [g2.2.2.2.1]⟩
  have F2 : frM M2 := fun cc hc => by rw [g2.2.2.1]; exact F1 cc (by rw [← g2.1]; exact hc)
  have W2 : CS w M2 (x + 3) (sh T) := ⟨g2.ob2 (by omega) (fun i hi => by simp at hi; omega) X1.2.2.1, h1.cs.2.1, h1.cs.2.2.keep F1 km2 (fun i hi => g2.2.2.2.2.1 _ (by omega) (fun j hj => by simp at hj; omega))⟩
  have O2 : ObAt 0 M2 (x + 25) := g2.ob2 (by omega) (fun i hi => by simp at hi; omega) O25
  have ov2 := g2.ob ov
  refine ⟨⟨ov2, W2.1, O2⟩, k_compose O2 W2 F2 stS_ok m2 (fun cc hc => ⟨fun e => by have := ow25 0 (by decide); rw [Nat.add_zero, ← e] at this; omega, fun i hi e => by have := ow25 i (by simp at hi; omega); rw [← e] at this; omega⟩) ⟨by omega, fun i hi => by simp at hi; omega⟩ (by omega) (fun M3 g3 t3 => ?_)⟩
  have n25 : ∀ i, i < 5 → v' + i ≠ x + 25 ∧ ∀ j ∈ [1, 2, 3, 4, 5, 6], v' + i ≠ x + 25 + j := fun i hi => ⟨by omega, fun j hj => by simp at hj; omega⟩
  have s3 : ∀ i, i < 5 → same M2 M3 (v' + i) := fun i hi => g3.2.2.2.2.1 _ (n25 i hi).1 (n25 i hi).2
  have ov3 : ObAt 10 M3 v' := g3.ob2 (n25 0 (by decide)).1 (n25 0 (by decide)).2 ov2
  have b3 : ObAt 8 M3 (x + 3) := g3.ob2 (by omega) (fun i hi => by simp at hi; omega) W2.1
  refine ⟨⟨ov3, b3, g3.ob O2⟩, fun M4 e4' M5 e5' => ?_⟩
  have l4 : ((txt (sh T) (stS (sh T) (qL T l))).take 400).length ≤ 400 := by rw [List.length_take]; omega
  have s4 : ∀ cc, cc ≠ v' → same M3 M4 cc := fun cc hc => by rw [e4']; exact ⟨by funext k; rw [vi_seti, if_neg (fun e => hc e.1)], rfl, rfl⟩
  have v5 : ∀ e, vi M5 e = if e = v' + 3 then va_cpy (vi M4 (x + 25 + 1)) (vi M4 (v' + 3)) 0 0 400 else vi M4 e := fun e => by rw [e5', vi_cpi]; rfl
  have s5 : ∀ cc, cc ≠ v' + 3 → same M4 M5 cc := fun cc hc => ⟨by rw [v5, if_neg hc], by rw [e5']; rfl, by rw [e5']; rfl⟩
  -- all that is as it was
  have sm : ∀ cc, w cc ≠ 30 + l → (∀ i, i < 7 → cc ≠ x + 25 + i) → same M1 M5 cc := fun cc h2 h3 => by
    have nv : ∀ i, i < 5 → cc ≠ v' + i := fun i hi e => h2 (by rw [e]; exact wv i hi)
    exact (g2.2.2.2.2.1 cc (nv 0 (by decide)) (fun i hi => nv i (by simp at hi; omega))).trans ((g3.2.2.2.2.1 cc (h3 0 (by decide)) (fun i hi => h3 i (by simp at hi; omega))).trans ((s4 cc (nv 0 (by decide))).trans (s5 cc (nv 3 (by decide)))))
  have kk : mK M5 = mK M1 ∧ mA M5 = mA M1 ∧ mN M5 = mN M1 ∧ mS M5 = mS M1 := by
    refine ⟨?_, ?_, ?_, ?_⟩
    · rw [e5']; show mK M4 = _; rw [e4', mK_seti, g3.2.2.1, g2.2.2.1]
    · rw [e5']; show mA M4 = _; rw [e4', mA_seti, g3.2.2.2.1, g2.2.2.2.1]
    · rw [e5']; show mN M4 = _; rw [e4', mN_seti, g3.1, g2.1]
    · rw [e5']; show mS M4 = _; rw [e4', mS_seti, g3.2.1, g2.2.1]
  have r5 : ∀ cc, cc ≠ v' + 4 → cc ≠ x + 25 + 5 → vr M5 cc = vr M1 cc ∨ ¬ (cc = v' ∨ cc = x + 25 ∨ (w cc ≠ 30 + l ∧ ∀ i, i < 7 → cc ≠ x + 25 + i)) := fun cc h2 h3 => by
    by_cases z : cc = v' ∨ cc = x + 25 ∨ (w cc ≠ 30 + l ∧ ∀ i, i < 7 → cc ≠ x + 25 + i)
    · left
      rcases z with z | z | z
      · rw [z, (s5 v' (by omega)).2.2, e4', vr_seti, (show same M2 M3 v' from s3 0 (by decide)).2.2, g2.2.2.2.2.2.1]
      · rw [z, (s5 _ (by omega)).2.2, (s4 _ (by omega)).2.2, g3.2.2.2.2.2.1, (g2.2.2.2.2.1 (x + 25) (by omega) (fun i hi => by simp at hi; omega)).2.2]
      · exact (sm cc z.1 z.2).2.2
    · exact Or.inr z
  have xs : ∀ i, i < 101 → (i < 19 ∨ 25 ≤ i) → w (x + i) ≠ 30 + l := fun i h1' h2 => by
    rcases Nat.lt_or_ge i 55 with z | z
    · rw [ow i z h2]; omega
    · have := h1.ow.2 (i - 55) (by omega)
      rw [show x + 55 + (i - 55) = x + i by omega] at this
      rw [this]; omega
  have fxr : ∀ i, (i = 0 ∨ i = 1 ∨ i = 3 ∨ i = 15 ∨ i = 18 ∨ i = 36 ∨ i = 41 ∨ i = 46 ∨ i = 50 ∨ i = 14 ∨ i = 13) → same M1 M5 (x + i) := fun i hi => sm _ (xs i (by omega) (by omega)) (fun j hj => by omega)
  have x25 : vr M5 (x + 25) = vr M1 (x + 25) := (r5 (x + 25) (by omega) (by omega)).resolve_right (fun n => n (Or.inr (Or.inl rfl)))
  have X5 : XAt M5 x := X1.keep (fun b _ => by rw [kk.1, kk.2.1]; exact ⟨rfl, rfl⟩) (fun i hi => by
    by_cases z : i = 25
    · rw [z]; exact x25
    · exact (fxr i (by simp at hi; omega)).2.2)
  refine ⟨X5, by rw [kk.1]; exact ov.1, fun M6 e6 => ?_⟩
  have x0 : same M1 M5 x := fxr 0 (by omega)
  rw [x0.1, h1.ch] at e6
  have s6 : ∀ cc, cc ≠ v' → same M5 M6 cc := fun cc hc => by rw [e6]; exact ⟨by funext k; rw [vi_seti, if_neg (fun e => hc e.1)], rfl, rfl⟩
  have vf : ∀ k, k ≠ 3 → k ≠ 5 → vi M6 v' k = vi M1 v' k := fun k h3 h5 => by
    rw [e6, vi_seti, if_neg (fun e => h5 e.2), (s5 v' (by omega)).1, e4', vi_seti, if_neg (fun e => h3 e.2), (show same M2 M3 v' from s3 0 (by decide)).1, g2.f (by simp)]
  have v63 : vi M6 v' 3 = nI ((txt (sh T) (stS (sh T) (qL T l))).take 400).length := by
    rw [e6, vi_seti, if_neg (by omega), (s5 v' (by omega)).1, e4', vi_seti, if_pos ⟨rfl, rfl⟩]; exact t3.1
  have vlv : vl M6 v' = vl M1 v' := by
    rw [e6]; show vl M5 v' = _
    rw [(s5 v' (by omega)).2.1, e4']; show vl M3 v' = _
    rw [(show same M2 M3 v' from s3 0 (by decide)).2.1]
    funext k; exact g2.fl (by simp)
  have vc : vCom M6 v' (sh T) (qL T l) := by
    unfold vCom ouT
    refine ⟨v63, fun i hi => ?_⟩
    rw [(s6 (v' + 3) (by omega)).1, v5, if_pos rfl]
    show (if 0 ≤ i ∧ i < 0 + 400 then vi M4 (x + 25 + 1) (0 + (i - 0)) else vi M4 (v' + 3) i) = _
    rw [if_pos ⟨Nat.zero_le _, by omega⟩, Nat.zero_add, Nat.sub_zero, (s4 (x + 25 + 1) (by omega)).1]
    exact t3.2 i hi
  have vs6 : vSet M6 v' (sh T) (qL T l) := by
    have e1 : vl M6 (v' + 1) = vl M1 (v' + 1) := by rw [(s6 _ (by omega)).2.1, (s5 _ (by omega)).2.1, (s4 _ (by omega)).2.1, (s3 1 (by decide)).2.1, (g2.c (o := 1) (by decide) (by decide)).2.1]
    have e2 : vi M6 (v' + 2) = vi M1 (v' + 2) := by rw [(s6 _ (by omega)).1, (s5 _ (by omega)).1, (s4 _ (by omega)).1, (s3 2 (by decide)).1, (g2.c (o := 2) (by decide) (by decide)).1]
    unfold vSet at vs ⊢
    rw [e1, e2, vlv]
    exact vs
  have cv : cVd M6 v' (sh T) (qL T l) c := by
    refine ⟨by rw [vf 4 (by decide) (by decide)]; exact v4.1, by rw [e6, vi_seti, if_pos ⟨rfl, rfl⟩, nI_toIntN (by omega)]; omega, fun _ => vs6, fun _ => vc⟩
  have H : XC w M6 x T c := by
    refine h1.verd hl ev a1 wv a4 (by rw [e6]; exact kk.2.2.1) (by rw [e6]; exact kk.1) (by rw [e6]; exact kk.2.1) (fun cc h2 _ h4 => (sm cc h2 (fun i hi e => h4 (25 + i) (by unfold scr; omega) (by omega))).trans (s6 cc (fun e => h2 (by rw [e]; exact wv 0 (by decide))))) (fun i hi => ?_) ?_ ?_ ?_ (fun i hi => ?_) cv
    · rw [(s6 (x + i) (fun e => xs i (by omega) (by omega) (by rw [e]; exact wv 0 (by decide)))).2.2]
      by_cases z : i = 25
      · rw [z]; exact x25
      · exact (fxr i (by omega)).2.2
    · rw [(s6 (x + 1) (by omega)).1, (fxr 1 (by omega)).1]
    · rw [e6, vr_seti]; exact (r5 v' (by omega) (by omega)).resolve_right (fun n => n (Or.inl rfl))
    · have na : ∀ i, i < 7 → a ≠ x + 25 + i := fun i hi e => by have := a4 0 (by decide); rw [Nat.add_zero, e, ow25 i (by omega)] at this; omega
      rw [(s6 a (by omega)).2.2]; exact (sm a (by have := a4 0 (by decide); rw [Nat.add_zero] at this; omega) na).2.2
    · have na : ∀ j, j < 7 → a + i ≠ x + 25 + j := fun j hj e => by have := a4 i (by omega); rw [e, ow25 j (by omega)] at this; omega
      rw [(s6 (a + i) (by omega)).1]; exact (sm (a + i) (by rw [a4 i (by omega)]; omega) na).1
  refine hy l er hl M6 v' H ⟨fun cc h2 h3 => ?_, ?_, ?_⟩ ?_ ?_ wv vs6 vc
  · have y := xs (cc - x) (by omega) (by omega)
    rw [show x + (cc - x) = cc by omega] at y
    have z := u1.1 cc h2 h3
    exact ⟨z.1.trans ((sm cc y (fun i hi => by omega)).trans (s6 cc (fun e => y (by rw [e]; exact wv 0 (by decide))))), by rw [e6, mK_seti, kk.1]; exact z.2.1, by rw [e6, mA_seti, kk.2.1]; exact z.2.2⟩
  · rw [e6, mN_seti, kk.2.2.1]; exact u1.2.1
  · rw [e6, mS_seti, kk.2.2.2]; exact u1.2.2
  · rw [(s6 (x + 14) (fun e => by have := wv 0 (by decide); rw [Nat.add_zero, ← e, ow 14 (by decide) (by decide)] at this; omega)).2.2, (fxr 14 (by omega)).2.2]; exact ev
  · exact ov.keep (fun b _ => by rw [e6, mK_seti, mA_seti, kk.1, kk.2.1]; exact ⟨rfl, rfl⟩) (by rw [e6, vr_seti]; exact (r5 v' (by omega) (by omega)).resolve_right (fun n => n (Or.inl rfl))) (by decide)
theorem k_out {r : Int32} {Q : Int32 → Mem → Prop} (h : XC w M x T c) (hq : ∀ M', XC w M' x T c → Cu x M M' → Q (f_out T r) M') : CI G (d + 7) 126 [.ref x, .int r] M Q := by
  unfold f_out at hq
  have q4 := h.2.2.1.2.2.2.1
  refine c_X11_out h.1 (k_composed h (fun n => ⟨h.1, fun r2 er => (by cases er), fun _ => ?_⟩) (fun l er hl M' v h' u' ev ov wv vs vc => ⟨h'.1, fun r2 e2 => ?_, fun e2 => (by cases e2)⟩))
  · rw [cif_F n] at hq; exact hq M h Cu.refl
  · cases e2
    subst er
    have hq := hq M' h' u'
    have lw : lwOk T (nI l) := by unfold lwOk; rw [nI_toIntN (by omega)]; omega
    rw [nI_clamp (by omega), cif_T lw] at hq
    rw [vc.1]
    exact ⟨ov.1, hq⟩
theorem k_reads {r i : Int32} {Q : Int32 → Mem → Prop} (h : XC w M x T c) (hq : ∀ M', XC w M' x T c → Cu x M M' → Q (f_reads T r i) M') : CI G (d + 7) 127 [.ref x, .int r, .int i] M Q := by
  unfold f_reads at hq
  have q4 := h.2.2.1.2.2.2.1
  refine c_X11_reads h.1 (k_composed h (fun n => ⟨h.1, fun r2 er => (by cases er), fun _ => ?_⟩) (fun l er hl M' v h' u' ev ov wv vs vc => ⟨h'.1, fun r2 e2 => ?_, fun e2 => (by cases e2)⟩))
  · rw [cif_F n] at hq; exact hq M h Cu.refl
  · cases e2
    subst er
    have hq := hq M' h' u'
    have lw : lwOk T (nI l) := by unfold lwOk; rw [nI_toIntN (by omega)]; omega
    rw [nI_clamp (by omega), cif_T lw] at hq
    have o4 := ouT_4 (S := sh T) (L := qL T l)
    rw [vc.1, fb_lt0, fa_lt, nI_toIntN (by omega)]
    refine ⟨fun z => ?_, fun z => ⟨ov.1, fun z2 => ⟨ov.1, fun r3 e3 => ?_, fun e3 => (by rw [ob10_r2 ov] at e3; cases e3)⟩, fun z2 => ?_⟩⟩
    · rw [cif_F (fun y => by have := y.1; omega)] at hq; exact hq
    · have e3 : r3 = v + 3 := some_inj (ob10_r2 ov) e3
      subst e3
      rw [cif_T ⟨by omega, z2⟩] at hq
      obtain ⟨k, hk, ek⟩ := asN (a := i) (N := (ouT (sh T) (qL T l)).length) (by omega) z2
      subst ek
      rw [nI_clamp (by omega)] at hq ⊢
      rw [ob10_l2 ov, vc.2 k hk]
      exact ⟨ob10_k2 ov, vp_in_nI (by omega) (by omega), hq⟩
    · rw [cif_F (fun y => z2 y.2)] at hq; exact hq
end
