/-! COSTS: the class -/
noncomputable def csI (S : ShT) (ss : List Nat) : Nat → Int32
  | 0 => 0
  | i + 1 => csI S ss i + cif (∀ j, j < i → ¬ kM S (ss.getD j 0) = kM S (ss.getD i 0)) (cC S (kK (kM S (ss.getD i 0))).toNatClampNeg * kL (kM S (ss.getD i 0))) 0
theorem csI_l {S : ShT} {L K : List Nat} : ∀ i, i ≤ L.length → csI S (L ++ K) i = csI S L i
  | 0, _ => rfl
  | i + 1, h => by
    show csI S (L ++ K) i + _ = csI S L i + _
    rw [csI_l i (by omega), gD_l (show i < L.length by omega)]
    congr 1
    have : (∀ j, j < i → ¬ kM S ((L ++ K).getD j 0) = kM S (L.getD i 0)) = (∀ j, j < i → ¬ kM S (L.getD j 0) = kM S (L.getD i 0)) := propext ⟨fun z j hj => by have := z j hj; rw [gD_l (by omega)] at this; exact this, fun z j hj => by rw [gD_l (by omega)]; exact z j hj⟩
    rw [this]
theorem csI_M {S : ShT} {p : Nat → Prop} : ∀ n, csI S (psl p n) (psl p n).length = csM S p n
  | 0 => rfl
  | n + 1 => by
    have ih := csI_M (S := S) (p := p) n
    by_cases c : p n
    · rw [psl_y c, List.length_append]
      show csI S (psl p n ++ [n]) (psl p n).length + _ = csM S p n + _
      rw [csI_l _ (Nat.le_refl _), ih]
      have e : (psl p n ++ [n]).getD (psl p n).length 0 = n := gA_m (psl p n) n 0 []
      rw [e]
      congr 1
      have : (∀ j, j < (psl p n).length → ¬ kM S ((psl p n ++ [n]).getD j 0) = kM S n) = (p n ∧ ∀ o, o < n → p o → ¬ kM S o = kM S n) := propext ⟨fun z => ⟨c, fun o ho po => by
        obtain ⟨j, hj, ej⟩ := List.getElem_of_mem (psl_mem.mpr ⟨ho, po⟩)
        have := z j hj
        rw [gD_l hj, gDE hj, ej] at this
        exact this⟩, fun z j hj => by
        rw [gD_l hj]
        have := psl_mem.mp (gD_mem hj)
        exact z.2 _ this.1 this.2⟩
      rw [this]
    · rw [psl_n c, ih]
      show _ = csM S p n + _
      rw [cif_F (fun z => c z.1), Int32.add_zero]
section
variable {G : GT} {d : Nat} {M M' : Mem} {v b : Nat} {w : Nat → Nat} {S : ShT} {L : LawT} {ss : List Nat}
theorem k_hasEarlier {i r : Nat} {Q : Int32 → Mem → Prop} (O : ObAt 10 M v) (V : okS S) (hm : mrA w M (v + 4) S ss) (hi : i < ss.length) (er : vr M (v + 4) i = some r) (hq : Q (bI (¬ ∀ j, j < i → ¬ kM S (ss.getD j 0) = kM S (ss.getD i 0))) M) : CI G (d + 3) 107 [.ref v, .int (nI i), .ref r] M Q := by
  have s6 := hm.2.1
  have a6 := hm.2.2.1
  obtain ⟨im, r', er', hr⟩ := hm.2.2.2 i hi
  have e1 : r' = r := some_inj er er'
  subst e1
  have key : ∀ k j, k + j = i → (∀ j', j' < j → ¬ kM S (ss.getD j' 0) = kM S (ss.getD i 0)) → At G (d + 3) 107 2 [(0, .ref v), (1, .int (nI i)), (2, .ref r'), (3, .int (nI j))] [] M (qI Q) := by
    intro k
    induction k with
    | zero =>
      intro j e hj
      refine c_X10_hasEarlier_2 O hr.1.1 ?_
      rw [le_I (by omega) (by omega)]
      exact ⟨fun _ => qF2 hq (fun z => z (fun j' h' => hj j' (by omega))), fun z => absurd (by omega) z⟩
    | succ k ih =>
      intro j e hj
      obtain ⟨jm, rj, ej, hr2⟩ := hm.2.2.2 j (by omega)
      refine c_X10_hasEarlier_2 O hr.1.1 ?_
      rw [le_I (by omega) (by omega), nI_clamp (by omega), nI_1]
      refine ⟨fun z => absurd z (by omega), fun _ => ⟨fun z => absurd z (nI_ge (a := j) (b := 64) (by omega) (by decide)), fun _ => ⟨vp_in_nI (by omega) (by omega), fun r1 e1 => ?_, fun e1 => (by rw [ej] at e1; cases e1)⟩⟩⟩
      have e2 : r1 = rj := some_inj ej e1
      subst e2
      refine ⟨hr2.1.1, k_isAlike hr2.1 hr.1 (V.m jm) (V.m im) ⟨⟨O, hr.1.1⟩, bz (fun y => ?_) (fun n => ih (j + 1) (by omega) (fun j' h' => ?_))⟩⟩
      · exact qT2 hq (fun z => z j (by omega) y)
      · by_cases y : j' = j
        · rw [y]; exact n
        · exact hj j' (by omega)
  exact c_X10_hasEarlier O hr.1.1 (key i 0 rfl (fun j' h' => absurd h' (Nat.not_lt_zero j')))
theorem k_costOfMarks {Q : Int32 → Mem → Prop} (O : ObAt 10 M v) (W : CS w M b S) (Fm : frM M) (hv : vSet M v S L) (hw : ∀ j, j < 5 → w (v + j) ≠ 2) (dj : v + 5 ≤ b ∨ b + 9 ≤ v) (hq : ∀ M', Frv v [] [4] M M' → Q (csM S (stS S L) 64) M') : CI G (d + 4) 106 [.ref v, .ref b] M Q := by
  have V := W.2.1
  refine c_X10_costOfMarks O W.1 (k_gather O W Fm hv hw dj (fun M1 g1 m1 => ?_))
  have O1 := g1.ob O
  have hw4 : ∀ c, w c = 2 → c ≠ v ∧ ∀ i ∈ [4], c ≠ v + i := fun c hc => ⟨fun e => hw 0 (by decide) (by rw [Nat.add_zero, ← e]; exact hc), fun i hi e => hw i (by simp at hi; omega) (by rw [← e]; exact hc)⟩
  have km : keepM w M M1 := fun c hc _ => ⟨g1.2.2.2.2.1 c (hw4 c hc).1 (hw4 c hc).2, by rw [g1.2.2.1], by rw [g1.2.2.2.1]⟩
  have W1 : CS w M1 b S := ⟨g1.ob2 (by omega) (fun i hi => by simp at hi; omega) W.1, V, W.2.2.keep Fm km (fun i hi => g1.2.2.2.2.1 _ (by omega) (fun j hj => by simp at hj; omega))⟩
  have hq := hq M1 g1
  rw [← csI_M] at hq
  have s6 := m1.2.1
  have a6 := m1.2.2.1
  generalize psl (stS S L) 64 = ss at *
  refine ⟨⟨O1, W1.1⟩, ?_⟩
  have key : ∀ k i, k + i = ss.length → At G (d + 4) 106 11 [(0, .ref v), (1, .ref b), (2, .int (nI ss.length)), (3, .int (csI S ss i)), (4, .int (nI i))] [] M1 (qI Q) := by
    intro k
    induction k with
    | zero =>
      intro i e
      have e : i = ss.length := by omega
      subst e
      refine c_X10_costOfMarks_11 O1 W1.1 ?_
      rw [le_I (by omega) (by omega)]
      exact ⟨fun _ => hq, fun z => absurd (Nat.le_refl _) z⟩
    | succ k ih =>
      intro i e
      have nx := ih (i + 1) (by omega)
      obtain ⟨im, r, er, hr⟩ := m1.2.2.2 i (by omega)
      have ok := V.m im
      obtain ⟨kk, hk, ek⟩ := asN (a := kK (kM S (ss.getD i 0))) (N := 6) ok.1.1 (by have := ok.1.2; omega)
      refine c_X10_costOfMarks_11 O1 W1.1 ?_
      rw [le_I (by omega) (by omega), nI_clamp (n := i) (by omega), nI_1]
      refine ⟨fun z => absurd z (by omega), fun _ => ⟨vp_in_nI (by omega) (by omega), fun r3 e3 => ?_, fun e3 => (by rw [er] at e3; cases e3)⟩⟩
      have e2 : r3 = r := some_inj er e3
      subst e2
      rw [hr.1.f0, ek]
      refine ⟨hr.1.1, fun z => absurd z (nlt0 _ (by omega)), fun _ => ⟨hr.1.1, fun z => absurd z (nI_ge (a := kk) (b := 6) (by omega) (by decide)), fun _ => ?_⟩⟩
      refine k_hasEarlier O1 V m1 (by omega) er ⟨⟨O1, W1.1⟩, bnz (fun y => ?_) (fun n => ?_)⟩
      · have e1 : csI S ss (i + 1) = csI S ss i := by show _ + cif _ _ _ = _; rw [cif_F y, Int32.add_zero]
        rw [e1] at nx; exact nx
      · have e1 : csI S ss (i + 1) = csI S ss i + cC S (kK (kM S (ss.getD i 0))).toNatClampNeg * kL (kM S (ss.getD i 0)) := by show _ + cif _ _ _ = _; rw [cif_T (Classical.byContradiction n)]
        rw [e1, ek, nI_clamp (n := kk) (by omega)] at nx
        rw [hr.1.f0, ek, nI_clamp (n := kk) (by omega), W1.2.2.2.2.2.2.2.2.1 kk (by omega), hr.1.2.2.2.2.2.1]
        exact ⟨hr.1.1, vp_in_nI (by omega) (by omega), hr.1.1, nx⟩
  exact key ss.length 0 rfl
end
section
variable {G : GT} {d : Nat} {M M' : Mem} {x c : Nat} {W : Nat → Nat} {T : StT}
theorem XC.gath {l v : Nat} (h : XC W M x T c) (hl : l < qN T) (ev : vr M (x + 14) l = some v) (wv : ∀ i, i < 5 → W (v + i) = 30 + l) (g : Frv v [] [4] M M') : XC W M' x T c ∧ Cv x M M' := by
  have q4 := h.2.2.1.2.2.2.1
  have ow := h.ow.1
  obtain ⟨a, a1, a2, a3, a4⟩ := h.dy.2.1 l hl
  obtain ⟨v', v1, v2, v3, v4⟩ := h.dy.2.2.1 l hl
  have evv : v' = v := some_inj ev v1
  subst evv
  have sm : ∀ b, W b ≠ 30 + l → same M M' b := fun b hb => g.2.2.2.2.1 b (fun e => hb (by rw [e]; exact wv 0 (by decide))) (fun i hi e => hb (by rw [e]; exact wv i (by simp at hi; omega)))
  have fv : ∀ k, vi M' v' k = vi M v' k := fun k => g.f (by simp)
  have fl : ∀ k, vl M' v' k = vl M v' k := fun k => g.fl (by simp)
  have e1 : ∀ o, o ≠ 4 → 0 < o → o < 5 → same M M' (v' + o) := fun o h4 h0 h5 => g.2.2.2.2.1 _ (by omega) (fun i hi => by simp at hi; omega)
  have wx : ∀ i, (i < 19 ∨ 25 ≤ i) → i < 101 → W (x + i) ≠ 30 + l := fun i h1' h2 => by
    rcases Nat.lt_or_ge i 55 with z | z
    · rw [ow i z h1']; omega
    · have := h.ow.2 (i - 55) (by omega)
      rw [show x + 55 + (i - 55) = x + i by omega] at this
      rw [this]; omega
  refine ⟨h.verd hl ev a1 wv a4 g.1 g.2.2.1 g.2.2.2.1 (fun b h2 _ _ => sm b h2) (fun i hi => (sm _ (wx i (by omega) (by omega))).2.2) ?_ g.2.2.2.2.2.1 ?_ (fun i hi => ?_) ?_, ?_, g.1, g.2.1⟩
  · rw [(sm _ (wx 1 (by omega) (by omega))).1]
  · rw [(sm a (by have := a4 0 (by decide); rw [Nat.add_zero] at this; omega)).2.2]
  · rw [(sm (a + i) (by rw [a4 i (by omega)]; omega)).1]
  · refine ⟨by rw [fv]; exact v4.1, by rw [fv]; exact v4.2.1, fun e => ?_, fun e => ?_⟩
    · rw [fv] at e
      have := v4.2.2.1 e
      unfold vSet at this ⊢
      rw [(e1 1 (by decide) (by decide) (by decide)).2.1, (e1 2 (by decide) (by decide) (by decide)).1, fl]
      exact this
    · rw [fv] at e
      have := v4.2.2.2 e
      unfold vCom at this ⊢
      rw [(e1 3 (by decide) (by decide) (by decide)).1, fv]
      exact this
  · intro a h2 h3
    have y := wx (a - x) (by omega) (by omega)
    rw [show x + (a - x) = a by omega] at y
    exact ⟨sm a y, by rw [g.2.2.1], by rw [g.2.2.2.1]⟩
theorem k_costs {r v : Int32} {Q : Int32 → Mem → Prop} (h : XC W M x T c) (hq : ∀ M', XC W M' x T c → Cu x M M' → Q (f_costs T r v) M') : CI G (d + 7) 132 [.ref x, .int r, .int v] M Q := by
  unfold f_costs at hq
  have q4 := h.2.2.1.2.2.2.1
  refine c_X11_costs h.1 (k_composed h (fun n => ⟨h.1, fun r2 er => (by cases er), fun _ => ?_⟩) (fun l er hl M1 u h1 u1 ev ov wv vs vc => ⟨h1.1, fun r2 e2 => ?_, fun e2 => (by cases e2)⟩))
  · rw [cif_F (fun z => n z.1)] at hq; exact hq M h Cu.refl
  · cases e2
    subst er
    have lw : lwOk T (nI l) := by unfold lwOk; rw [nI_toIntN (by omega)]; omega
    refine k_isWidth ⟨h1.1, bnz (fun cw => ?_) (fun cw => by rw [cif_F (fun z => cw z.2)] at hq; exact hq M1 h1 u1)⟩
    rw [cif_T ⟨lw, cw⟩] at hq
    obtain ⟨w, hw, ew⟩ := asN (a := v) (N := 61) (by have := cw.1; omega) (by have := cw.2; omega)
    subst ew
    unfold wOk at cw
    rw [nI_toIntN (by omega)] at cw
    rw [nI_clamp (n := w) (by omega), nI_clamp (n := l) (by omega)] at hq
    have ow3 : ∀ i, i < 9 → W (x + 3 + i) = 0 := fun i hi => by rw [Nat.add_assoc]; exact h1.ow.1 _ (by omega) (by omega)
    have d1 : u + 5 ≤ x + 3 ∨ x + 3 + 9 ≤ u := apart (w := W) wv ow3 (by omega) (by decide) (by decide)
    refine ⟨ov.1, k_costOfMarks ov h1.cs h1.2.1 vs (fun j hj => by rw [wv j hj]; omega) d1 (fun M2 g2 => ?_)⟩
    obtain ⟨h2, u2⟩ := h1.gath hl ev wv g2
    have vc2 : vCom M2 u (sh T) (qL T l) := ⟨by rw [g2.f (by simp)]; exact vc.1, fun i hi => by rw [(g2.2.2.2.2.1 (u + 3) (by omega) (fun j hj => by simp at hj; omega)).1]; exact vc.2 i hi⟩
    refine ⟨h2.1, show vp_in (nI 6) 7 from vp_in_nI (by omega) (by omega), ?_⟩
    rw [show (6 : Int32).toNatClampNeg = 6 from rfl, h2.cs.2.2.2.2.2.2.2.2.1 6 (by decide)]
    exact k_unlikePages (g := 1) h2 hl (g2.ob ov) wv vc2 (by omega) (by omega) (by decide) (by decide) (fun M3 h3 u3 _ => ⟨h3.1, hq M3 h3 ((u1.cv u2).cv u3)⟩)
end
