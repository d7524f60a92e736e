/-! MORE CELLS: owners w' that are w on the cells there were -/
section
variable {w w' : Nat → Nat} {M M' : Mem} {x : Nat} {T T' : StT} {c c' : Nat}
theorem cMk.ww {o : Nat} {y : MkT} (F : frM M) (ww : ∀ a, a < mN M → w' a = w a) (h : cMk w M o y) : cMk w' M o y := by
  refine ⟨h.1, by rw [ww o (F.lt (by rw [h.1.k]; decide))]; exact h.2.1, fun t e => ?_⟩
  rw [ww t (F.lt ?_)]
  · exact h.2.2 t e
  · rcases h.1.f5 with ⟨_, z⟩ | ⟨_, t', e1, e2, _⟩
    · rw [e] at z; cases z
    · have : t = t' := some_inj e1 e
      subst this
      rw [e2]; decide
theorem cSh.ww {a : Nat} {S : ShT} (F : frM M) (ww : ∀ a, a < mN M → w' a = w a) (h : cSh w M a S) : cSh w' M a S := by
  refine ⟨h.1, h.2.1, h.2.2.1, h.2.2.2.1, h.2.2.2.2.1, fun s hs => ⟨fun im => ?_, (h.2.2.2.2.2.1 s hs).2⟩, h.2.2.2.2.2.2⟩
  obtain ⟨o, e1, e2⟩ := (h.2.2.2.2.2.1 s hs).1 im
  exact ⟨o, e1, e2.ww F ww⟩
/-- the cells behind the fixed ones, when they stay and the laws, images are the same -/
theorem xDy.keepW {w' : Nat → Nat} (ww : ∀ a, a < mN M → w' a = w a) (F : frM M) (h : xDy w M x T c) (X : XAt M x) (hK : ∀ b, mK M b ≠ 0 → mK M' b = mK M b ∧ mA M' b = mA M b) (k : keepM w M M') (e : ∀ a, 10 ≤ w a → a < mN M → same M M' a) (e12 : vr M' (x + 12) = vr M (x + 12)) (e13 : vr M' (x + 13) = vr M (x + 13)) (e14 : vr M' (x + 14) = vr M (x + 14))
    (e18 : vr M' (x + 18) = vr M (x + 18)) (e1 : vr M' (x + 1) = vr M (x + 1)) (hT : T'.2.2 = T.2.2) (hc0 : c < 1000000) (hc : (c' = c ∧ sh T' = sh T) ∨ c' = c + 1) : xDy w' M' x T' c' := by
  have q1 : qN T' = qN T := by unfold qN; rw [hT]
  have q2 : qL T' = qL T := by unfold qL; rw [hT]
  have q3 : iM T' = iM T := by unfold iM; rw [hT]
  obtain ⟨⟨a, hd, hw⟩, hl, hv, hi⟩ := h
  have lt : ∀ {q a : Nat}, ObAt q M a → q < 13 → a < mN M := fun h _ => F.lt (by rw [h.1]; omega)
  have lt2 : ∀ {q a : Nat}, ObAt q M a → q < 13 → ∀ z ∈ obTab q, a + z.2.1 < mN M := fun h hq z hz => F.lt (by rw [(h.2 z hz).2.1]; exact (obTab_ok _ hq z hz).1)
  have all : ∀ {q a i : Nat}, ObAt q M a → q < 13 → (i = 0 ∨ ∃ z ∈ obTab q, z.2.1 = i) → a + i < mN M := fun h hq hi => by
    rcases hi with hi | ⟨z, hz, e⟩
    · rw [hi, Nat.add_zero]; exact lt h hq
    · rw [← e]; exact lt2 h hq z hz
  have tb2 : ∀ i, i < 6 → i = 0 ∨ ∃ z ∈ obTab 2, z.2.1 = i := by decide +kernel
  have tb10 : ∀ i, i < 5 → i = 0 ∨ ∃ z ∈ obTab 10, z.2.1 = i := by decide +kernel
  have tb8 : ∀ i, i < 9 → i = 0 ∨ ∃ z ∈ obTab 8, z.2.1 = i := by decide +kernel
  refine ⟨⟨a, ⟨?_, ?_, ?_, ?_, ?_⟩, fun i hi => by rw [ww _ (all hd.2.2.2.2 (by decide) (tb2 i hi))]; exact hw i hi⟩, fun l hl2 => ?_, fun l hl2 => ?_, fun i hi2 => ?_⟩
  · rw [(hK _ (by rw [hd.1]; decide)).1]; exact hd.1
  · rw [e18]; exact hd.2.1
  · exact hd.2.2.1.keep hK e1 (by decide)
  · rw [e18]; exact hd.2.2.2.1
  · exact hd.2.2.2.2.keep hK (e a (by have := hw 0 (by decide); rw [Nat.add_zero] at this; omega) (lt hd.2.2.2.2 (by decide))).2.2 (by decide)
  · rw [q1] at hl2
    obtain ⟨b, h1, h2, h3, h4⟩ := hl l hl2
    have s0 : same M M' b := e b (by have := h4 0 (by decide); rw [Nat.add_zero] at this; omega) (lt h2 (by decide))
    have s1 : same M M' (b + 1) := e _ (by have := h4 1 (by decide); omega) (lt2 h2 (by decide) (0, 1, 15, 400) (List.mem_of_getElem? (i := 0) rfl))
    have s2 : same M M' (b + 2) := e _ (by have := h4 2 (by decide); omega) (lt2 h2 (by decide) (2, 2, 15, 12) (List.mem_of_getElem? (i := 1) rfl))
    have s3 : same M M' (b + 3) := e _ (by have := h4 3 (by decide); omega) (lt2 h2 (by decide) (3, 3, 15, 12) (List.mem_of_getElem? (i := 2) rfl))
    refine ⟨b, by rw [e13]; exact h1, h2.keep hK s0.2.2 (by decide), ?_, fun i hi => by rw [ww _ (all h2 (by decide) (tb2 i hi))]; exact h4 i hi⟩
    rw [q2]
    unfold cLaw at h3 ⊢
    rw [s0.1, s1.1, s2.1, s3.1]
    exact h3
  · rw [q1] at hl2
    obtain ⟨v, h1, h2, h3, h4⟩ := hv l hl2
    have s0 : same M M' v := e v (by have := h3 0 (by decide); rw [Nat.add_zero] at this; omega) (lt h2 (by decide))
    have s1 : same M M' (v + 1) := e _ (by have := h3 1 (by decide); omega) (lt2 h2 (by decide) (0, 1, 16, 64) (List.mem_of_getElem? (i := 0) rfl))
    have s2 : same M M' (v + 2) := e _ (by have := h3 2 (by decide); omega) (lt2 h2 (by decide) (1, 2, 15, 64) (List.mem_of_getElem? (i := 1) rfl))
    have s3 : same M M' (v + 3) := e _ (by have := h3 3 (by decide); omega) (lt2 h2 (by decide) (2, 3, 15, 400) (List.mem_of_getElem? (i := 2) rfl))
    refine ⟨v, by rw [e14]; exact h1, h2.keep hK s0.2.2 (by decide), fun i hi => by rw [ww _ (all h2 (by decide) (tb10 i hi))]; exact h3 i hi, ?_⟩
    rw [q2]
    unfold cVd vSet vCom at h4 ⊢
    rw [s0.1, s0.2.1, s1.2.1, s2.1, s3.1]
    rcases hc with ⟨rfl, z⟩ | z
    · rw [z]; exact h4
    · refine ⟨by have := h4.1; omega, by have := h4.2.1; omega, fun y => ?_, fun y => ?_⟩
      · exact absurd (stale hc0 h4.1) (by rw [← z]; exact fun n => n y)
      · exact absurd (stale hc0 h4.2.1) (by rw [← z]; exact fun n => n y)
  · rw [q3]
    refine ⟨fun z => by rw [e12]; exact (hi i hi2).1 z, fun S hS => ?_⟩
    obtain ⟨b, h1, h2, h3, h4⟩ := (hi i hi2).2 S hS
    have sz : ∀ z ∈ obTab 8, same M M' (b + z.2.1) := fun z hz => by
      have h6 : z.2.1 < 9 := by
        have key : ∀ z ∈ obTab 8, z.2.1 < 9 := by decide +kernel
        exact key z hz
      exact e _ (by have := h4 z.2.1 h6; omega) (lt2 h2 (by decide) z hz)
    have s0 : same M M' b := e b (by have := h4 0 (by decide); rw [Nat.add_zero] at this; omega) (lt h2 (by decide))
    refine ⟨b, by rw [e12]; exact h1, h2.keep hK s0.2.2 (by decide), (h3.ww F ww).keep F (fun a ha hl => k a (by rw [← ww a hl]; exact ha) hl) (fun j hj => ?_), fun i hi => by rw [ww _ (all h2 (by decide) (tb8 i hi))]; exact h4 i hi⟩
    have key : ∀ j, j < 9 → j = 0 ∨ ∃ z ∈ obTab 8, z.2.1 = j := by decide +kernel
    rcases key j hj with z | ⟨z, h5, h6⟩
    · rw [z, Nat.add_zero]; exact s0
    · rw [← h6]; exact sz z h5
/-- new cells behind those there were, which stay -/
theorem XC.grow (h : XC w M x T c) (ww : ∀ a, a < mN M → w' a = w a) (hs : ∀ a, a < mN M → same M M' a ∧ mK M' a = mK M a ∧ mA M' a = mA M a) (hN : mN M ≤ mN M') (F' : frM M') : XC w' M' x T c := by
  have F := h.2.1
  have X := h.1
  have lx := h.2.2.2.2.1
  have hK : ∀ b, mK M b ≠ 0 → mK M' b = mK M b ∧ mA M' b = mA M b := fun b hb => (hs b (F.lt hb)).2
  have fx : ∀ i, i < 55 → same M M' (x + i) := fun i hi => (hs _ (by omega)).1
  have f0 : same M M' x := fx 0 (by decide)
  have km : keepM w M M' := fun a _ ha => hs a ha
  refine ⟨⟨X.1.keep hK f0.2.2 (by decide), X.2.1.keep hK (fx 1 (by decide)).2.2 (by decide), X.2.2.1.keep hK (fx 3 (by decide)).2.2 (by decide), X.2.2.2.1.keep hK (fx 15 (by decide)).2.2 (by decide), ?_, X.2.2.2.2.2.1.keep hK (fx 25 (by decide)).2.2 (by decide), X.2.2.2.2.2.2.1.keep hK (fx 36 (by decide)).2.2 (by decide), X.2.2.2.2.2.2.2.1.keep hK (fx 41 (by decide)).2.2 (by decide), X.2.2.2.2.2.2.2.2.1.keep hK (fx 46 (by decide)).2.2 (by decide), X.2.2.2.2.2.2.2.2.2.keep hK (fx 50 (by decide)).2.2 (by decide)⟩, F', h.2.2.1, ⟨fun i h1 h2 => ?_, fun i h1 => ?_⟩, by omega, ?_, ?_, ?_, ⟨h.cl, ?_⟩, ?_, ?_, ?_, ?_⟩
  · rw [(hK _ (by rw [X.2.2.2.2.1]; decide)).1]; exact X.2.2.2.2.1
  · rw [ww _ (by omega)]; exact h.ow.1 i h1 h2
  · rw [ww _ (by omega)]; exact h.ow.2 i h1
  · rw [(fx 1 (by decide)).1, (fx 2 (by decide)).1]; exact h.2.2.2.2.2.1
  · exact (h.2.2.2.2.2.2.1.ww F ww).keep F (fun a _ ha => hs a ha) (fun i hi => by rw [show x + 3 + i = x + (3 + i) by omega]; exact fx _ (by omega))
  · rw [f0.1]; exact h.q
  · rw [f0.1]; exact h.ch
  · exact h.dy.keepW ww F X hK km (fun a _ ha => (hs a ha).1) (fx 12 (by decide)).2.2 (fx 13 (by decide)).2.2 (fx 14 (by decide)).2.2 (fx 18 (by decide)).2.2 (fx 1 (by decide)).2.2 rfl h.cl (Or.inl ⟨rfl, rfl⟩)
  · have z := h.2.2.2.2.2.2.2.2.2.2.1
    unfold cEd at z ⊢
    rw [(fx 46 (by decide)).1, show x + 46 + 1 = x + 47 from rfl, (fx 47 (by decide)).1]
    exact z
  · have z := h.2.2.2.2.2.2.2.2.2.2.2.1
    unfold cMv at z ⊢
    rw [(fx 50 (by decide)).1]
    exact z
  · have z := h.2.2.2.2.2.2.2.2.2.2.2.2
    unfold cFw at z ⊢
    rw [f0.1]
    exact z
/-- an image is another -/
theorem XC.img {k b : Nat} (h : XC w M x T c) (hk : k < 4) (hN : mN M' = mN M) (hK : mK M' = mK M) (hA : mA M' = mA M) (hs : ∀ a, w a ≠ 10 + k → a ≠ x + 12 → same M M' a) (h12 : ∀ j, vr M' (x + 12) j = if j = k then some b else vr M (x + 12) j) (hb : ObAt 8 M' b ∧ cSh w M' b (sh T) ∧ ∀ i, i < 9 → w (b + i) = 10 + k) : XC w M' x (v_image T k) c := by
  have F := h.2.1
  have X := h.1
  have hKA : ∀ b, mK M b ≠ 0 → mK M' b = mK M b ∧ mA M' b = mA M b := fun b _ => by rw [hK, hA]; exact ⟨rfl, rfl⟩
  have fx : ∀ i, i < 55 → (i < 19 ∨ 25 ≤ i) → i ≠ 12 → same M M' (x + i) := fun i h1 h2 h3 => hs _ (by rw [h.ow.1 i h1 h2]; omega) (by omega)
  have f0 : same M M' x := fx 0 (by decide) (by decide) (by decide)
  have tg : ∀ a, w a ≠ 10 + k → w a ≠ 0 → same M M' a := fun a h1 h2 => hs a h1 (fun e => by
    rw [e] at h2
    exact h2 (h.ow.1 12 (by decide) (by decide)))
  have km : keepM w M M' := fun a ha _ => ⟨tg a (by omega) (by omega), by rw [hK], by rw [hA]⟩
  refine ⟨⟨X.1.keep hKA f0.2.2 (by decide), X.2.1.keep hKA (fx 1 (by decide) (by decide) (by decide)).2.2 (by decide), X.2.2.1.keep hKA (fx 3 (by decide) (by decide) (by decide)).2.2 (by decide), X.2.2.2.1.keep hKA (fx 15 (by decide) (by decide) (by decide)).2.2 (by decide), by rw [hK]; exact X.2.2.2.2.1, X.2.2.2.2.2.1.keep hKA (fx 25 (by decide) (by decide) (by decide)).2.2 (by decide), X.2.2.2.2.2.2.1.keep hKA (fx 36 (by decide) (by decide) (by decide)).2.2 (by decide), X.2.2.2.2.2.2.2.1.keep hKA (fx 41 (by decide) (by decide) (by decide)).2.2 (by decide), X.2.2.2.2.2.2.2.2.1.keep hKA (fx 46 (by decide) (by decide) (by decide)).2.2 (by decide), X.2.2.2.2.2.2.2.2.2.keep hKA (fx 50 (by decide) (by decide) (by decide)).2.2 (by decide)⟩, fun a ha => by rw [hK]; exact F a (by rw [← hN]; exact ha), v_image_ok h.2.2.1, h.ow, by rw [hN]; exact h.2.2.2.2.1, ?_, ?_, ?_, ⟨h.cl, ?_⟩, ?_, ?_, ?_, ?_⟩
  · rw [(fx 1 (by decide) (by decide) (by decide)).1, (fx 2 (by decide) (by decide) (by decide)).1]; exact h.2.2.2.2.2.1
  · exact h.cs.2.2.keep F km (fun i hi => by rw [show x + 3 + i = x + (3 + i) by omega]; exact fx _ (by omega) (by omega) (by omega))
  · rw [f0.1]; exact h.q
  · rw [f0.1]; exact h.ch
  · obtain ⟨⟨a, hd, hw⟩, hl, hv, hi⟩ := h.dy
    have sv : ∀ {q a i t : Nat}, w (a + i) = t → t ≠ 10 + k → t ≠ 0 → same M M' (a + i) := fun h1 h2 h3 => tg _ (by rw [h1]; exact h2) (by rw [h1]; exact h3)
    refine ⟨⟨a, ⟨?_, ?_, ?_, ?_, ?_⟩, hw⟩, fun l hl2 => ?_, fun l hl2 => ?_, fun i hi2 => ?_⟩
    · rw [hK]; exact hd.1
    · rw [(fx 18 (by decide) (by decide) (by decide)).2.2]; exact hd.2.1
    · exact hd.2.2.1.keep hKA (fx 1 (by decide) (by decide) (by decide)).2.2 (by decide)
    · rw [(fx 18 (by decide) (by decide) (by decide)).2.2]; exact hd.2.2.2.1
    · exact hd.2.2.2.2.keep hKA (sv (q := 0) (i := 0) (hw 0 (by decide)) (by omega) (by omega)).2.2 (by decide)
    · have hl3 : l < qN T := hl2
      have h4 : l < 4 := Nat.lt_of_lt_of_le hl3 h.2.2.1.2.2.2.1
      obtain ⟨e, h1, h2, h3, h5⟩ := hl l hl3
      have s0 : same M M' e := sv (q := 0) (i := 0) (h5 0 (by decide)) (by omega) (by omega)
      refine ⟨e, by rw [(fx 13 (by decide) (by decide) (by decide)).2.2]; exact h1, h2.keep hKA s0.2.2 (by decide), ?_, h5⟩
      show cLaw M' e (qL T l)
      unfold cLaw at h3 ⊢
      rw [s0.1, (sv (q := 0) (h5 1 (by decide)) (by omega) (by omega)).1, (sv (q := 0) (h5 2 (by decide)) (by omega) (by omega)).1, (sv (q := 0) (h5 3 (by decide)) (by omega) (by omega)).1]
      exact h3
    · have hl3 : l < qN T := hl2
      have h4 : l < 4 := Nat.lt_of_lt_of_le hl3 h.2.2.1.2.2.2.1
      obtain ⟨v, h1, h2, h3, h5⟩ := hv l hl3
      have s0 : same M M' v := sv (q := 0) (i := 0) (h3 0 (by decide)) (by omega) (by omega)
      refine ⟨v, by rw [(fx 14 (by decide) (by decide) (by decide)).2.2]; exact h1, h2.keep hKA s0.2.2 (by decide), h3, ?_⟩
      show cVd M' v (sh T) (qL T l) c
      unfold cVd vSet vCom at h5 ⊢
      rw [s0.1, s0.2.1, (sv (q := 0) (h3 1 (by decide)) (by omega) (by omega)).2.1, (sv (q := 0) (h3 2 (by decide)) (by omega) (by omega)).1, (sv (q := 0) (h3 3 (by decide)) (by omega) (by omega)).1]
      exact h5
    · show ((if i = k then some (sh T) else iM T i) = none → vr M' (x + 12) i = none) ∧ ∀ S, (if i = k then some (sh T) else iM T i) = some S → ∃ a, vr M' (x + 12) i = some a ∧ ObAt 8 M' a ∧ cSh w M' a S ∧ ∀ j, j < 9 → w (a + j) = 10 + i
      rw [h12]
      by_cases z : i = k
      · rw [if_pos z, if_pos z]
        refine ⟨fun y => (by cases y), fun S hS => ?_⟩
        cases hS
        exact ⟨b, rfl, hb.1, hb.2.1, by rw [z]; exact hb.2.2⟩
      · rw [if_neg z, if_neg z]
        refine ⟨(hi i hi2).1, fun S hS => ?_⟩
        obtain ⟨e, h1, h2, h3, h4⟩ := (hi i hi2).2 S hS
        exact ⟨e, h1, h2.keep hKA (sv (q := 0) (i := 0) (h4 0 (by decide)) (by omega) (by omega)).2.2 (by decide), h3.keep F km (fun j hj => sv (q := 0) (h4 j hj) (by omega) (by omega)), h4⟩
  · have z := h.2.2.2.2.2.2.2.2.2.2.1
    unfold cEd at z ⊢
    rw [(fx 46 (by decide) (by decide) (by decide)).1, show x + 46 + 1 = x + 47 from rfl, (fx 47 (by decide) (by decide) (by decide)).1]
    exact z
  · have z := h.2.2.2.2.2.2.2.2.2.2.2.1
    unfold cMv at z ⊢
    rw [(fx 50 (by decide) (by decide) (by decide)).1]
    exact z
  · have z := h.2.2.2.2.2.2.2.2.2.2.2.2
    unfold cFw at z ⊢
    rw [f0.1]
    exact z
end
