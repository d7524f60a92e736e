/-! WHAT THE CLASS HOLDS -/
def cLaw (M : Mem) (a : Nat) (L : LawT) : Prop :=
  vi M a 4 = nI L.2.length ∧ (∀ k, k < L.1.length → vi M (a + 1) k = nI (L.1.getD k 0)) ∧ ∀ i, i < L.2.length → vi M (a + 2) i = nI (cSum L i) ∧ vi M (a + 3) i = nI (cEnd L i)
/-- the verdict at v is settled, is composed -/
def vSet (M : Mem) (v : Nat) (S : ShT) (L : LawT) : Prop :=
  (∀ s, s < 64 → (isM S s → vl M (v + 1) s = wgt S L s ∧ vi M (v + 2) s = nI (jS S L s)) ∧ (¬ isM S s → vl M (v + 1) s = 0 ∧ vi M (v + 2) s = -1)) ∧ ∀ s, s < 64 → (bit (vl M v 6) s ↔ stS S L s)
def vCom (M : Mem) (v : Nat) (S : ShT) (L : LawT) : Prop := vi M v 3 = nI (ouT S L).length ∧ ∀ i, i < (ouT S L).length → vi M (v + 3) i = (ouT S L).getD i 0
def cVd (M : Mem) (v : Nat) (S : ShT) (L : LawT) (c : Nat) : Prop :=
  (vi M v 4).toInt ≤ c ∧ (vi M v 5).toInt ≤ c ∧ (vi M v 4 = nI c → vSet M v S L) ∧ (vi M v 5 = nI c → vCom M v S L)
def cEd (M : Mem) (e : Nat) (S : ShT) (c : Nat) : Prop :=
  (vi M e 0).toInt ≤ c ∧ (vi M e 0 = nI c → vi M e 1 = nI (edC S) ∧ vi M e 2 = nI (edW S).length ∧ ∀ k, k < (edW S).length → vi M (e + 1) k = nI ((edW S).getD k 0))
def cMv (M : Mem) (e : Nat) (S : ShT) (c : Nat) : Prop := (vi M e 0).toInt ≤ c ∧ (vi M e 0 = nI c → isMvd S (vi M e 1) (vi M e 2) (vi M e 3) (vi M e 4))
def cFw (M : Mem) (x : Nat) (S : ShT) (c : Nat) : Prop := (vi M x 14).toInt ≤ c ∧ (vi M x 14 = nI c → isFew S (vi M x 15))
/-- laws, verdicts, images, the draft: the cells behind the fixed ones -/
def xDy (w : Nat → Nat) (M : Mem) (x : Nat) (T : StT) (c : Nat) : Prop :=
  (∃ a, LrAt M (x + 18) (x + 1) a ∧ ∀ i, i < 6 → w (a + i) = 40) ∧
  (∀ l, l < qN T → ∃ a, vr M (x + 13) l = some a ∧ ObAt 2 M a ∧ cLaw M a (qL T l) ∧ ∀ i, i < 6 → w (a + i) = 20 + l) ∧
  (∀ l, l < qN T → ∃ v, vr M (x + 14) l = some v ∧ ObAt 10 M v ∧ (∀ i, i < 5 → w (v + i) = 30 + l) ∧ cVd M v (sh T) (qL T l) c) ∧
  (∀ k, k < 4 → (iM T k = none → vr M (x + 12) k = none) ∧ ∀ S, iM T k = some S → ∃ a, vr M (x + 12) k = some a ∧ ObAt 8 M a ∧ cSh w M a S ∧ ∀ i, i < 9 → w (a + i) = 10 + k)
/-- the owners of the fixed cells -/
def xOw (w : Nat → Nat) (x : Nat) : Prop := (∀ i, i < 55 → (i < 19 ∨ 25 ≤ i) → w (x + i) = 0) ∧ (∀ i, i < 46 → w (x + 55 + i) = 1)
def XC (w : Nat → Nat) (M : Mem) (x : Nat) (T : StT) (c : Nat) : Prop :=
  XAt M x ∧ frM M ∧ okT T ∧ xOw w x ∧ x + 101 ≤ mN M ∧ (vi M (x + 1) 1 = nI (tN T) ∧ ∀ k, k < tN T → vi M (x + 2) k = tB T k) ∧ cSh w M (x + 3) (sh T) ∧ vi M x 12 = nI (qN T) ∧ (c < 1000000 ∧ vi M x 13 = nI c) ∧
  xDy w M x T c ∧ cEd M (x + 46) (sh T) c ∧ cMv M (x + 50) (sh T) c ∧ cFw M x (sh T) c
section
variable {w : Nat → Nat} {M M' : Mem} {x : Nat} {T T' : StT} {c c' : Nat}
theorem XC.xa (h : XC w M x T c) : XAt M x := h.1
theorem XC.cs (h : XC w M x T c) : CS w M (x + 3) (sh T) := ⟨h.1.2.2.1, h.2.2.1.2.2.1, h.2.2.2.2.2.2.1⟩
theorem XC.t (h : XC w M x T c) : vi M (x + 1) 1 = nI (tN T) := h.2.2.2.2.2.1.1
theorem XC.tb (h : XC w M x T c) {k : Nat} (hk : k < tN T) : vi M (x + 2) k = tB T k := h.2.2.2.2.2.1.2 k hk
theorem XC.t4 (h : XC w M x T c) : tN T ≤ 400 := h.2.2.1.1
theorem XC.tk (h : XC w M x T c) {k : Nat} (hk : k < tN T) : 0 ≤ (tB T k).toInt ∧ (tB T k).toInt ≤ 255 := h.2.2.1.2.1 k hk
theorem XC.q (h : XC w M x T c) : vi M x 12 = nI (qN T) := h.2.2.2.2.2.2.2.1
theorem XC.ch (h : XC w M x T c) : vi M x 13 = nI c := h.2.2.2.2.2.2.2.2.1.2
theorem XC.cl (h : XC w M x T c) : c < 1000000 := h.2.2.2.2.2.2.2.2.1.1
theorem XC.ow (h : XC w M x T c) : xOw w x := h.2.2.2.1
theorem XC.dy (h : XC w M x T c) : xDy w M x T c := h.2.2.2.2.2.2.2.2.2.1
/-- a cell as it was -/
def same (M M' : Mem) (a : Nat) : Prop := vi M' a = vi M a ∧ vl M' a = vl M a ∧ vr M' a = vr M a
theorem same.refl {M : Mem} {a : Nat} : same M M a := ⟨rfl, rfl, rfl⟩
theorem same.trans {M M' M'' : Mem} {a : Nat} (h : same M M' a) (h2 : same M' M'' a) : same M M'' a := ⟨h2.1.trans h.1, h2.2.1.trans h.2.1, h2.2.2.trans h.2.2⟩
theorem mkAt.same {o : Nat} {y : MkT} (h : mkAt M o y) (hK : mK M' o = mK M o) (hs : same M M' o) (ht : ∀ t, vr M o 5 = some t → same M M' t ∧ mK M' t = mK M t ∧ mA M' t = mA M t) : mkAt M' o y := by
  unfold mkAt at h ⊢
  rw [hK, hs.1, hs.2.2]
  refine ⟨h.1, h.2.1, h.2.2.1, h.2.2.2.1, h.2.2.2.2.1, h.2.2.2.2.2.1, h.2.2.2.2.2.2.1, h.2.2.2.2.2.2.2.1, ?_⟩
  rcases h.2.2.2.2.2.2.2.2 with z | ⟨z, t, e1, e2, e3, e4⟩
  · exact Or.inl z
  · obtain ⟨s1, s2, s3⟩ := ht t e1
    exact Or.inr ⟨z, t, e1, by rw [s2]; exact e2, by rw [s3]; exact e3, fun i hi => by rw [s1.1]; exact e4 i hi⟩
/-- frozen cells (MARKS) stay: kinds and lengths of what there was, too -/
def keepM (w : Nat → Nat) (M M' : Mem) : Prop := ∀ a, w a = 2 → a < mN M → same M M' a ∧ mK M' a = mK M a ∧ mA M' a = mA M a
theorem frM.lt {a : Nat} (F : frM M) (h : mK M a ≠ 0) : a < mN M := by
  rcases Nat.lt_or_ge a (mN M) with z | z
  · exact z
  · exact absurd (F a z) h
theorem cMk.keep {o : Nat} {y : MkT} (F : frM M) (h : cMk w M o y) (k : keepM w M M') : cMk w M' o y := by
  have ho := k o h.2.1 (F.lt (by rw [h.1.k]; decide))
  have ht : ∀ t, vr M o 5 = some t → same M M' t ∧ mK M' t = mK M t ∧ mA M' t = mA M t := fun t e => by
    refine k t (h.2.2 t e) (F.lt ?_)
    rcases h.1.f5 with ⟨_, z⟩ | ⟨_, t', e1, e2, _⟩
    · rw [e] at z; cases z
    · have : t = t' := some_inj e1 e
      subst this
      rw [e2]; decide
  exact ⟨h.1.same ho.2.1 ho.1 ht, h.2.1, by rw [ho.1.2.2]; exact h.2.2⟩
theorem cMs.keep {a : Nat} {S : ShT} (F : frM M) (h : cMs w M a S) (k : keepM w M M') (e : vr M' (a + 5) = vr M (a + 5)) : cMs w M' a S := fun s hs => by
  rw [e]
  refine ⟨fun c => ?_, (h s hs).2⟩
  obtain ⟨o, e1, e2⟩ := (h s hs).1 c
  exact ⟨o, e1, e2.keep F k⟩
theorem cSh.keep {a : Nat} {S : ShT} (F : frM M) (h : cSh w M a S) (k : keepM w M M') (e : ∀ i, i < 9 → same M M' (a + i)) : cSh w M' a S := by
  have e0 := e 0 (by decide)
  rw [Nat.add_zero] at e0
  unfold cSh at h ⊢
  rw [e0.1, (e 1 (by decide)).1, (e 2 (by decide)).1, (e 3 (by decide)).1, (e 4 (by decide)).1, (e 6 (by decide)).1, (e 7 (by decide)).1, (e 8 (by decide)).2.1]
  exact ⟨h.1, h.2.1, h.2.2.1, h.2.2.2.1, h.2.2.2.2.1, h.2.2.2.2.2.1.keep F k (e 5 (by decide)).2.2, h.2.2.2.2.2.2⟩
theorem ObAt.keep {q a : Nat} (h : ObAt q M a) (hK : ∀ b, mK M b ≠ 0 → mK M' b = mK M b ∧ mA M' b = mA M b) (e : vr M' a = vr M a) (hq : q < 13) : ObAt q M' a := by
  refine ⟨by rw [(hK a (by rw [h.1]; omega)).1]; exact h.1, fun z hz => ?_⟩
  obtain ⟨h1, h2, h3⟩ := h.2 z hz
  have hb := hK (a + z.2.1) (by rw [h2]; exact (obTab_ok q hq z hz).1)
  exact ⟨by rw [e]; exact h1, by rw [hb.1]; exact h2, fun h4 => by rw [hb.2]; exact h3 h4⟩
/-- a stamp of before is not that of now -/
theorem stale {v : Int32} (hc0 : c < 1000000) (h : v.toInt ≤ c) : ¬ v = nI (c + 1) := fun e => by
  rw [e, nI_toIntN (by omega)] at h
  omega
/-- the cells behind the fixed ones, when they stay and the laws, images are the same -/
theorem xDy.keep (F : frM M) (h : xDy w M x T c) (X : XAt M x) (hK : ∀ b, mK M b ≠ 0 → mK M' b = mK M b ∧ mA M' b = mA M b) (k : keepM w M M') (e : ∀ a, 10 ≤ w a → a < mN M → same M M' a) (e12 : vr M' (x + 12) = vr M (x + 12)) (e13 : vr M' (x + 13) = vr M (x + 13)) (e14 : vr M' (x + 14) = vr M (x + 14))
    (e18 : vr M' (x + 18) = vr M (x + 18)) (e1 : vr M' (x + 1) = vr M (x + 1)) (hT : T'.2.2 = T.2.2) (hc0 : c < 1000000) (hc : (c' = c ∧ sh T' = sh T) ∨ c' = c + 1) : xDy w M' x T' c' := by
  have q1 : qN T' = qN T := by unfold qN; rw [hT]
  have q2 : qL T' = qL T := by unfold qL; rw [hT]
  have q3 : iM T' = iM T := by unfold iM; rw [hT]
  obtain ⟨⟨a, hd, hw⟩, hl, hv, hi⟩ := h
  have lt : ∀ {q a : Nat}, ObAt q M a → q < 13 → a < mN M := fun h _ => F.lt (by rw [h.1]; omega)
  have lt2 : ∀ {q a : Nat}, ObAt q M a → q < 13 → ∀ z ∈ obTab q, a + z.2.1 < mN M := fun h hq z hz => F.lt (by rw [(h.2 z hz).2.1]; exact (obTab_ok _ hq z hz).1)
  refine ⟨⟨a, ⟨?_, ?_, ?_, ?_, ?_⟩, hw⟩, fun l hl2 => ?_, fun l hl2 => ?_, fun i hi2 => ?_⟩
  · rw [(hK _ (by rw [hd.1]; decide)).1]; exact hd.1
  · rw [e18]; exact hd.2.1
  · exact hd.2.2.1.keep hK e1 (by decide)
  · rw [e18]; exact hd.2.2.2.1
  · exact hd.2.2.2.2.keep hK (e a (by have := hw 0 (by decide); rw [Nat.add_zero] at this; omega) (lt hd.2.2.2.2 (by decide))).2.2 (by decide)
  · rw [q1] at hl2
    obtain ⟨b, h1, h2, h3, h4⟩ := hl l hl2
    have s0 : same M M' b := e b (by have := h4 0 (by decide); rw [Nat.add_zero] at this; omega) (lt h2 (by decide))
    have s1 : same M M' (b + 1) := e _ (by have := h4 1 (by decide); omega) (lt2 h2 (by decide) (0, 1, 15, 400) (List.mem_of_getElem? (i := 0) rfl))
    have s2 : same M M' (b + 2) := e _ (by have := h4 2 (by decide); omega) (lt2 h2 (by decide) (2, 2, 15, 12) (List.mem_of_getElem? (i := 1) rfl))
    have s3 : same M M' (b + 3) := e _ (by have := h4 3 (by decide); omega) (lt2 h2 (by decide) (3, 3, 15, 12) (List.mem_of_getElem? (i := 2) rfl))
    refine ⟨b, by rw [e13]; exact h1, h2.keep hK s0.2.2 (by decide), ?_, h4⟩
    rw [q2]
    unfold cLaw at h3 ⊢
    rw [s0.1, s1.1, s2.1, s3.1]
    exact h3
  · rw [q1] at hl2
    obtain ⟨v, h1, h2, h3, h4⟩ := hv l hl2
    have s0 : same M M' v := e v (by have := h3 0 (by decide); rw [Nat.add_zero] at this; omega) (lt h2 (by decide))
    have s1 : same M M' (v + 1) := e _ (by have := h3 1 (by decide); omega) (lt2 h2 (by decide) (0, 1, 16, 64) (List.mem_of_getElem? (i := 0) rfl))
    have s2 : same M M' (v + 2) := e _ (by have := h3 2 (by decide); omega) (lt2 h2 (by decide) (1, 2, 15, 64) (List.mem_of_getElem? (i := 1) rfl))
    have s3 : same M M' (v + 3) := e _ (by have := h3 3 (by decide); omega) (lt2 h2 (by decide) (2, 3, 15, 400) (List.mem_of_getElem? (i := 2) rfl))
    refine ⟨v, by rw [e14]; exact h1, h2.keep hK s0.2.2 (by decide), h3, ?_⟩
    rw [q2]
    unfold cVd vSet vCom at h4 ⊢
    rw [s0.1, s0.2.1, s1.2.1, s2.1, s3.1]
    rcases hc with ⟨rfl, z⟩ | z
    · rw [z]; exact h4
    · refine ⟨by have := h4.1; omega, by have := h4.2.1; omega, fun y => ?_, fun y => ?_⟩
      · exact absurd (stale hc0 h4.1) (by rw [← z]; exact fun n => n y)
      · exact absurd (stale hc0 h4.2.1) (by rw [← z]; exact fun n => n y)
  · rw [q3]
    refine ⟨fun z => by rw [e12]; exact (hi i hi2).1 z, fun S hS => ?_⟩
    obtain ⟨b, h1, h2, h3, h4⟩ := (hi i hi2).2 S hS
    have sz : ∀ z ∈ obTab 8, same M M' (b + z.2.1) := fun z hz => by
      have h6 : z.2.1 < 9 := by
        have key : ∀ z ∈ obTab 8, z.2.1 < 9 := by decide +kernel
        exact key z hz
      exact e _ (by have := h4 z.2.1 h6; omega) (lt2 h2 (by decide) z hz)
    have s0 : same M M' b := e b (by have := h4 0 (by decide); rw [Nat.add_zero] at this; omega) (lt h2 (by decide))
    refine ⟨b, by rw [e12]; exact h1, h2.keep hK s0.2.2 (by decide), h3.keep F k (fun j hj => ?_), h4⟩
    have key : ∀ j, j < 9 → j = 0 ∨ ∃ z ∈ obTab 8, z.2.1 = j := by decide +kernel
    rcases key j hj with z | ⟨z, h5, h6⟩
    · rw [z, Nat.add_zero]; exact s0
    · rw [← h6]; exact sz z h5
/-- the tape, the sheet are others; all else is as it was -/
theorem XC.upd (h : XC w M x T c) (hN : mN M' = mN M) (hK : mK M' = mK M) (hA : mA M' = mA M) (hs : ∀ a, (w a = 2 ∨ 10 ≤ w a) → same M M' a) (fx : ∀ i, 12 ≤ i → i < 55 → same M M' (x + i)) (hx : vr M' x = vr M x ∧ ∀ k, k ≠ 13 → vi M' x k = vi M x k) (hr : vr M' (x + 1) = vr M (x + 1) ∧ vr M' (x + 3) = vr M (x + 3))
    (hT : T'.2.2 = T.2.2) (V : okS (sh T')) (t4 : tN T' ≤ 400) (tk : ∀ k, k < tN T' → 0 ≤ (tB T' k).toInt ∧ (tB T' k).toInt ≤ 255) (t1 : vi M' (x + 1) 1 = nI (tN T')) (t2 : ∀ k, k < tN T' → vi M' (x + 2) k = tB T' k) (hS : cSh w M' (x + 3) (sh T'))
    (hc : (c' = c ∧ sh T' = sh T) ∨ c' = c + 1) (hc1 : c' < 1000000) (hc2 : vi M' x 13 = nI c') : XC w M' x T' c' := by
  have q1 : qN T' = qN T := by unfold qN; rw [hT]
  have q2 : qL T' = qL T := by unfold qL; rw [hT]
  have q3 : iM T' = iM T := by unfold iM; rw [hT]
  have hKA : ∀ b, mK M b ≠ 0 → mK M' b = mK M b ∧ mA M' b = mA M b := fun b _ => by rw [hK, hA]; exact ⟨rfl, rfl⟩
  have F := h.2.1
  have km : keepM w M M' := fun a ha _ => ⟨hs a (Or.inl ha), by rw [hK], by rw [hA]⟩
  have X := h.1
  refine ⟨⟨?_, ?_, ?_, ?_, ?_, ?_, ?_, ?_, ?_, ?_⟩, fun a ha => by rw [hK]; exact F a (by rw [← hN]; exact ha), ⟨t4, tk, V, by rw [q1]; exact h.2.2.1.2.2.2.1, by rw [q1, q2]; exact h.2.2.1.2.2.2.2.1, by rw [q3]; exact h.2.2.1.2.2.2.2.2⟩, h.ow, by rw [hN]; exact h.2.2.2.2.1, ⟨t1, t2⟩, hS, ?_, ⟨hc1, hc2⟩, ?_, ?_, ?_, ?_⟩
  · exact X.1.keep hKA hx.1 (by decide)
  · exact X.2.1.keep hKA hr.1 (by decide)
  · exact X.2.2.1.keep hKA hr.2 (by decide)
  · exact X.2.2.2.1.keep hKA (fx 15 (by decide) (by decide)).2.2 (by decide)
  · rw [hK]; exact X.2.2.2.2.1
  · exact X.2.2.2.2.2.1.keep hKA (fx 25 (by decide) (by decide)).2.2 (by decide)
  · exact X.2.2.2.2.2.2.1.keep hKA (fx 36 (by decide) (by decide)).2.2 (by decide)
  · exact X.2.2.2.2.2.2.2.1.keep hKA (fx 41 (by decide) (by decide)).2.2 (by decide)
  · exact X.2.2.2.2.2.2.2.2.1.keep hKA (fx 46 (by decide) (by decide)).2.2 (by decide)
  · exact X.2.2.2.2.2.2.2.2.2.keep hKA (fx 50 (by decide) (by decide)).2.2 (by decide)
  · rw [hx.2 12 (by decide), q1]; exact h.q
  · exact h.dy.keep F X hKA km (fun a ha _ => hs a (Or.inr ha)) (fx 12 (by decide) (by decide)).2.2 (fx 13 (by decide) (by decide)).2.2 (fx 14 (by decide) (by decide)).2.2 (fx 18 (by decide) (by decide)).2.2 hr.1 hT h.cl hc
  · have z := h.2.2.2.2.2.2.2.2.2.2.1
    unfold cEd at z ⊢
    rw [(fx 46 (by decide) (by decide)).1, show x + 46 + 1 = x + 47 from rfl, (fx 47 (by decide) (by decide)).1]
    rcases hc with ⟨rfl, y⟩ | y
    · rw [y]; exact z
    · exact ⟨by have := z.1; omega, fun e => absurd e (by rw [y]; exact stale h.cl z.1)⟩
  · have z := h.2.2.2.2.2.2.2.2.2.2.2.1
    unfold cMv at z ⊢
    rw [(fx 50 (by decide) (by decide)).1]
    rcases hc with ⟨rfl, y⟩ | y
    · rw [y]; exact z
    · exact ⟨by have := z.1; omega, fun e => absurd e (by rw [y]; exact stale h.cl z.1)⟩
  · have z := h.2.2.2.2.2.2.2.2.2.2.2.2
    unfold cFw at z ⊢
    rw [hx.2 14 (by decide), hx.2 15 (by decide)]
    rcases hc with ⟨rfl, y⟩ | y
    · rw [y]; exact z
    · exact ⟨by have := z.1; omega, fun e => absurd e (by rw [y]; exact stale h.cl z.1)⟩
/-- the same, ints alone changed -/
theorem XC.updF {F L : List Nat} (h : XC w M x T c) (f : Frl x F L M M') (hL : ∀ o ∈ L, 1 ≤ o ∧ o ≤ 11) (hF : ∀ k ∈ F, k = 13)
    (hT : T'.2.2 = T.2.2) (V : okS (sh T')) (t4 : tN T' ≤ 400) (tk : ∀ k, k < tN T' → 0 ≤ (tB T' k).toInt ∧ (tB T' k).toInt ≤ 255) (t1 : vi M' (x + 1) 1 = nI (tN T')) (t2 : ∀ k, k < tN T' → vi M' (x + 2) k = tB T' k) (hS : cSh w M' (x + 3) (sh T'))
    (hc : (c' = c ∧ sh T' = sh T) ∨ c' = c + 1) (hc1 : c' < 1000000) (hc2 : vi M' x 13 = nI c') : XC w M' x T' c' := by
  have off : ∀ a, w a ≠ 0 → a ≠ x ∧ ∀ o ∈ L, a ≠ x + o := fun a ha => by
    refine ⟨fun e => ?_, fun o ho e => ?_⟩
    · have := h.ow.1 0 (by decide) (by decide)
      rw [Nat.add_zero, ← e] at this; omega
    · have h1 := hL o ho
      have := h.ow.1 o (by omega) (by omega)
      rw [← e] at this; omega
  have sm : ∀ a, a ≠ x → (∀ o ∈ L, a ≠ x + o) → same M M' a := fun a h1 h2 => ⟨by funext k; exact (f.2.2.2.2.2 a k (fun e => absurd e h1) h2).1, by funext k; exact (f.2.2.2.2.2 a k (fun e => absurd e h1) h2).2, by rw [f.2.2.2.2.1]⟩
  refine h.upd f.1 f.2.2.1 f.2.2.2.1 (fun a ha => sm a (off a (by omega)).1 (off a (by omega)).2) (fun i h1 h2 => sm _ (by omega) (fun o ho e => by have := hL o ho; omega)) ⟨?_, fun k hk => ?_⟩ ⟨?_, ?_⟩ hT V t4 tk t1 t2 hS hc hc1 hc2
  · rw [f.2.2.2.2.1]
  · exact f.f (fun hk2 => hk (hF k hk2)) (fun h0 => by have := hL 0 h0; omega)
  · rw [f.2.2.2.2.1]
  · rw [f.2.2.2.2.1]
/-- the sheet's cells as they were -/
theorem XC.shF {F L : List Nat} (h : XC w M x T c) (f : Frl x F L M M') (hL : ∀ o ∈ L, 1 ≤ o ∧ o ≤ 2) : cSh w M' (x + 3) (sh T) := by
  refine h.cs.2.2.keep h.2.1 (fun a ha _ => ⟨?_, by rw [f.2.2.1], by rw [f.2.2.2.1]⟩) (fun i hi => ?_)
  · have hx : a ≠ x := fun e => by
      have := h.ow.1 0 (by decide) (by decide)
      rw [Nat.add_zero, ← e] at this; omega
    refine ⟨?_, ?_, by rw [f.2.2.2.2.1]⟩
    · funext k
      refine (f.2.2.2.2.2 a k (fun e => absurd e hx) (fun o ho e => ?_)).1
      have h1 := hL o ho
      have := h.ow.1 o (by omega) (by omega)
      rw [← e] at this; omega
    · funext k
      refine (f.2.2.2.2.2 a k (fun e => absurd e hx) (fun o ho e => ?_)).2
      have h1 := hL o ho
      have := h.ow.1 o (by omega) (by omega)
      rw [← e] at this; omega
  · refine ⟨?_, ?_, by rw [f.2.2.2.2.1]⟩
    · funext k
      exact (f.2.2.2.2.2 _ k (fun e => by omega) (fun o ho e => by have := hL o ho; omega)).1
    · funext k
      exact (f.2.2.2.2.2 _ k (fun e => by omega) (fun o ho e => by have := hL o ho; omega)).2
/-- the reference was at work -/
theorem XC.ou (h : XC w M x T c) (f : Ou (x + 55) M M') : XC w M' x T c := by
  have sm : ∀ a, (a < x + 55 ∨ x + 101 ≤ a) → same M M' a := fun a h1 => ⟨by funext k; exact (f.2.2.2.2.2 a k (by omega)).1, by funext k; exact (f.2.2.2.2.2 a k (by omega)).2, by rw [f.2.2.2.2.1]⟩
  have off : ∀ a, w a ≠ 1 → (a < x + 55 ∨ x + 101 ≤ a) := fun a ha => by
    rcases Nat.lt_or_ge a (x + 55) with z | z
    · exact Or.inl z
    · rcases Nat.lt_or_ge a (x + 101) with y | y
      · have := h.ow.2 (a - (x + 55)) (by omega)
        rw [show x + 55 + (a - (x + 55)) = a by omega] at this
        exact absurd this ha
      · exact Or.inr y
  have s0 : same M M' x := sm x (by omega)
  refine h.upd f.1 f.2.2.1 f.2.2.2.1 (fun a ha => sm a (off a (by omega))) (fun i h1 h2 => sm _ (by omega)) ⟨s0.2.2, fun k _ => by rw [s0.1]⟩ ⟨(sm _ (by omega)).2.2, (sm _ (by omega)).2.2⟩ rfl h.cs.2.1 h.t4 (fun k hk => h.tk hk) ?_ (fun k hk => ?_) ?_ (Or.inl ⟨rfl, rfl⟩) h.cl ?_
  · rw [(sm (x + 1) (by omega)).1]; exact h.t
  · rw [(sm (x + 2) (by omega)).1]; exact h.tb hk
  · exact h.cs.2.2.keep h.2.1 (fun a ha _ => ⟨sm a (off a (by omega)), by rw [f.2.2.1], by rw [f.2.2.2.1]⟩) (fun i hi => sm _ (by omega))
  · rw [s0.1]; exact h.ch
/-- the class was at work: the reference's cells stay; how many cells and slots it made -/
def Cu (x : Nat) (M M' : Mem) : Prop := (∀ a, x + 55 ≤ a → a < x + 101 → same M M' a ∧ mK M' a = mK M a ∧ mA M' a = mA M a) ∧ mN M' ≤ mN M + 100 ∧ mS M' ≤ mS M + 10000
theorem Cu.refl : Cu x M M := ⟨fun _ _ _ => ⟨same.refl, rfl, rfl⟩, by omega, by omega⟩
theorem Frl.cu {F L : List Nat} (f : Frl x F L M M') (hL : ∀ o ∈ L, o < 55) : Cu x M M' :=
  ⟨fun a h1 h2 => ⟨⟨by funext k; exact (f.2.2.2.2.2 a k (fun e => by omega) (fun o ho e => by have := hL o ho; omega)).1, by funext k; exact (f.2.2.2.2.2 a k (fun e => by omega) (fun o ho e => by have := hL o ho; omega)).2, by rw [f.2.2.2.2.1]⟩, by rw [f.2.2.1], by rw [f.2.2.2.1]⟩, by rw [f.1]; omega, by rw [f.2.1]; omega⟩
theorem RX.cu (h : RX M (x + 55) T) (f : Cu x M M') : RX M' (x + 55) T := by
  have e : ∀ o, o < 46 → same M M' (x + 55 + o) ∧ mK M' (x + 55 + o) = mK M (x + 55 + o) ∧ mA M' (x + 55 + o) = mA M (x + 55 + o) := fun o ho => f.1 _ (by omega) (by omega)
  have v : ∀ o, o < 46 → vi M' (x + 55 + o) = vi M (x + 55 + o) := fun o ho => (e o ho).1.1
  have e0 := e 0 (by decide)
  rw [Nat.add_zero] at e0
  have rt : ∀ q ∈ refTab, q.2.1 < 46 := by decide +kernel
  refine ⟨⟨by rw [e0.2.1]; exact h.1.1, fun q hq => ?_⟩, h.2.1, ?_, ?_, ?_, ?_, ?_⟩
  · have z := e q.2.1 (rt q hq)
    rw [e0.1.2.2, z.2.1, z.2.2]
    exact h.1.2 q hq
  · exact rShF.eq h.2.2.1 h.2.1.2.2.1 (fun o h1 h2 k _ => by rw [v o (by omega)])
  · rw [e0.1.1, v 13 (by decide)]; exact h.2.2.2.1
  · rw [e0.1.1]; exact h.2.2.2.2.1
  · refine ⟨by rw [e0.1.1]; exact h.q, fun l hl => ?_⟩
    have z := h.2.2.2.2.2.1.2 l hl
    unfold rLaw at z ⊢
    rw [v 14 (by decide), v 15 (by decide), v 16 (by decide), v 17 (by decide), v 18 (by decide), v 19 (by decide)]
    exact z
  · intro i hi
    have z := h.2.2.2.2.2.2 i hi
    unfold rImg at z ⊢
    rw [v 44 (by decide), v 45 (by decide)]
    exact z
end
