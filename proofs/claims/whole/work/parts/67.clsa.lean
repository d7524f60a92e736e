/-! MARKS: the class's call -/
/-- the class's cells of which nothing is said between calls -/
def scr (i : Nat) : Prop := i = 1 ∨ (15 ≤ i ∧ i ≤ 18) ∨ (25 ≤ i ∧ i < 46) ∨ i = 48 ∨ i = 49 ∨ (51 ≤ i ∧ i < 55)
theorem nI_any (v : Int32) : ∃ n, v = nI n := ⟨v.toBitVec.toNat, by
  apply Int32.toBitVec_inj.mp
  show v.toBitVec = BitVec.ofNat 32 v.toBitVec.toNat
  rw [BitVec.ofNat_toNat, BitVec.setWidth_eq]⟩
section
variable {w w' : Nat → Nat} {M M' : Mem} {x : Nat} {T T' : StT} {c c' : Nat}
theorem XC.scrt (h : XC w M x T c) (ww : ∀ a, a < mN M → w' a = w a) (hs : ∀ a, a < mN M → mK M' a = mK M a ∧ mA M' a = mA M a ∧ ((∀ i, a = x + i → ¬ scr i) → same M M' a)) (hN : mN M ≤ mN M') (F' : frM M') (hv : ∀ i, scr i → vr M' (x + i) = vr M (x + i) ∨ (i = 16 ∨ i = 17)) (h1 : vi M' (x + 1) 1 = vi M (x + 1) 1) : XC w' M' x T c := by
  have F := h.2.1
  have X := h.1
  have lx := h.2.2.2.2.1
  have hK : ∀ b, mK M b ≠ 0 → mK M' b = mK M b ∧ mA M' b = mA M b := fun b hb => ⟨(hs b (F.lt hb)).1, (hs b (F.lt hb)).2.1⟩
  have fx : ∀ i, i < 55 → ¬ scr i → same M M' (x + i) := fun i hi hn => (hs _ (by omega)).2.2 (fun j e => by
    have : j = i := by omega
    rw [this]; exact hn)
  have fr : ∀ i, scr i → i ≠ 16 → i ≠ 17 → vr M' (x + i) = vr M (x + i) := fun i h1 h2 h3 => (hv i h1).elim id (fun z => by omega)
  have no : ∀ i, (i = 0 ∨ (2 ≤ i ∧ i ≤ 14) ∨ i = 46 ∨ i = 47 ∨ i = 50) → ¬ scr i := fun i hi z => by unfold scr at z; omega
  have f0 : same M M' x := fx 0 (by decide) (no 0 (by omega))
  have tg : ∀ a, a < mN M → w a ≠ 0 → same M M' a := fun a ha hw => (hs a ha).2.2 (fun i e z => hw (by
    rw [e]
    unfold scr at z
    exact h.ow.1 i (by omega) (by omega)))
  have km : keepM w M M' := fun a hw ha => ⟨tg a ha (by omega), (hs a ha).1, (hs a ha).2.1⟩
  have sc : ∀ i, (i = 1 ∨ i = 15 ∨ i = 18 ∨ i = 25 ∨ i = 36 ∨ i = 41) → vr M' (x + i) = vr M (x + i) := fun i hi => fr i (by unfold scr; omega) (by omega) (by omega)
  refine ⟨⟨X.1.keep hK f0.2.2 (by decide), X.2.1.keep hK (sc 1 (by omega)) (by decide), X.2.2.1.keep hK (fx 3 (by decide) (no 3 (by omega))).2.2 (by decide), X.2.2.2.1.keep hK (sc 15 (by omega)) (by decide), ?_, X.2.2.2.2.2.1.keep hK (sc 25 (by omega)) (by decide), X.2.2.2.2.2.2.1.keep hK (sc 36 (by omega)) (by decide), X.2.2.2.2.2.2.2.1.keep hK (sc 41 (by omega)) (by decide), X.2.2.2.2.2.2.2.2.1.keep hK (fx 46 (by decide) (no 46 (by omega))).2.2 (by decide), X.2.2.2.2.2.2.2.2.2.keep hK (fx 50 (by decide) (no 50 (by omega))).2.2 (by decide)⟩, F', h.2.2.1, ⟨fun i h1 h2 => ?_, fun i h1 => ?_⟩, by omega, ?_, ?_, ?_, ⟨h.cl, ?_⟩, ?_, ?_, ?_, ?_⟩
  · rw [(hK _ (by rw [X.2.2.2.2.1]; decide)).1]; exact X.2.2.2.2.1
  · rw [ww _ (by omega)]; exact h.ow.1 i h1 h2
  · rw [ww _ (by omega)]; exact h.ow.2 i h1
  · rw [h1, (fx 2 (by decide) (no 2 (by omega))).1]; exact h.2.2.2.2.2.1
  · exact (h.2.2.2.2.2.2.1.ww F ww).keep F (fun a hw ha => km a (by rw [← ww a ha]; exact hw) ha) (fun i hi => by rw [show x + 3 + i = x + (3 + i) by omega]; exact fx _ (by omega) (no _ (by omega)))
  · rw [f0.1]; exact h.q
  · rw [f0.1]; exact h.ch
  · exact h.dy.keepW ww F X hK km (fun a hw ha => tg a ha (by omega)) (fx 12 (by decide) (no 12 (by omega))).2.2 (fx 13 (by decide) (no 13 (by omega))).2.2 (fx 14 (by decide) (no 14 (by omega))).2.2 (sc 18 (by omega)) (sc 1 (by omega)) rfl h.cl (Or.inl ⟨rfl, rfl⟩)
  · have z := h.2.2.2.2.2.2.2.2.2.2.1
    unfold cEd at z ⊢
    rw [(fx 46 (by decide) (no 46 (by omega))).1, show x + 46 + 1 = x + 47 from rfl, (fx 47 (by decide) (no 47 (by omega))).1]
    exact z
  · have z := h.2.2.2.2.2.2.2.2.2.2.2.1
    unfold cMv at z ⊢
    rw [(fx 50 (by decide) (no 50 (by omega))).1]
    exact z
  · have z := h.2.2.2.2.2.2.2.2.2.2.2.2
    unfold cFw at z ⊢
    rw [f0.1]
    exact z
end
section
variable {G : GT} {d : Nat} {w : Nat → Nat} {M : Mem} {a : Nat} {S : ShT}
theorem k_addMarks {h b : Nat} {l : List MkT} {Q : Mem → Prop} (W : CT w M a S) (F : frM M) (hh : h < hN S) (hl : hC S h + l.length ≤ 16) (ho : ∀ i, i < l.length → okM (gN S) (l.getD i dMk)) (hb : mK M b = 19) (lb : mA M b = 16) (nb : a + 9 ≤ b)
    (hm : ∀ i, i < l.length → ∃ o, vr M b i = some o ∧ cMk w M o (l.getD i dMk)) (hw : ∀ c, w c = 2 → c ≠ a ∧ ∀ o ∈ [4, 5, 7, 8], c ≠ a + o)
    (hq : ∀ M', Frv a [] [4, 5, 7, 8] M M' → CT w M' a (addM S h l) → (∀ s, isM (addM S h l) s → vi M' (a + 7) s = nI (agr (addM S h l) (kM (addM S h l) s))) → (∀ s, isM (addM S h l) s → ∀ o, o < 64 → (bit (vl M' (a + 8) s) o ↔ isM (addM S h l) o ∧ ¬ ck (kM (addM S h l) s) (kM (addM S h l) o) = 0)) → Q M') : CV G (d + 6) 78 [.ref a, .int (nI h), .ref b, .int (nI l.length)] M Q := by
  have V := W.2.1
  have h4 := V.h
  have O := W.1
  have c16 := V.c h
  have km : ∀ {M' : Mem}, Frv a [] [4, 5, 7, 8] M M' → keepM w M M' := fun f c hc _ => ⟨f.2.2.2.2.1 c (hw c hc).1 (hw c hc).2, by rw [f.2.2.1], by rw [f.2.2.2.1]⟩
  have V2 := addM_ok V hh hl ho
  refine c_X8_addMarks O (k_hasHand O W.h h4 ⟨O, bnz (fun _ => ?_) (fun n => absurd ⟨by rw [nI_toIntN (by omega)]; omega, by rw [nI_toIntN (by omega)]; omega⟩ n)⟩)
  -- the second loop
  have lp2 : ∀ (k i : Nat) (M2 : Mem), k + i = 64 → Frv a [] [4, 5, 7, 8] M M2 → CT w M2 a (addM S h l) → (∀ s, s < i → isM (addM S h l) s → vi M2 (a + 7) s = nI (agr (addM S h l) (kM (addM S h l) s)) ∧ ∀ o, o < 64 → (bit (vl M2 (a + 8) s) o ↔ isM (addM S h l) o ∧ ¬ ck (kM (addM S h l) s) (kM (addM S h l) o) = 0)) → At G (d + 6) 78 83 [(0, .ref a), (4, .int (nI i))] [] M2 (qV Q) := by
    intro k
    induction k with
    | zero =>
      intro i M2 e f2 W2 hs
      refine c_X8_addMarks_83 (a2 := 0) W2.1 ⟨fun _ => hq M2 f2 W2 (fun s z => (hs s (by have := isM_lt V2 z; omega) z).1) (fun s z => (hs s (by have := isM_lt V2 z; omega) z).2), fun c => absurd (show (64 : Int32) ≤ nI i from nI_le (a := 64) (by omega) (by omega)) c⟩
    | succ k ih =>
      intro i M2 e f2 W2 hs
      have ct : ∀ {M3 : Mem}, Frv a [] [7, 8] M2 M3 → CT w M3 a (addM S h l) := fun f => by
        refine ⟨f.ob W2.1, V2, ?_, fun j hj => ?_, W2.2.2.2.2.keep (fun b hb => ?_) (fun c hc _ => ⟨f.2.2.2.2.1 c (hw c hc).1 (fun o ho => (hw c hc).2 o (by simp at ho ⊢; omega)), by rw [f.2.2.1], by rw [f.2.2.2.1]⟩) (f.c (by decide) (by decide)).2.2⟩
        · rw [f.f (by decide)]; exact W2.h
        · rw [(f.c (by decide) (by decide)).1]; exact W2.c hj
        · rw [f2.2.2.1]; exact F b (by rw [← f2.1]; exact hb)
      refine c_X8_addMarks_83 (a2 := 0) W2.1 ⟨fun c => absurd c (nI_ge (a := i) (b := 64) (by omega) (by decide)), fun _ => ⟨vp_in_nI (by omega) (by omega), ?_⟩⟩
      rw [nI_clamp (by omega), nI_1]
      by_cases c : isM (addM S h l) i
      · obtain ⟨o, e1, e2⟩ := W2.m c
        refine ⟨fun r er => ?_, fun er => (by rw [e1] at er; cases er)⟩
        have : r = o := some_inj e1 er
        subst this
        have vk := V2.m c
        refine k_agreeing W2 e2.1 vk ⟨W2.1, vp_in_nI (by omega) (by omega), fun M13 e13 => ?_⟩
        have f13 : Frv a [] [7, 8] M2 M13 := by rw [e13]; exact Frv.si (by decide) (by decide)
        have W13 := ct f13
        have km13 : keepM w M2 M13 := fun c hc _ => ⟨f13.2.2.2.2.1 c (hw c hc).1 (fun o ho => (hw c hc).2 o (by simp at ho ⊢; omega)), by rw [f13.2.2.1], by rw [f13.2.2.2.1]⟩
        have F2 : frM M2 := fun b hb => by rw [f2.2.2.1]; exact F b (by rw [← f2.1]; exact hb)
        refine k_clashesOf W13 (e2.keep F2 km13).1 vk (fun bb hbb => ⟨W13.1, vp_in_nI (by omega) (by omega), fun M16 e16 => ?_⟩)
        have f16 : Frv a [] [7, 8] M2 M16 := f13.trans (by rw [e16]; exact Frv.sl (by decide) (by decide))
        refine ih (i + 1) M16 (by omega) (f2.trans (f16.sub (by decide) (by decide))) (ct f16) (fun s hs2 im => ?_)
        by_cases z : s = i
        · rw [z]
          refine ⟨?_, fun o ho2 => ?_⟩
          · rw [e16, vi_setl, e13, vi_seti, if_pos ⟨rfl, rfl⟩]
          · rw [e16, vl_setl, if_pos ⟨rfl, rfl⟩]; exact hbb o ho2
        · have q := hs s (by omega) im
          refine ⟨?_, fun o ho2 => ?_⟩
          · rw [e16, vi_setl, e13, vi_seti, if_neg (fun y => z y.2)]; exact q.1
          · rw [e16, vl_setl, if_neg (fun y => z y.2), e13, vl_seti]; exact q.2 o ho2
      · have e1 := W2.n (by omega) c
        refine ⟨fun r er => (by rw [e1] at er; cases er), fun _ => ⟨vp_in_nI (by omega) (by omega), fun M13 e13 => ⟨vp_in_nI (by omega) (by omega), fun M16 e16 => ?_⟩⟩⟩
        have f16 : Frv a [] [7, 8] M2 M16 := by rw [e16, e13]; exact (Frv.si (by decide) (by decide)).trans (Frv.sl (by decide) (by decide))
        refine ih (i + 1) M16 (by omega) (f2.trans (f16.sub (by decide) (by decide))) (ct f16) (fun s hs2 im => ?_)
        have z : s ≠ i := fun z => c (z ▸ im)
        have q := hs s (by omega) im
        refine ⟨?_, fun o ho2 => ?_⟩
        · rw [e16, vi_setl, e13, vi_seti, if_neg (fun y => z y.2)]; exact q.1
        · rw [e16, vl_setl, if_neg (fun y => z y.2), e13, vl_seti]; exact q.2 o ho2
  -- the first loop
  have lp1 : ∀ (k i : Nat) (M1 : Mem), k + i = l.length → Frv a [] [4, 5, 7, 8] M M1 → same M M1 (a + 7) → vi M1 (a + 4) h = nI (hC S h + i) → (∀ j, j ≠ h → vi M1 (a + 4) j = vi M (a + 4) j) → (∀ j, j < i → vr M1 (a + 5) (16 * h + hC S h + j) = vr M b j) → (∀ s, (s < 16 * h + hC S h ∨ 16 * h + hC S h + i ≤ s) → vr M1 (a + 5) s = vr M (a + 5) s) → At G (d + 6) 78 12 [(0, .ref a), (1, .int (nI h)), (2, .ref b), (3, .int (nI l.length)), (4, .int (nI i))] [] M1 (qV Q) := by
    intro k
    induction k with
    | zero =>
      intro i M1 e f1 s7 t1 t2 v1 v2
      have ei : i = l.length := by omega
      refine c_X8_addMarks_12 (f1.ob O) ⟨fun _ => ?_, fun c => absurd (nI_le (by omega) (by omega)) c⟩
      refine lp2 64 0 M1 rfl f1 ⟨f1.ob O, V2, ?_, fun j hj => ?_, fun s hs => ⟨fun im => ?_, fun im => ?_⟩⟩ (fun s hs => absurd hs (Nat.not_lt_zero s))
      · rw [f1.f (by decide)]; exact W.h
      · show vi M1 (a + 4) j = nI (if j = h then hC S h + l.length else hC S j)
        by_cases z : j = h
        · rw [if_pos z, z, t1, ei]
        · rw [if_neg z, t2 j z]; exact W.c hj
      · rcases (addM_is V hh hl s).mp im with z | z
        · obtain ⟨o, e1, e2⟩ := W.m z
          have z2 := z.2
          refine ⟨o, ?_, ?_⟩
          · rw [v2 s ?_]
            · exact e1
            · rcases Nat.lt_or_ge (s / 16) h with u | u
              · left; omega
              · rcases Nat.eq_or_lt_of_le u with y | y
                · rw [← y] at z2; left; omega
                · right; omega
          · rw [addM_old z]; exact e2.keep F (km f1)
        · obtain ⟨o, e1, e2⟩ := hm (s % 16 - hC S h) (by omega)
          refine ⟨o, ?_, ?_⟩
          · have := v1 (s % 16 - hC S h) (by omega)
            rw [show 16 * h + hC S h + (s % 16 - hC S h) = s by omega] at this
            rw [this]; exact e1
          · have ek := addM_new (S := S) (h := h) (l := l) (i := s % 16 - hC S h) hl (by omega)
            rw [show 16 * h + hC S h + (s % 16 - hC S h) = s by omega] at ek
            rw [ek]; exact e2.keep F (km f1)
      · have n1 : ¬ isM S s := fun z => im ((addM_is V hh hl s).mpr (Or.inl z))
        have n2 : ¬ (s / 16 = h ∧ hC S h ≤ s % 16 ∧ s % 16 < hC S h + l.length) := fun z => im ((addM_is V hh hl s).mpr (Or.inr z))
        rw [v2 s (by omega)]
        exact W.n hs n1
    | succ k ih =>
      intro i M1 e f1 s7 t1 t2 v1 v2
      obtain ⟨o, e1, e2⟩ := hm i (by omega)
      have kb : mK M1 b = 19 := by rw [f1.2.2.1]; exact hb
      have sb : same M M1 b := f1.2.2.2.2.1 b (by omega) (fun o ho => by simp at ho; omega)
      have v4 : vp_in (nI h) 4 := vp_in_nI (by omega) (by omega)
      refine c_X8_addMarks_12 (f1.ob O) ⟨fun c => absurd c (nI_ge (by omega) (by omega)), fun _ => ⟨by rw [kb]; decide, ?_⟩⟩
      rw [f1.2.2.2.1, lb, nI_clamp (by omega), t1]
      refine ⟨fun c => absurd c (nI_ge (by omega) (by omega)), fun _ => ⟨v4, fun c => absurd c (nlt0 _ (by omega)), fun _ => ⟨v4, fun c => absurd c (nI_ge (a := hC S h + i) (b := 16) (by omega) (by decide)), fun _ => ⟨v4, ?_⟩⟩⟩⟩
      refine c_X11_slotOf ⟨f1.ob O, by rw [kb]; decide, by rw [f1.2.2.2.1, lb]; exact vp_in_nI (by omega) (by omega), ?_⟩
      have es : nI h * 16 + nI (hC S h + i) = nI (16 * h + hC S h + i) := by
        rw [show (16 : Int32) = nI 16 from rfl, pk_mul, nI_add]
        congr 1; omega
      rw [es, nI_clamp (by omega), nI_clamp (by omega), sb.2.2, nI_1]
      refine ⟨fun r er => ?_, fun er => (by rw [e1] at er; cases er)⟩
      have : r = o := some_inj e1 er
      subst this
      refine ⟨vp_in_nI (by omega) (by omega), ?_, fun M6 e6 => ⟨v4, v4, fun M7 e7 => ?_⟩⟩
      · rw [f1.2.2.1, show mK M (a + 5) = 19 from ob8_k7 O, e2.1.k]; rfl
      · have x6 : vi M6 (a + 4) h = nI (hC S h + i) := by rw [e6, vi_setr]; exact t1
        rw [x6, nI_1] at e7
        have f7 : Frv a [] [4, 5, 7, 8] M1 M7 := by rw [e7, e6]; exact (Frv.sr (by decide) (by decide)).trans (Frv.si (by decide) (by decide))
        refine ih (i + 1) M7 (by omega) (f1.trans f7) (s7.trans ?_) ?_ (fun j hj => ?_) (fun j hj => ?_) (fun s hs => ?_)
        · rw [e7, e6]
          exact ⟨by funext j; rw [vi_seti, if_neg (by omega), vi_setr], rfl, by funext j; rw [vr_seti, vr_setr, if_neg (by omega)]⟩
        · rw [e7, vi_seti, if_pos ⟨rfl, rfl⟩]; rfl
        · rw [e7, vi_seti, if_neg (fun y => hj y.2), e6, vi_setr]; exact t2 j hj
        · rw [e7, vr_seti, e6, vr_setr]
          by_cases z : j = i
          · rw [if_pos ⟨rfl, by rw [z]⟩, z, e1]
          · rw [if_neg (fun y => z (by have := y.2; omega))]; exact v1 j (by omega)
        · rw [e7, vr_seti, e6, vr_setr, if_neg (fun y => by have := y.2; omega)]; exact v2 s (by omega)
  exact lp1 l.length 0 M rfl Frv.refl same.refl (by rw [Nat.add_zero]; exact W.c (by omega)) (fun _ _ => rfl) (fun j hj => absurd hj (Nat.not_lt_zero j)) (fun _ _ => rfl)
end
