/-! WEIGHT, STANDS, FALLS, MANY: the class's calls -/
theorem stl_1 {S : ShT} {W : Nat → Int64} {st : Nat → Nat} {x : Int64} {o : Nat} (h : st o = 1) : stl S W st x o = 1 := by
  unfold stl; rw [cif_F (fun z => by omega)]; exact h
theorem fel_stl {S : ShT} {W : Nat → Int64} {st : Nat → Nat} {x : Int64} {s : Nat} (h : fel S st s) : fel S (stl S W st x) s := by
  obtain ⟨o, h1, h2, h3⟩ := h
  exact ⟨o, h1, stl_1 h2, h3⟩
theorem jud_fel {S : ShT} {W : Nat → Int64} : ∀ (n : Nat) {st : Nat → Nat}, (∀ s, isM S s → st s = 0 → fel S st s) → ∀ s, isM S s → jud S W n st s = 0 → fel S (jud S W n st) s
  | 0, st, h, s => h s
  | n + 1, st, h, s => by
    have e : jud S W (n + 1) st = (match hv S W st 64 with | none => st | some b => jud S W n (stl S W st (W b))) := rfl
    rw [e]
    cases hv S W st 64 with
    | none => exact h s
    | some b =>
      refine jud_fel n (fun s is z => ?_) s
      unfold stl at z
      by_cases c : isM S s ∧ st s = 3 ∧ W s = W b
      · rw [cif_T c] at z
        by_cases f : fel S st s
        · exact fel_stl f
        · rw [cif_F f] at z
          exact absurd z (cif_el (φ := fun n => ¬ n = 0) (fun _ => by omega) (fun _ => by omega))
      · rw [cif_F c] at z; exact fel_stl (h s is z)
theorem jS_fel {S : ShT} {L : LawT} {s : Nat} (V : okS S) (is : isM S s) (h : jS S L s = 0) : fst (isFl S L s) 64 < 64 := by
  obtain ⟨o, h1, h2, h3⟩ := jud_fel (S := S) (W := wgt S L) 64 (st := fun _ => 3) (fun s _ z => by omega) s is h
  have o6 := isM_lt V h1
  rcases Nat.lt_or_ge (fst (isFl S L s) 64) 64 with z | z
  · exact z
  · exact absurd (show isFl S L s o from ⟨h1, h2, h3⟩) (fst_no 64 o (by omega))
section
variable {G : GT} {d : Nat} {M M' : Mem} {x c : Nat} {w : Nat → Nat} {T : StT}
theorem k_weight {r b e : Int32} {Q : Int64 → Mem → Prop} (h : XC w M x T c) (hq : ∀ M', XC w M' x T c → Cu x M M' → Q (f_weight T r b e) M') : CJ G (d + 6) 122 [.ref x, .int r, .int b, .int e] M Q := by
  unfold f_weight at hq
  have q4 := h.2.2.1.2.2.2.1
  refine c_X11_weight h.1 (k_judged h (fun n => ⟨h.1, fun r2 er => (by cases er), fun _ => ?_⟩) (fun l er hl M' v h' u' ev ov wv e4 vs => ⟨h'.1, fun r2 e2 => ?_, fun e2 => (by cases e2)⟩))
  · rw [cif_F (fun z => n z.1)] at hq; exact hq M h Cu.refl
  · cases e2
    subst er
    have hq := hq M' h' u'
    have lw : lwOk T (nI l) := by unfold lwOk; rw [nI_toIntN (by omega)]; omega
    rw [nI_clamp (by omega)] at hq
    refine k_find h'.cs.t (fun ck o e1 e2 => ⟨h'.1, fun r4 _ => ⟨ov.1, fun r5 e5 => ?_, fun e5 => ?_⟩, fun er => (by cases er)⟩) (fun ck => ⟨h'.1, fun r4 er => (by cases er), fun _ => ?_⟩)
    · have ev5 : r5 = v + 1 := some_inj (ob10_r0 ov) e5
      subst ev5
      obtain ⟨h1, h2, -, h3⟩ := isK_slo h.cs.2.1 ck
      refine c_X11_slotOf ⟨h'.1, ob10_k0 ov, ?_⟩
      rw [h3, ob10_l0 ov, nI_clamp (by omega), ((vs.1 _ h2).1 h1).1]
      rw [cif_T ⟨lw, ck⟩] at hq
      exact ⟨vp_in_nI h2 (by omega), hq⟩
    · rw [ob10_r0 ov] at e5; cases e5
    · rw [cif_F (fun z => ck z.2)] at hq; exact hq
theorem k_stands {r b e : Int32} {Q : Int32 → Mem → Prop} (h : XC w M x T c) (hq : ∀ M', XC w M' x T c → Cu x M M' → Q (f_stands T r b e) M') : CI G (d + 6) 123 [.ref x, .int r, .int b, .int e] M Q := by
  unfold f_stands at hq
  have q4 := h.2.2.1.2.2.2.1
  refine c_X11_stands h.1 (k_judged h (fun n => ⟨h.1, fun r2 er => (by cases er), fun _ => ?_⟩) (fun l er hl M' v h' u' ev ov wv e4 vs => ⟨h'.1, fun r2 e2 => ?_, fun e2 => (by cases e2)⟩))
  · rw [cif_F (fun z => n z.1)] at hq; exact hq M h Cu.refl
  · cases e2
    subst er
    have hq := hq M' h' u'
    have lw : lwOk T (nI l) := by unfold lwOk; rw [nI_toIntN (by omega)]; omega
    rw [nI_clamp (by omega)] at hq
    refine k_find h'.cs.t (fun ck o e1 e2 => ⟨h'.1, fun r4 _ => ⟨ov.1, fun r5 e5 => ?_, fun e5 => ?_⟩, fun er => (by cases er)⟩) (fun ck => ⟨h'.1, fun r4 er => (by cases er), fun _ => ?_⟩)
    · have ev5 : r5 = v + 2 := some_inj (ob10_r1 ov) e5
      subst ev5
      obtain ⟨h1, h2, -, h3⟩ := isK_slo h.cs.2.1 ck
      refine c_X11_slotOf ⟨h'.1, ob10_k1 ov, ?_⟩
      rw [h3, ob10_l1 ov, nI_clamp (by omega), ((vs.1 _ h2).1 h1).2]
      rw [cif_T ⟨lw, ck⟩] at hq
      exact ⟨vp_in_nI h2 (by omega), hq⟩
    · rw [ob10_r1 ov] at e5; cases e5
    · rw [cif_F (fun z => ck z.2)] at hq; exact hq
theorem k_falls {r b e : Int32} {Q : Int32 → Mem → Prop} (h : XC w M x T c) (hq : ∀ M', XC w M' x T c → Cu x M M' → Q (f_falls T r b e) M') : CI G (d + 6) 124 [.ref x, .int r, .int b, .int e] M Q := by
  unfold f_falls at hq
  have q4 := h.2.2.1.2.2.2.1
  refine c_X11_falls h.1 (k_judged h (fun n => ⟨h.1, fun r2 er => (by cases er), fun _ => ?_⟩) (fun l er hl M' v h' u' ev ov wv e4 vs => ⟨h'.1, fun r2 e2 => ?_, fun e2 => (by cases e2)⟩))
  · rw [cif_F (fun z => n z.1)] at hq; exact hq M h Cu.refl
  · cases e2
    subst er
    have hq := hq M' h' u'
    have lw : lwOk T (nI l) := by unfold lwOk; rw [nI_toIntN (by omega)]; omega
    rw [nI_clamp (by omega)] at hq
    refine k_find h'.cs.t (fun ck o e1 e2 => ⟨h'.1, fun r4 _ => c_X11_slotOf ⟨h'.1, ov.1, fun r7 e7 => ?_, fun e7 => ?_⟩, fun er => (by cases er)⟩) (fun ck => ⟨h'.1, fun r4 er => (by cases er), fun _ => ?_⟩)
    · have ev5 : r7 = v + 2 := some_inj (ob10_r1 ov) e7
      subst ev5
      obtain ⟨h1, h2, -, h3⟩ := isK_slo h.cs.2.1 ck
      rw [cif_T ⟨lw, ck⟩] at hq
      unfold flr at hq
      have jl := jS_le (S := sh T) (L := qL T l) (s := slo b e)
      rw [h3, ob10_l1 ov, nI_clamp (by omega), ((vs.1 _ h2).1 h1).2, il_0, eq_I (by omega) (by omega)]
      refine ⟨ob10_k1 ov, vp_in_nI h2 (by omega), fun n => ?_, fun z => ⟨ov.1, k_feller ov h'.cs h1 vs.2 ⟨h'.1, ?_⟩⟩⟩
      · rw [cif_F (fun z => n z.1)] at hq; exact hq
      · have f6 := jS_fel h.cs.2.1 h1 z
        rw [cif_T ⟨z, f6⟩] at hq
        rw [cif_T f6]; exact hq
    · rw [ob10_r1 ov] at e7; cases e7
    · rw [cif_F (fun z => ck z.2)] at hq; exact hq
theorem k_many {r b : Int32} {Q : Int32 → Mem → Prop} (h : XC w M x T c) (hq : ∀ M', XC w M' x T c → Cu x M M' → Q (f_many T r b) M') : CI G (d + 6) 125 [.ref x, .int r, .int b] M Q := by
  unfold f_many at hq
  have q4 := h.2.2.1.2.2.2.1
  refine c_X11_many h.1 (k_judged h (fun n => ⟨h.1, fun r2 er => (by cases er), fun _ => ?_⟩) (fun l er hl M' v h' u' ev ov wv e4 vs => ⟨h'.1, fun r2 e2 => ?_, fun e2 => (by cases e2)⟩))
  · rw [cif_F (fun z => n z.1)] at hq; exact hq M h Cu.refl
  · cases e2
    subst er
    have hq := hq M' h' u'
    have lw : lwOk T (nI l) := by unfold lwOk; rw [nI_toIntN (by omega)]; omega
    rw [nI_clamp (by omega)] at hq
    rw [fb_lt0, fa_le, show (2 : Int32).toInt = 2 from rfl]
    refine ⟨fun z => ?_, fun z => ⟨fun z2 => ⟨ov.1, k_howMany (S := sh T) (st := jS (sh T) (qL T l)) ov (fun s hs => ?_) (fun e => ?_) ⟨h'.1, ?_⟩⟩, fun z2 => ?_⟩⟩
    · rw [cif_F (fun y => by have := y.2.1; omega)] at hq; exact hq
    · by_cases is : isM (sh T) s
      · rw [cif_T is]; exact ((vs.1 s hs).1 is).2
      · rw [cif_F is]; exact ((vs.1 s hs).2 is).2
    · rw [e] at z; exact z (by decide)
    · rw [cif_T ⟨lw, by omega, z2⟩] at hq; exact hq
    · rw [cif_F (fun y => z2 y.2.2)] at hq; exact hq
end
