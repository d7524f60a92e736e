/-! THE CLASS'S READER OF MARKS: a MARK, a clause, all -/
section
variable {G : GT} {d x p f n : Nat} {M M' : Mem} {t : TpT} {S : ShT}
theorem k_fail0 {o : Nat} {a b : Int32} {Q : Mem → Prop} (h : tpA M o t p f) (f0 : ¬ f = 0) (f4 : f < 100000) (hq : Q M) : CV G (d + 1) 91 [.ref o, .int a, .int b] M Q := by
  refine c_X9_fail h.1 ?_
  rw [h.ff, il_0, eq_I (by omega) (by omega)]
  exact ⟨fun _ => hq, fun z => absurd z f0⟩
theorem rdQ.imp {r : RdT} {Q Q' : Option Nat → Mem → Prop} (h : rdQ M x t S r Q) (hy : ∀ M' ob q, RDA M' x t S q 0 → Q (some ob) M' → Q' (some ob) M') (hn : ∀ M' q e, RDA M' x t S q e → Q none M' → Q' none M') : rdQ M x t S r Q' :=
  ⟨fun z M' ob r1 h1 h2 => hy M' ob _ h1 (h.1 z M' ob r1 h1 h2), fun z M' q r1 h1 => hn M' q _ h1 (h.2 z M' q r1 h1)⟩
theorem k_readMark {k : Nat} {Q : Option Nat → Mem → Prop} (h : RDA M x t S p 0) (p4 : p ≤ t.1) (k8 : k < 8) (hq : rdQ M x t S (pM t S k p) Q) : CR G (d + 5) 61 [.ref (x + 15), .ref (x + 1), .ref (x + 3), .int (nI k)] M Q := by
  have t4 := h.1.2.2.1
  have g2 := h.2.2.2.2.2.2.2
  have s2 : q2 t p ≤ t.1 := (skB_le (nX_le p4)).2
  have s3 : q3 t p ≤ t.1 := (skB_le (nX_le s2)).2
  have lt : (pM t S k p).1 < 100000 ∨ True := Or.inr trivial
  unfold pM at hq
  -- behind a FAULT
  have bad139 : ∀ (M5 : Mem) (q e : Nat) (l5 l6 l7 : Int32), (∀ M', Rm x 0 M M' → (∃ q, RDA M' x t S q e) → Q none M') → ¬ e = 0 → e < 100000 → Rm x 0 M M5 → RDA M5 x t S q e → At G (d + 5) 61 139 [(1, .ref (x + 1)), (5, .int l5), (6, .int l6), (7, .int l7)] [] M5 (qR Q) := by
    intro M5 q e l5 l6 l7 hb e0 e4 r5 h5
    refine c_X6_readMark_139 h5.2.1 h5.1.1 h5.2.2.1 h5.fr ?_
    rw [h5.1.ff, il_0, eq_I (by omega) (by omega)]
    exact ⟨fun z => absurd z e0, fun _ => c_X6_readMark_165n h5.2.1 h5.1.1 h5.2.2.1 h5.fr (hb M5 r5 ⟨q, h5⟩)⟩
  have bad93 : ∀ (M3 : Mem) (q e : Nat) (l5 l6 : Int32), (∀ M', Rm x 0 M M' → (∃ q, RDA M' x t S q e) → Q none M') → ¬ e = 0 → e < 100000 → Rm x 0 M M3 → RDA M3 x t S q e → At G (d + 5) 61 93 [(0, .ref (x + 15)), (1, .ref (x + 1)), (3, .int (nI k)), (4, .int (nI (gN S))), (5, .int l5), (6, .int l6)] [] M3 (qR Q) := by
    intro M3 q e l5 l6 hb e0 e4 r3 h3
    have e109 : ∀ t0 : Int32, At G (d + 5) 61 109 [(0, .ref (x + 15)), (1, .ref (x + 1)), (4, .int (nI (gN S))), (5, .int l5), (6, .int l6)] [.int t0, .ref (x + 1), .ref (x + 15)] M3 (qR Q) := fun t0 => by
      refine c_X6_readMark_109 h3.2.1 h3.1.1 h3.2.2.1 h3.fr ⟨h3.2.1.1, k_readNumber0 h3 e0 e4 ⟨⟨h3.2.1, h3.1.1, h3.2.2.1, h3.fr⟩, ?_⟩⟩
      refine ⟨fun _ => bad139 M3 q e _ _ _ hb e0 e4 r3 h3, fun _ => ⟨fun _ => bad139 M3 q e _ _ _ hb e0 e4 r3 h3, fun _ => ?_⟩⟩
      exact k_fail0 h3.1 e0 e4 ⟨⟨h3.2.1, h3.1.1, h3.2.2.1, h3.fr⟩, bad139 M3 q e _ _ _ hb e0 e4 r3 h3⟩
    exact c_X6_readMark_93 h3.2.1 h3.1.1 h3.2.2.1 h3.fr ⟨fun _ => e109 _, fun _ => e109 _⟩
  refine c_X6_readMark h.2.1 h.1.1 h.2.2.1 h.fr ?_
  rw [il_0, eq_I (by omega) (by omega), show (7 : Int32) = nI 7 from rfl, eq_I (by omega) (by omega), show (4 : Int32) = nI 4 from rfl, eq_I (by omega) (by omega), show (6 : Int32) = nI 6 from rfl, eq_I (by omega) (by omega), h.2.2.2.2.2.1]
  refine ⟨fun k0 => ⟨fun k7 => ?_, fun k7 => ?_⟩, fun k0 => ?_⟩
  · rw [cif_F k0, cif_F k7] at hq
    -- the end of a MARK of two places; of a move
    have two : ∀ (M3 : Mem) (v2 v4 : Int32), ((pSpF t S p = 0 ∧ v2 = nI (nV t p) ∧ v4 = nI (nV t (q2 t p)) ∧ Rm x 0 M M3 ∧ RDA M3 x t S (q3 t p) 0) ∨ (¬ pSpF t S p = 0 ∧ Rm x 0 M M3 ∧ ∃ q, RDA M3 x t S q (pSpF t S p))) →
        ((k = 4 → At G (d + 5) 61 93 [(0, .ref (x + 15)), (1, .ref (x + 1)), (3, .int (nI k)), (4, .int (nI (gN S))), (5, .int v2), (6, .int v4)] [] M3 (qR Q)) ∧ (¬ k = 4 → (k = 6 → At G (d + 5) 61 93 [(0, .ref (x + 15)), (1, .ref (x + 1)), (3, .int (nI k)), (4, .int (nI (gN S))), (5, .int v2), (6, .int v4)] [] M3 (qR Q)) ∧ (¬ k = 6 → (vi M3 (x + 1) 3 = nI 0 → ∀ M5, M5 = mnew M3 6 8 → CV G (d + 4) 47 [.ref (mN M3), .int (nI k), .int v2, .int v4, .int (-1), .null] M5 (fun M6 => (ObAt 6 M6 (x + 15) ∧ ObAt 9 M6 (x + 1) ∧ ObAt 8 M6 (x + 3) ∧ frM M6) ∧ (At G (d + 5) 61 92 [] [.ref (mN M3)] M6 (qR Q)))) ∧ (¬ vi M3 (x + 1) 3 = nI 0 → At G (d + 5) 61 92 [] [.null] M3 (qR Q))))) := by
      intro M3 v2 v4 hh
      rcases hh with ⟨z, e2, e4, r3, h3⟩ | ⟨z, r3, q, h3⟩
      · subst e2 e4
        have ok1 : nuF t p 0 (gN S) = 0 := by
          by_cases c : nuF t p 0 (gN S) = 0
          · exact c
          · unfold pSpF at z; rw [cif_F c] at z; exact z
        have ok2 : nuF t (q2 t p) (nV t p + 1) (gN S) = 0 := by unfold pSpF at z; rw [cif_T ok1] at z; exact z
        have b1 := nuF_ok ok1
        have b2 := nuF_ok ok2
        rw [cif_T z] at hq
        have good139 : ∀ (M5 : Mem) (w : Nat), rdQ M x t S (0, (4, nI (nV t p), nI (nV t (q2 t p)), nI w, []), nX t (q3 t p)) Q → Rm x 0 M M5 → RDA M5 x t S (skB t (nX t (q3 t p))) 0 → At G (d + 5) 61 139 [(1, .ref (x + 1)), (5, .int (nI (nV t p))), (6, .int (nI (nV t (q2 t p)))), (7, .int (nI w))] [] M5 (qR Q) := by
          intro M5 w hq r5 h5
          refine c_X6_readMark_139 h5.2.1 h5.1.1 h5.2.2.1 h5.fr ?_
          rw [h5.1.ff]
          refine ⟨fun _ M6 e6 => ?_, fun c => absurd rfl c⟩
          subst e6
          exact k_newR hq r5 h5 rfl rfl rfl (by decide) (fun M' H hQ => ⟨⟨H.2.1, H.1.1, H.2.2.1, H.fr⟩, c_X6_readMark_165 H.2.1 H.1.1 H.2.2.1 H.fr hQ⟩)
        refine ⟨fun k4 => ?_, fun k4 => ⟨fun k6 => ?_, fun k6 => ⟨fun _ M5 e5 => ?_, fun c => absurd h3.1.ff c⟩⟩⟩
        · rw [cif_T k4] at hq
          refine c_X6_readMark_93 h3.2.1 h3.1.1 h3.2.2.1 h3.fr ⟨fun _ => ?_, fun c => absurd ((eq_I (a := k) (b := 6) (by omega) (by omega)).mp c) (by omega)⟩
          refine c_X6_readMark_109 h3.2.1 h3.1.1 h3.2.2.1 h3.fr ⟨h3.2.1.1, k_readNumber (lo := 0) (hi := gN S + 1) h3 s3 rfl (by omega) (le_b g2) (fun z3 M13 r13 h13 e3 => ⟨⟨h13.2.1, h13.1.1, h13.2.2.1, h13.fr⟩, ?_⟩) (fun z3 M13 r13 h13 => ⟨⟨h13.2.1, h13.1.1, h13.2.2.1, h13.fr⟩, ?_⟩)⟩
          · have b3 := nuF_ok (t := t) (p := q3 t p) (lo := 0) (hi := gN S) z3
            rw [show nuF t (q3 t p) 0 (gN S) = 0 ↔ True from iff_true_intro z3, cif_T trivial] at hq
            rw [lt_I (by omega) (by omega), lt_I (by omega) (by omega), e3]
            by_cases c : nV t p ≤ nV t (q3 t p) ∧ nV t (q3 t p) ≤ nV t (q2 t p)
            · rw [cif_T c] at hq
              refine ⟨fun y => absurd y (by omega), fun _ => ⟨fun y => absurd y (by omega), fun _ => ?_⟩⟩
              refine k_fail (c := 1) h13.1 (by omega) (fun M6 g6 h6 => ?_)
              have r6 := Rm.tp g6 h13.fr (by decide)
              rw [if_pos rfl] at h6
              have H := h13.step r6 h6
              refine ⟨⟨H.2.1, H.1.1, H.2.2.1, H.fr⟩, bad139 M6 _ _ _ _ _ (fun M' r' ⟨q', h'⟩ => hq.bad rfl (flt_ne _ _) r' h') (flt_ne _ _) (flt_lt (by omega) (by omega)) (r3.tr0 (r13.tr0 r6)) H⟩
            · rw [cif_F c] at hq
              have gd := good139 M13 _ hq (r3.tr0 r13) h13
              exact ⟨fun _ => gd, fun _ => ⟨fun _ => gd, fun y => absurd ⟨by omega, by omega⟩ c⟩⟩
          · have lt3 : nuE t (q3 t p) 0 (gN S + 1) < 100000 := nuF_lt (t := t) (p := q3 t p) (lo := 0) (hi := gN S) (by omega)
            rw [show nuF t (q3 t p) 0 (gN S) = 0 ↔ False from iff_false_intro z3, cif_F id] at hq
            have bd := bad139 M13 _ _ (nI (nV t p)) (nI (nV t (q2 t p))) (-1) (fun M' r' ⟨q', h'⟩ => hq.bad rfl z3 r' h') z3 lt3 (r3.tr0 r13) h13
            exact ⟨fun _ => bd, fun y => absurd (by rw [il_m1, mn_lt (by decide) (by decide) (by omega)]; trivial) y⟩
        · rw [cif_F k4, cif_T k6] at hq
          refine c_X6_readMark_93 h3.2.1 h3.1.1 h3.2.2.1 h3.fr ⟨fun c => absurd (by rw [k6]; rfl) c, fun _ => ?_⟩
          rw [nI_1]
          refine c_X6_readMark_109 h3.2.1 h3.1.1 h3.2.2.1 h3.fr ⟨h3.2.1.1, k_readNumber (lo := nV t (q2 t p) + 1) (hi := gN S + 1) h3 s3 rfl (by omega) (le_b g2) (fun z3 M13 r13 h13 e3 => ⟨⟨h13.2.1, h13.1.1, h13.2.2.1, h13.fr⟩, ?_⟩) (fun z3 M13 r13 h13 => ⟨⟨h13.2.1, h13.1.1, h13.2.2.1, h13.fr⟩, ?_⟩)⟩
          · have b3 := nuF_ok (t := t) (p := q3 t p) (lo := nV t (q2 t p) + 1) (hi := gN S) z3
            rw [show nuF t (q3 t p) (nV t (q2 t p) + 1) (gN S) = 0 ↔ True from iff_true_intro z3, cif_T trivial] at hq
            rw [lt_I (by omega) (by omega), lt_I (by omega) (by omega), e3]
            have gd := good139 M13 _ hq (r3.tr0 r13) h13
            exact ⟨fun _ => gd, fun _ => ⟨fun _ => gd, fun y => absurd (by omega) y⟩⟩
          · have lt3 : nuE t (q3 t p) (nV t (q2 t p) + 1) (gN S + 1) < 100000 := nuF_lt (t := t) (p := q3 t p) (lo := nV t (q2 t p) + 1) (hi := gN S) (by omega)
            rw [show nuF t (q3 t p) (nV t (q2 t p) + 1) (gN S) = 0 ↔ False from iff_false_intro z3, cif_F id] at hq
            have bd := bad139 M13 _ _ (nI (nV t p)) (nI (nV t (q2 t p))) (-1) (fun M' r' ⟨q', h'⟩ => hq.bad rfl z3 r' h') z3 lt3 (r3.tr0 r13) h13
            exact ⟨fun _ => bd, fun y => absurd (by rw [il_m1, mn_lt (by decide) (by decide) (by omega)]; trivial) y⟩
        · rw [cif_F k4, cif_F k6] at hq
          subst e5
          exact k_newR hq r3 h3 rfl rfl rfl (nI_ne0 (by omega) (by omega)) (fun M' H hQ => ⟨⟨H.2.1, H.1.1, H.2.2.1, H.fr⟩, c_X6_readMark_92 H.2.1 H.1.1 H.2.2.1 H.fr hQ⟩)
      · rw [cif_F z] at hq
        have lt3 : pSpF t S p < 100000 := cif_el (φ := fun r => r < 100000) (fun _ => nuF_lt (by have := s2; unfold q2 at this; omega)) (fun _ => nuF_lt (by omega))
        have bd := bad93 M3 q _ v2 v4 (fun M' r' ⟨q', h'⟩ => hq.bad rfl z r' h') z lt3 r3 h3
        refine ⟨fun _ => bd, fun _ => ⟨fun _ => bd, fun _ => ⟨fun c => ?_, fun _ => c_X6_readMark_92n h3.2.1 h3.1.1 h3.2.2.1 h3.fr (hq.bad rfl z r3 h3)⟩⟩⟩
        rw [h3.1.ff, eq_I (by omega) (by omega)] at c
        exact absurd c z
    refine k_readNumber (lo := 0) (hi := gN S + 1) h p4 rfl (by omega) (le_b g2) (fun z M1 r1 h1 e3 => ⟨⟨h1.2.1, h1.1.1, h1.2.2.1, h1.fr⟩, ?_⟩) (fun z M1 r1 h1 => ⟨⟨h1.2.1, h1.1.1, h1.2.2.1, h1.fr⟩, ?_⟩)
    · have b1 := nuF_ok (t := t) (p := p) (lo := 0) (hi := gN S) z
      rw [nI_1]
      refine k_readNumber (lo := nV t p + 1) (hi := gN S + 1) h1 s2 rfl (by omega) (le_b g2) (fun z3 M3 r3 h3 e3 => ⟨⟨h3.2.1, h3.1.1, h3.2.2.1, h3.fr⟩, two M3 _ _ (Or.inl ⟨?_, rfl, rfl, r1.tr0 r3, h3⟩)⟩) (fun z3 M3 r3 h3 => ⟨⟨h3.2.1, h3.1.1, h3.2.2.1, h3.fr⟩, two M3 _ _ (Or.inr ⟨?_, r1.tr0 r3, skB t (nX t p), ?_⟩)⟩)
      · unfold pSpF; rw [cif_T (show nuF t p 0 (gN S) = 0 from z)]; exact z3
      · unfold pSpF; rw [cif_T (show nuF t p 0 (gN S) = 0 from z)]; exact z3
      · unfold pSpF; rw [cif_T (show nuF t p 0 (gN S) = 0 from z)]; exact h3
    · have lt1 : nuE t p 0 (gN S + 1) < 100000 := nuF_lt (t := t) (p := p) (lo := 0) (hi := gN S) (by omega)
      refine k_readNumber0 h1 z lt1 ⟨⟨h1.2.1, h1.1.1, h1.2.2.1, h1.fr⟩, two M1 _ _ (Or.inr ⟨?_, r1, p, ?_⟩)⟩
      · unfold pSpF; rw [cif_F (show ¬ nuF t p 0 (gN S) = 0 from z)]; exact z
      · unfold pSpF; rw [cif_F (show ¬ nuF t p 0 (gN S) = 0 from z)]; exact h1
  · rw [cif_F k0, cif_T k7] at hq
    exact k_readClose h p4 (hq.imp (fun M' ob q H hQ => ⟨⟨H.2.1, H.1.1, H.2.2.1, H.fr⟩, fun r e => by cases e; exact hQ, fun e => (by cases e)⟩) (fun M' q e H hQ => ⟨⟨H.2.1, H.1.1, H.2.2.1, H.fr⟩, fun r e => (by cases e), fun _ => hQ⟩))
  · rw [cif_T k0] at hq
    exact k_readIns h p4 (hq.imp (fun M' ob q H hQ => ⟨⟨H.2.1, H.1.1, H.2.2.1, H.fr⟩, fun r e => by cases e; exact hQ, fun e => (by cases e)⟩) (fun M' q e H hQ => ⟨⟨H.2.1, H.1.1, H.2.2.1, H.fr⟩, fun r e => (by cases e), fun _ => hQ⟩))
end
