/-! THE CLASS, block by block: by program (wip/tools/clsall.py) -/
theorem c_X6_readMarks {G : GT} {d : Nat} {M : Mem} {o : Nat} (O : ObAt 6 M o) {a1 : Nat} (Pa1 : ObAt 9 M a1) {a2 : Nat} (Pa2 : ObAt 8 M a2) {a3 : Int32} {Q : Mem → Prop} (H : CV G d 90 [.ref a1] M (fun M1 => (ObAt 6 M1 o ∧ ObAt 9 M1 a1 ∧ ObAt 8 M1 a2) ∧ (∀ M2, M2 = seti M1 o 1 (0 : Int32) → At G (d + 1) 59 12 [(0, .ref o), (1, .ref a1), (2, .ref a2), (3, .int a3), (4, .int (0 : Int32))] [] M2 (qV Q)))) : CV G (d + 1) 59 [.ref o, .ref a1, .ref a2, .int a3] M Q := by
  refine Cl.ofM (Nat.le_of_ble_eq_true rfl) rfl ?_
  refine vcc ok59 0 [12] ?_
  refine And.intro (Nat.le_of_ble_eq_true rfl) ?_
  refine And.intro (Nat.le_of_ble_eq_true rfl) (And.intro Pa1.1 ?_)
  refine Cl.mono H (fun r M1 h => ?_)
  obtain ⟨rfl, H⟩ := h
  obtain ⟨⟨O, Pa1, Pa2⟩, H⟩ := H
  refine And.intro O.1 ?_
  refine And.intro (Or.inl rfl) (And.intro (fun h => absurd h (by decide)) ?_)
  replace H := H _ rfl
  exact H

theorem c_X6_readMarks_12 {G : GT} {d : Nat} {M : Mem} {o : Nat} (O : ObAt 6 M o) {a1 : Nat} (Pa1 : ObAt 9 M a1) {a2 : Nat} (Pa2 : ObAt 8 M a2) {l3 : Int32} {l4 : Int32} {Q : Mem → Prop} (H : ((16 : Int32) < l4 → Q M) ∧ (¬ (16 : Int32) < l4 → CV G d 60 [.ref o, .ref a1, .ref a2, .int l3] M (fun M3 => (ObAt 6 M3 o ∧ ObAt 9 M3 a1 ∧ ObAt 8 M3 a2) ∧ ((¬ (vi M3 a1 3) = 0 → Q M3) ∧ ((vi M3 a1 3) = 0 → CI G d 92 [.ref a1] M3 (fun v5 M4 => (ObAt 6 M4 o ∧ ObAt 9 M4 a1 ∧ ObAt 8 M4 a2) ∧ ((¬ v5 = (-1 : Int32) → CI G d 94 [.ref a1, .int (59 : Int32), .int (59 : Int32)] M4 (fun v7 M6 => (ObAt 6 M6 o ∧ ObAt 9 M6 a1 ∧ ObAt 8 M6 a2) ∧ ((¬ v7 = (-1 : Int32) → At G (d + 1) 59 12 [(0, .ref o), (1, .ref a1), (2, .ref a2), (3, .int l3), (4, .int (l4 + (1 : Int32)))] [] M6 (qV Q)) ∧ (v7 = (-1 : Int32) → CV G d 91 [.ref a1, .int (vi M6 a1 2), .int (0 : Int32)] M6 (fun M8 => (ObAt 6 M8 o ∧ ObAt 9 M8 a1 ∧ ObAt 8 M8 a2) ∧ (At G (d + 1) 59 12 [(0, .ref o), (1, .ref a1), (2, .ref a2), (3, .int l3), (4, .int (l4 + (1 : Int32)))] [] M8 (qV Q))))))) ∧ (v5 = (-1 : Int32) → Q M4)))))))) : At G (d + 1) 59 12 [(0, .ref o), (1, .ref a1), (2, .ref a2), (3, .int l3), (4, .int l4)] [] M (qV Q) := by
  refine vcc ok59 7 [] ?_
  refine And.intro (fun c => ?_) (fun c => ?_)
  · replace H := H.1 c
    exact ⟨rfl, H⟩
  · replace H := H.2 c
    refine And.intro (Nat.le_of_ble_eq_true rfl) ?_
    refine And.intro (Nat.le_of_ble_eq_true rfl) (And.intro O.1 ?_)
    refine Cl.mono H (fun r M3 h => ?_)
    obtain ⟨rfl, H⟩ := h
    obtain ⟨⟨O, Pa1, Pa2⟩, H⟩ := H
    refine And.intro Pa1.1 ?_
    refine And.intro (fun c => ?_) (fun c => ?_)
    · replace H := H.1 c
      exact ⟨rfl, H⟩
    · replace H := H.2 c
      refine And.intro (Nat.le_of_ble_eq_true rfl) ?_
      refine And.intro (Nat.le_of_ble_eq_true rfl) (And.intro Pa1.1 ?_)
      refine Cl.mono H (fun r M4 h => ?_)
      obtain ⟨v5, rfl, H⟩ := h
      obtain ⟨⟨O, Pa1, Pa2⟩, H⟩ := H
      refine And.intro (fun c => ?_) (fun c => ?_)
      · replace H := H.1 c
        refine And.intro (Nat.le_of_ble_eq_true rfl) ?_
        refine And.intro (Nat.le_of_ble_eq_true rfl) (And.intro Pa1.1 ?_)
        refine Cl.mono H (fun r M6 h => ?_)
        obtain ⟨v7, rfl, H⟩ := h
        obtain ⟨⟨O, Pa1, Pa2⟩, H⟩ := H
        refine And.intro (fun c => ?_) (fun c => ?_)
        · replace H := H.1 c
          exact H
        · replace H := H.2 c
          refine And.intro Pa1.1 ?_
          refine And.intro (Nat.le_of_ble_eq_true rfl) ?_
          refine And.intro (Nat.le_of_ble_eq_true rfl) (And.intro Pa1.1 ?_)
          refine Cl.mono H (fun r M8 h => ?_)
          obtain ⟨rfl, H⟩ := h
          obtain ⟨⟨O, Pa1, Pa2⟩, H⟩ := H
          exact H
      · replace H := H.2 c
        exact ⟨rfl, H⟩

theorem c_X6_readClause {G : GT} {d : Nat} {M : Mem} {o : Nat} (O : ObAt 6 M o) {a1 : Nat} (Pa1 : ObAt 9 M a1) {a2 : Nat} (Pa2 : ObAt 8 M a2) {a3 : Int32} {Q : Mem → Prop} (H : CI G d 95 [.ref a1, .ref (gk G 0)] M (fun v2 M1 => (ObAt 6 M1 o ∧ ObAt 9 M1 a1 ∧ ObAt 8 M1 a2) ∧ ((¬ v2 = (-1 : Int32) → ((vi M1 o 1) < 0 → CV G d 91 [.ref a1, .int (vi M a1 2), .int (4 : Int32)] M1 (fun M3 => (ObAt 6 M3 o ∧ ObAt 9 M3 a1 ∧ ObAt 8 M3 a2) ∧ (Q M3))) ∧ (¬ (vi M1 o 1) < 0 → ((16 : Int32) ≤ (vi M1 o 1) → CV G d 91 [.ref a1, .int (vi M a1 2), .int (4 : Int32)] M1 (fun M4 => (ObAt 6 M4 o ∧ ObAt 9 M4 a1 ∧ ObAt 8 M4 a2) ∧ (Q M4))) ∧ (¬ (16 : Int32) ≤ (vi M1 o 1) → ((a3 + (vi M1 o 1)) < (16 : Int32) → CR G d 61 [.ref o, .ref a1, .ref a2, .int v2] M1 (fun o11 M5 => (ObAt 6 M5 o ∧ ObAt 9 M5 a1 ∧ ObAt 8 M5 a2) ∧ ((∀ r6, o11 = some r6 → vp_in (vi M1 o 1) 16 ∧ (mK M5 r6 = elN (mK M5 (o + 1)) + 1 ∧ (∀ M7, M7 = setr M5 (o + 1) ((vi M1 o 1)).toNatClampNeg (some r6) → ∀ M8, M8 = seti M7 o 1 ((vi M7 o 1) + (1 : Int32)) → Q M8))) ∧ (o11 = none → vp_in (vi M1 o 1) 16 ∧ (∀ M9, M9 = setr M5 (o + 1) ((vi M1 o 1)).toNatClampNeg none → ∀ M10, M10 = seti M9 o 1 ((vi M9 o 1) + (1 : Int32)) → Q M10))))) ∧ (¬ (a3 + (vi M1 o 1)) < (16 : Int32) → CV G d 91 [.ref a1, .int (vi M a1 2), .int (4 : Int32)] M1 (fun M12 => (ObAt 6 M12 o ∧ ObAt 9 M12 a1 ∧ ObAt 8 M12 a2) ∧ (Q M12)))))) ∧ (v2 = (-1 : Int32) → CV G d 91 [.ref a1, .int (vi M a1 2), .int (0 : Int32)] M1 (fun M13 => (ObAt 6 M13 o ∧ ObAt 9 M13 a1 ∧ ObAt 8 M13 a2) ∧ (Q M13)))))) : CV G (d + 1) 60 [.ref o, .ref a1, .ref a2, .int a3] M Q := by
  refine Cl.ofM (Nat.le_of_ble_eq_true rfl) rfl ?_
  refine vcc ok60 0 [] ?_
  refine And.intro Pa1.1 ?_
  refine And.intro (Nat.le_of_ble_eq_true rfl) ?_
  refine And.intro (Nat.le_of_ble_eq_true rfl) (And.intro Pa1.1 ?_)
  refine Cl.mono H (fun r M1 h => ?_)
  obtain ⟨v2, rfl, H⟩ := h
  obtain ⟨⟨O, Pa1, Pa2⟩, H⟩ := H
  refine And.intro (fun c => ?_) (fun c => ?_)
  · replace H := H.1 c
    refine And.intro O.1 ?_
    refine And.intro (fun c => ?_) (fun c => ?_)
    · replace H := H.1 c
      refine And.intro (Nat.le_of_ble_eq_true rfl) ?_
      refine And.intro (Nat.le_of_ble_eq_true rfl) (And.intro Pa1.1 ?_)
      refine Cl.mono H (fun r M3 h => ?_)
      obtain ⟨rfl, H⟩ := h
      obtain ⟨⟨O, Pa1, Pa2⟩, H⟩ := H
      exact ⟨rfl, H⟩
    · replace H := H.2 c
      refine And.intro O.1 ?_
      refine And.intro (fun c => ?_) (fun c => ?_)
      · replace H := H.1 c
        refine And.intro (Nat.le_of_ble_eq_true rfl) ?_
        refine And.intro (Nat.le_of_ble_eq_true rfl) (And.intro Pa1.1 ?_)
        refine Cl.mono H (fun r M4 h => ?_)
        obtain ⟨rfl, H⟩ := h
        obtain ⟨⟨O, Pa1, Pa2⟩, H⟩ := H
        exact ⟨rfl, H⟩
      · replace H := H.2 c
        refine And.intro O.1 ?_
        refine And.intro (fun c => ?_) (fun c => ?_)
        · replace H := H.1 c
          refine And.intro O.1 ?_
          refine Or.inl ⟨_, (ob6_r0 O), ?_⟩
          refine And.intro O.1 ?_
          refine And.intro (Nat.le_of_ble_eq_true rfl) ?_
          refine And.intro (Nat.le_of_ble_eq_true rfl) (And.intro O.1 ?_)
          refine Cl.mono H (fun r M5 h => ?_)
          obtain ⟨o11, rfl, H⟩ := h
          obtain ⟨⟨O, Pa1, Pa2⟩, H⟩ := H
          rcases o11 with _ | r6
          · replace H := H.2 rfl
            refine ⟨(k18 (ob6_k0 O)), vp_cst (ob6_l0 O) H.1, ?_⟩
            replace H := H.2
            replace H := H _ rfl
            refine And.intro (O.1 :) ?_
            refine And.intro (O.1 :) ?_
            refine And.intro (Or.inl rfl) (And.intro (fun h => absurd h (by decide)) ?_)
            replace H := H _ rfl
            exact ⟨rfl, H⟩
          · replace H := H.1 _ rfl
            refine ⟨(k18 (ob6_k0 O)), vp_cst (ob6_l0 O) H.1, ?_⟩
            replace H := H.2
            refine And.intro H.1 ?_
            replace H := H.2
            replace H := H _ rfl
            refine And.intro (O.1 :) ?_
            refine And.intro (O.1 :) ?_
            refine And.intro (Or.inl rfl) (And.intro (fun h => absurd h (by decide)) ?_)
            replace H := H _ rfl
            exact ⟨rfl, H⟩
        · replace H := H.2 c
          refine And.intro (Nat.le_of_ble_eq_true rfl) ?_
          refine And.intro (Nat.le_of_ble_eq_true rfl) (And.intro Pa1.1 ?_)
          refine Cl.mono H (fun r M12 h => ?_)
          obtain ⟨rfl, H⟩ := h
          obtain ⟨⟨O, Pa1, Pa2⟩, H⟩ := H
          exact ⟨rfl, H⟩
  · replace H := H.2 c
    refine And.intro (Nat.le_of_ble_eq_true rfl) ?_
    refine And.intro (Nat.le_of_ble_eq_true rfl) (And.intro Pa1.1 ?_)
    refine Cl.mono H (fun r M13 h => ?_)
    obtain ⟨rfl, H⟩ := h
    obtain ⟨⟨O, Pa1, Pa2⟩, H⟩ := H
    exact ⟨rfl, H⟩

theorem c_X6_readMark {G : GT} {d : Nat} {M : Mem} {o : Nat} (O : ObAt 6 M o) {a1 : Nat} (Pa1 : ObAt 9 M a1) {a2 : Nat} (Pa2 : ObAt 8 M a2) (F : frM M) {a3 : Int32} {Q : Option Nat → Mem → Prop} (H : (¬ a3 = 0 → (¬ a3 = (7 : Int32) → CI G d 64 [.ref o, .ref a1, .int (0 : Int32), .int (vi M a2 1)] M (fun v2 M1 => (ObAt 6 M1 o ∧ ObAt 9 M1 a1 ∧ ObAt 8 M1 a2 ∧ frM M1) ∧ (CI G d 64 [.ref o, .ref a1, .int (v2 + (1 : Int32)), .int (vi M a2 1)] M1 (fun v4 M3 => (ObAt 6 M3 o ∧ ObAt 9 M3 a1 ∧ ObAt 8 M3 a2 ∧ frM M3) ∧ ((a3 = (4 : Int32) → At G (d + 1) 61 93 [(0, .ref o), (1, .ref a1), (3, .int a3), (4, .int (vi M a2 1)), (5, .int v2), (6, .int v4)] [] M3 (qR Q)) ∧ (¬ a3 = (4 : Int32) → (a3 = (6 : Int32) → At G (d + 1) 61 93 [(0, .ref o), (1, .ref a1), (3, .int a3), (4, .int (vi M a2 1)), (5, .int v2), (6, .int v4)] [] M3 (qR Q)) ∧ (¬ a3 = (6 : Int32) → ((vi M3 a1 3) = 0 → ∀ M5, M5 = mnew M3 6 8 → CV G d 47 [.ref (mN M3), .int a3, .int v2, .int v4, .int (-1 : Int32), .null] M5 (fun M6 => (ObAt 6 M6 o ∧ ObAt 9 M6 a1 ∧ ObAt 8 M6 a2 ∧ frM M6) ∧ (At G (d + 1) 61 92 [] [.ref (mN M3)] M6 (qR Q)))) ∧ (¬ (vi M3 a1 3) = 0 → At G (d + 1) 61 92 [] [.null] M3 (qR Q))))))))) ∧ (a3 = (7 : Int32) → CR G d 62 [.ref o, .ref a1, .ref a2] M (fun o9 M7 => (ObAt 6 M7 o ∧ ObAt 9 M7 a1 ∧ ObAt 8 M7 a2 ∧ frM M7) ∧ ((∀ r8, o9 = some r8 → Q (some r8) M7) ∧ (o9 = none → Q none M7))))) ∧ (a3 = 0 → CR G d 63 [.ref o, .ref a1, .int (vi M a2 1)] M (fun o12 M10 => (ObAt 6 M10 o ∧ ObAt 9 M10 a1 ∧ ObAt 8 M10 a2 ∧ frM M10) ∧ ((∀ r11, o12 = some r11 → Q (some r11) M10) ∧ (o12 = none → Q none M10))))) : CR G (d + 1) 61 [.ref o, .ref a1, .ref a2, .int a3] M Q := by
  refine Cl.ofM (Nat.le_of_ble_eq_true rfl) rfl ?_
  refine vcc ok61 0 [92, 93, 109, 139, 165] ?_
  refine And.intro (fun c => ?_) (fun c => ?_)
  · replace H := H.1 c
    refine And.intro (fun c => ?_) (fun c => ?_)
    · replace H := H.1 c
      refine And.intro Pa2.1 ?_
      refine And.intro (Nat.le_of_ble_eq_true rfl) ?_
      refine And.intro (Nat.le_of_ble_eq_true rfl) (And.intro O.1 ?_)
      refine Cl.mono H (fun r M1 h => ?_)
      obtain ⟨v2, rfl, H⟩ := h
      obtain ⟨⟨O, Pa1, Pa2, F⟩, H⟩ := H
      refine And.intro (Nat.le_of_ble_eq_true rfl) ?_
      refine And.intro (Nat.le_of_ble_eq_true rfl) (And.intro O.1 ?_)
      refine Cl.mono H (fun r M3 h => ?_)
      obtain ⟨v4, rfl, H⟩ := h
      obtain ⟨⟨O, Pa1, Pa2, F⟩, H⟩ := H
      refine And.intro (fun c => ?_) (fun c => ?_)
      · replace H := H.1 c
        exact At.keep [0, 1, 3, 4, 5, 6] H
      · replace H := H.2 c
        refine And.intro (fun c => ?_) (fun c => ?_)
        · replace H := H.1 c
          exact At.keep [0, 1, 3, 4, 5, 6] H
        · replace H := H.2 c
          refine And.intro Pa1.1 ?_
          refine And.intro (fun c => ?_) (fun c => ?_)
          · replace H := H.1 c
            replace H := H _ rfl
            refine And.intro (Nat.le_of_ble_eq_true rfl) ?_
            refine And.intro (Nat.le_of_ble_eq_true rfl) ?_
            refine Cl.mono H (fun r M6 h => ?_)
            obtain ⟨rfl, H⟩ := h
            obtain ⟨⟨O, Pa1, Pa2, F⟩, H⟩ := H
            exact At.keep [] H
          · replace H := H.2 c
            exact At.keep [] H
    · replace H := H.2 c
      refine And.intro (Nat.le_of_ble_eq_true rfl) ?_
      refine And.intro (Nat.le_of_ble_eq_true rfl) (And.intro O.1 ?_)
      refine Cl.mono H (fun r M7 h => ?_)
      obtain ⟨o9, rfl, H⟩ := h
      obtain ⟨⟨O, Pa1, Pa2, F⟩, H⟩ := H
      rcases o9 with _ | r8
      · replace H := H.2 rfl
        exact ⟨none, rfl, H⟩
      · replace H := H.1 _ rfl
        exact ⟨some _, rfl, H⟩
  · replace H := H.2 c
    refine And.intro Pa2.1 ?_
    refine And.intro (Nat.le_of_ble_eq_true rfl) ?_
    refine And.intro (Nat.le_of_ble_eq_true rfl) (And.intro O.1 ?_)
    refine Cl.mono H (fun r M10 h => ?_)
    obtain ⟨o12, rfl, H⟩ := h
    obtain ⟨⟨O, Pa1, Pa2, F⟩, H⟩ := H
    rcases o12 with _ | r11
    · replace H := H.2 rfl
      exact ⟨none, rfl, H⟩
    · replace H := H.1 _ rfl
      exact ⟨some _, rfl, H⟩

theorem c_X6_readMark_92n {G : GT} {d : Nat} {M : Mem} {o : Nat} (O : ObAt 6 M o) {a1 : Nat} (Pa1 : ObAt 9 M a1) {a2 : Nat} (Pa2 : ObAt 8 M a2) (F : frM M)  {Q : Option Nat → Mem → Prop} (H : Q none M) : At G (d + 1) 61 92 [] [.null] M (qR Q) := by
  refine vcc ok61 52 [93, 109, 139, 165] ?_
  exact ⟨none, rfl, H⟩

theorem c_X6_readMark_92 {G : GT} {d : Nat} {M : Mem} {o : Nat} (O : ObAt 6 M o) {a1 : Nat} (Pa1 : ObAt 9 M a1) {a2 : Nat} (Pa2 : ObAt 8 M a2) (F : frM M) {t0 : Nat} {Q : Option Nat → Mem → Prop} (H : Q (some t0) M) : At G (d + 1) 61 92 [] [.ref t0] M (qR Q) := by
  refine vcc ok61 52 [93, 109, 139, 165] ?_
  exact ⟨some _, rfl, H⟩

theorem c_X6_readMark_93 {G : GT} {d : Nat} {M : Mem} {o : Nat} (O : ObAt 6 M o) {a1 : Nat} (Pa1 : ObAt 9 M a1) {a2 : Nat} (Pa2 : ObAt 8 M a2) (F : frM M) {l3 : Int32} {l4 : Int32} {l5 : Int32} {l6 : Int32} {Q : Option Nat → Mem → Prop} (H : (¬ l3 = (6 : Int32) → At G (d + 1) 61 109 [(0, .ref o), (1, .ref a1), (4, .int l4), (5, .int l5), (6, .int l6)] [.int (0 : Int32), .ref a1, .ref o] M (qR Q)) ∧ (l3 = (6 : Int32) → At G (d + 1) 61 109 [(0, .ref o), (1, .ref a1), (4, .int l4), (5, .int l5), (6, .int l6)] [.int (l6 + (1 : Int32)), .ref a1, .ref o] M (qR Q))) : At G (d + 1) 61 93 [(0, .ref o), (1, .ref a1), (3, .int l3), (4, .int l4), (5, .int l5), (6, .int l6)] [] M (qR Q) := by
  refine vcc ok61 53 [92, 109, 139, 165] ?_
  refine And.intro (fun c => ?_) (fun c => ?_)
  · replace H := H.1 c
    exact At.keep [0, 1, 4, 5, 6] H
  · replace H := H.2 c
    exact At.keep [0, 1, 4, 5, 6] H

theorem c_X6_readMark_109 {G : GT} {d : Nat} {M : Mem} {o : Nat} (O : ObAt 6 M o) {a1 : Nat} (Pa1 : ObAt 9 M a1) {a2 : Nat} (Pa2 : ObAt 8 M a2) (F : frM M) {l4 : Int32} {l5 : Int32} {l6 : Int32} {t0 : Int32} {t1 : Nat} {t2 : Nat} {Q : Option Nat → Mem → Prop} (H : mK M t2 = 7 ∧ CI G d 64 [.ref t2, .ref t1, .int t0, .int l4] M (fun v14 M13 => (ObAt 6 M13 o ∧ ObAt 9 M13 a1 ∧ ObAt 8 M13 a2 ∧ frM M13) ∧ ((v14 < l5 → At G (d + 1) 61 139 [(1, .ref a1), (5, .int l5), (6, .int l6), (7, .int v14)] [] M13 (qR Q)) ∧ (¬ v14 < l5 → (l6 < v14 → At G (d + 1) 61 139 [(1, .ref a1), (5, .int l5), (6, .int l6), (7, .int v14)] [] M13 (qR Q)) ∧ (¬ l6 < v14 → CV G d 91 [.ref a1, .int (vi M13 o 3), .int (1 : Int32)] M13 (fun M15 => (ObAt 6 M15 o ∧ ObAt 9 M15 a1 ∧ ObAt 8 M15 a2 ∧ frM M15) ∧ (At G (d + 1) 61 139 [(1, .ref a1), (5, .int l5), (6, .int l6), (7, .int v14)] [] M15 (qR Q)))))))) : At G (d + 1) 61 109 [(0, .ref o), (1, .ref a1), (4, .int l4), (5, .int l5), (6, .int l6)] [.int t0, .ref t1, .ref t2] M (qR Q) := by
  refine vcc ok61 63 [92, 93, 139, 165] ?_
  refine And.intro (Nat.le_of_ble_eq_true rfl) ?_
  refine And.intro (Nat.le_of_ble_eq_true rfl) (And.intro H.1 ?_)
  replace H := H.2
  refine Cl.mono H (fun r M13 h => ?_)
  obtain ⟨v14, rfl, H⟩ := h
  obtain ⟨⟨O, Pa1, Pa2, F⟩, H⟩ := H
  refine And.intro (fun c => ?_) (fun c => ?_)
  · replace H := H.1 c
    exact At.keep [1, 5, 6, 7] H
  · replace H := H.2 c
    refine And.intro (fun c => ?_) (fun c => ?_)
    · replace H := H.1 c
      exact At.keep [1, 5, 6, 7] H
    · replace H := H.2 c
      refine And.intro O.1 ?_
      refine And.intro (Nat.le_of_ble_eq_true rfl) ?_
      refine And.intro (Nat.le_of_ble_eq_true rfl) (And.intro Pa1.1 ?_)
      refine Cl.mono H (fun r M15 h => ?_)
      obtain ⟨rfl, H⟩ := h
      obtain ⟨⟨O, Pa1, Pa2, F⟩, H⟩ := H
      exact At.keep [1, 5, 6, 7] H

theorem c_X6_readMark_139 {G : GT} {d : Nat} {M : Mem} {o : Nat} (O : ObAt 6 M o) {a1 : Nat} (Pa1 : ObAt 9 M a1) {a2 : Nat} (Pa2 : ObAt 8 M a2) (F : frM M) {l5 : Int32} {l6 : Int32} {l7 : Int32} {Q : Option Nat → Mem → Prop} (H : ((vi M a1 3) = 0 → ∀ M16, M16 = mnew M 6 8 → CV G d 47 [.ref (mN M), .int (4 : Int32), .int l5, .int l6, .int l7, .null] M16 (fun M17 => (ObAt 6 M17 o ∧ ObAt 9 M17 a1 ∧ ObAt 8 M17 a2 ∧ frM M17) ∧ (At G (d + 1) 61 165 [] [.ref (mN M)] M17 (qR Q)))) ∧ (¬ (vi M a1 3) = 0 → At G (d + 1) 61 165 [] [.null] M (qR Q))) : At G (d + 1) 61 139 [(1, .ref a1), (5, .int l5), (6, .int l6), (7, .int l7)] [] M (qR Q) := by
  refine vcc ok61 77 [92, 93, 109, 165] ?_
  refine And.intro Pa1.1 ?_
  refine And.intro (fun c => ?_) (fun c => ?_)
  · replace H := H.1 c
    replace H := H _ rfl
    refine And.intro (Nat.le_of_ble_eq_true rfl) ?_
    refine And.intro (Nat.le_of_ble_eq_true rfl) ?_
    refine Cl.mono H (fun r M17 h => ?_)
    obtain ⟨rfl, H⟩ := h
    obtain ⟨⟨O, Pa1, Pa2, F⟩, H⟩ := H
    exact At.keep [] H
  · replace H := H.2 c
    exact At.keep [] H

theorem c_X6_readMark_165n {G : GT} {d : Nat} {M : Mem} {o : Nat} (O : ObAt 6 M o) {a1 : Nat} (Pa1 : ObAt 9 M a1) {a2 : Nat} (Pa2 : ObAt 8 M a2) (F : frM M)  {Q : Option Nat → Mem → Prop} (H : Q none M) : At G (d + 1) 61 165 [] [.null] M (qR Q) := by
  refine vcc ok61 90 [92, 93, 109, 139] ?_
  exact ⟨none, rfl, H⟩

theorem c_X6_readMark_165 {G : GT} {d : Nat} {M : Mem} {o : Nat} (O : ObAt 6 M o) {a1 : Nat} (Pa1 : ObAt 9 M a1) {a2 : Nat} (Pa2 : ObAt 8 M a2) (F : frM M) {t0 : Nat} {Q : Option Nat → Mem → Prop} (H : Q (some t0) M) : At G (d + 1) 61 165 [] [.ref t0] M (qR Q) := by
  refine vcc ok61 90 [92, 93, 109, 139] ?_
  exact ⟨some _, rfl, H⟩

theorem c_X6_readClose {G : GT} {d : Nat} {M : Mem} {o : Nat} (O : ObAt 6 M o) {a1 : Nat} (Pa1 : ObAt 9 M a1) {a2 : Nat} (Pa2 : ObAt 8 M a2) (F : frM M)  {Q : Option Nat → Mem → Prop} (H : CI G d 64 [.ref o, .ref a1, .int (0 : Int32), .int ((vi M a2 1) - (1 : Int32))] M (fun v2 M1 => (ObAt 6 M1 o ∧ ObAt 9 M1 a1 ∧ ObAt 8 M1 a2 ∧ frM M1) ∧ ((¬ (vi M1 a1 3) = 0 → Q none M1) ∧ ((vi M1 a1 3) = 0 → (v2 < 0 → Q none M1) ∧ (¬ v2 < 0 → (v2 < (vi M1 a2 1) → vp_in v2 200 ∧ (((vi M1 (a2 + 1) (v2).toNatClampNeg) = (32 : Int32) → ∀ M3, M3 = mnew M1 6 8 → CV G d 47 [.ref (mN M1), .int (1 : Int32), .int v2, .int (v2 + (1 : Int32)), .int (-1 : Int32), .null] M3 (fun M4 => (ObAt 6 M4 o ∧ ObAt 9 M4 a1 ∧ ObAt 8 M4 a2 ∧ frM M4) ∧ (Q (some (mN M1)) M4))) ∧ (¬ (vi M1 (a2 + 1) (v2).toNatClampNeg) = (32 : Int32) → CV G d 91 [.ref a1, .int (vi M1 o 3), .int (1 : Int32)] M1 (fun M5 => (ObAt 6 M5 o ∧ ObAt 9 M5 a1 ∧ ObAt 8 M5 a2 ∧ frM M5) ∧ (Q none M5))))) ∧ (¬ v2 < (vi M1 a2 1) → Q none M1)))))) : CR G (d + 1) 62 [.ref o, .ref a1, .ref a2] M Q := by
  refine Cl.ofM (Nat.le_of_ble_eq_true rfl) rfl ?_
  refine vcc ok62 0 [] ?_
  refine And.intro Pa2.1 ?_
  refine And.intro (Nat.le_of_ble_eq_true rfl) ?_
  refine And.intro (Nat.le_of_ble_eq_true rfl) (And.intro O.1 ?_)
  refine Cl.mono H (fun r M1 h => ?_)
  obtain ⟨v2, rfl, H⟩ := h
  obtain ⟨⟨O, Pa1, Pa2, F⟩, H⟩ := H
  refine And.intro Pa1.1 ?_
  refine And.intro (fun c => ?_) (fun c => ?_)
  · replace H := H.1 c
    exact ⟨none, rfl, H⟩
  · replace H := H.2 c
    refine And.intro (fun c => ?_) (fun c => ?_)
    · replace H := H.1 c
      exact ⟨none, rfl, H⟩
    · replace H := H.2 c
      refine And.intro Pa2.1 ?_
      refine And.intro (fun c => ?_) (fun c => ?_)
      · replace H := H.1 c
        refine And.intro Pa2.1 ?_
        refine Or.inl ⟨_, (ob8_r0 Pa2), ?_⟩
        refine Or.inl ⟨(ob8_k0 Pa2), vp_cst (ob8_l0 Pa2) H.1, ?_⟩
        replace H := H.2
        refine And.intro (fun c => ?_) (fun c => ?_)
        · replace H := H.1 c
          replace H := H _ rfl
          refine And.intro (Nat.le_of_ble_eq_true rfl) ?_
          refine And.intro (Nat.le_of_ble_eq_true rfl) ?_
          refine Cl.mono H (fun r M4 h => ?_)
          obtain ⟨rfl, H⟩ := h
          obtain ⟨⟨O, Pa1, Pa2, F⟩, H⟩ := H
          exact ⟨some _, rfl, H⟩
        · replace H := H.2 c
          refine And.intro O.1 ?_
          refine And.intro (Nat.le_of_ble_eq_true rfl) ?_
          refine And.intro (Nat.le_of_ble_eq_true rfl) (And.intro Pa1.1 ?_)
          refine Cl.mono H (fun r M5 h => ?_)
          obtain ⟨rfl, H⟩ := h
          obtain ⟨⟨O, Pa1, Pa2, F⟩, H⟩ := H
          exact ⟨none, rfl, H⟩
      · replace H := H.2 c
        exact ⟨none, rfl, H⟩

theorem c_X6_readIns {G : GT} {d : Nat} {M : Mem} {o : Nat} (O : ObAt 6 M o) {a1 : Nat} (Pa1 : ObAt 9 M a1) (F : frM M) {a2 : Int32} {Q : Option Nat → Mem → Prop} (H : CI G d 64 [.ref o, .ref a1, .int (0 : Int32), .int a2] M (fun v2 M1 => (ObAt 6 M1 o ∧ ObAt 9 M1 a1 ∧ frM M1) ∧ (((vi M1 a1 3) = 0 → CI G d 92 [.ref a1] M1 (fun v4 M3 => (ObAt 6 M3 o ∧ ObAt 9 M3 a1 ∧ frM M3) ∧ ((v4 = (39 : Int32) → ∀ M5, M5 = seti M3 a1 2 ((vi M3 a1 2) + (1 : Int32)) → CI G d 65 [.ref o, .ref a1] M5 (fun v7 M6 => (ObAt 6 M6 o ∧ ObAt 9 M6 a1 ∧ frM M6) ∧ ((¬ (vi M6 a1 3) = 0 → Q none M6) ∧ ((vi M6 a1 3) = 0 → ((1 : Int32) ≤ v7 → ∀ M8, M8 = mnew M6 6 8 → CR G d 273 [.ref (o + 2), .int v7] M8 (fun o13 M9 => (ObAt 6 M9 o ∧ ObAt 9 M9 a1 ∧ frM M9) ∧ ((∀ r10, o13 = some r10 → CV G d 47 [.ref (mN M6), .int (0 : Int32), .int v2, .int (-1 : Int32), .int (-1 : Int32), .ref r10] M9 (fun M11 => (ObAt 6 M11 o ∧ ObAt 9 M11 a1 ∧ frM M11) ∧ (Q (some (mN M6)) M11))) ∧ (o13 = none → CV G d 47 [.ref (mN M6), .int (0 : Int32), .int v2, .int (-1 : Int32), .int (-1 : Int32), .null] M9 (fun M12 => (ObAt 6 M12 o ∧ ObAt 9 M12 a1 ∧ frM M12) ∧ (Q (some (mN M6)) M12)))))) ∧ (¬ (1 : Int32) ≤ v7 → Q none M6))))) ∧ (¬ v4 = (39 : Int32) → CV G d 91 [.ref a1, .int (vi M3 a1 2), .int (0 : Int32)] M3 (fun M14 => (ObAt 6 M14 o ∧ ObAt 9 M14 a1 ∧ frM M14) ∧ (Q none M14)))))) ∧ (¬ (vi M1 a1 3) = 0 → Q none M1)))) : CR G (d + 1) 63 [.ref o, .ref a1, .int a2] M Q := by
  refine Cl.ofM (Nat.le_of_ble_eq_true rfl) rfl ?_
  refine vcc ok63 0 [] ?_
  refine And.intro (Nat.le_of_ble_eq_true rfl) ?_
  refine And.intro (Nat.le_of_ble_eq_true rfl) (And.intro O.1 ?_)
  refine Cl.mono H (fun r M1 h => ?_)
  obtain ⟨v2, rfl, H⟩ := h
  obtain ⟨⟨O, Pa1, F⟩, H⟩ := H
  refine And.intro Pa1.1 ?_
  refine And.intro (fun c => ?_) (fun c => ?_)
  · replace H := H.1 c
    refine And.intro (Nat.le_of_ble_eq_true rfl) ?_
    refine And.intro (Nat.le_of_ble_eq_true rfl) (And.intro Pa1.1 ?_)
    refine Cl.mono H (fun r M3 h => ?_)
    obtain ⟨v4, rfl, H⟩ := h
    obtain ⟨⟨O, Pa1, F⟩, H⟩ := H
    refine And.intro (fun c => ?_) (fun c => ?_)
    · replace H := H.1 c
      refine And.intro Pa1.1 ?_
      refine And.intro Pa1.1 ?_
      refine And.intro (Or.inl rfl) (And.intro (fun h => absurd h (by decide)) ?_)
      replace H := H _ rfl
      refine And.intro (Nat.le_of_ble_eq_true rfl) ?_
      refine And.intro (Nat.le_of_ble_eq_true rfl) (And.intro O.1 ?_)
      refine Cl.mono H (fun r M6 h => ?_)
      obtain ⟨v7, rfl, H⟩ := h
      obtain ⟨⟨O, Pa1, F⟩, H⟩ := H
      refine And.intro Pa1.1 ?_
      refine And.intro (fun c => ?_) (fun c => ?_)
      · replace H := H.1 c
        exact ⟨none, rfl, H⟩
      · replace H := H.2 c
        refine And.intro (fun c => ?_) (fun c => ?_)
        · replace H := H.1 c
          replace H := H _ rfl
          refine And.intro ((ob_mnew F O).1 :) ?_
          refine Or.inl ⟨_, (ob6_r2 (ob_mnew F O)), ?_⟩
          refine And.intro (Nat.le_of_ble_eq_true rfl) ?_
          refine And.intro (Nat.le_of_ble_eq_true rfl) ?_
          refine Cl.mono H (fun r M9 h => ?_)
          obtain ⟨o13, rfl, H⟩ := h
          obtain ⟨⟨O, Pa1, F⟩, H⟩ := H
          rcases o13 with _ | r10
          · replace H := H.2 rfl
            refine And.intro (Nat.le_of_ble_eq_true rfl) ?_
            refine And.intro (Nat.le_of_ble_eq_true rfl) ?_
            refine Cl.mono H (fun r M12 h => ?_)
            obtain ⟨rfl, H⟩ := h
            obtain ⟨⟨O, Pa1, F⟩, H⟩ := H
            exact ⟨some _, rfl, H⟩
          · replace H := H.1 _ rfl
            refine And.intro (Nat.le_of_ble_eq_true rfl) ?_
            refine And.intro (Nat.le_of_ble_eq_true rfl) ?_
            refine Cl.mono H (fun r M11 h => ?_)
            obtain ⟨rfl, H⟩ := h
            obtain ⟨⟨O, Pa1, F⟩, H⟩ := H
            exact ⟨some _, rfl, H⟩
        · replace H := H.2 c
          exact ⟨none, rfl, H⟩
    · replace H := H.2 c
      refine And.intro Pa1.1 ?_
      refine And.intro (Nat.le_of_ble_eq_true rfl) ?_
      refine And.intro (Nat.le_of_ble_eq_true rfl) (And.intro Pa1.1 ?_)
      refine Cl.mono H (fun r M14 h => ?_)
      obtain ⟨rfl, H⟩ := h
      obtain ⟨⟨O, Pa1, F⟩, H⟩ := H
      exact ⟨none, rfl, H⟩
  · replace H := H.2 c
    exact ⟨none, rfl, H⟩

theorem c_X6_readNumber {G : GT} {d : Nat} {M : Mem} {o : Nat} (O : ObAt 6 M o) {a1 : Nat} (Pa1 : ObAt 9 M a1) {a2 : Int32} {a3 : Int32} {Q : Int32 → Mem → Prop} (H : ((vi M a1 3) = 0 → ∀ M1, M1 = seti M o 3 (vi M a1 2) → CI G d 96 [.ref a1] M1 (fun v3 M2 => (ObAt 6 M2 o ∧ ObAt 9 M2 a1) ∧ ((¬ v3 = 0 → (v3 ≤ (3 : Int32) → CI G d 97 [.ref a1, .int v3] M2 (fun v5 M4 => (ObAt 6 M4 o ∧ ObAt 9 M4 a1) ∧ ((v5 < a2 → CV G d 91 [.ref a1, .int (vi M4 o 3), .int (1 : Int32)] M4 (fun M6 => (ObAt 6 M6 o ∧ ObAt 9 M6 a1) ∧ (Q (-1 : Int32) M6))) ∧ (¬ v5 < a2 → (v5 ≤ a3 → CV G d 93 [.ref a1, .int v3] M4 (fun M7 => (ObAt 6 M7 o ∧ ObAt 9 M7 a1) ∧ (Q v5 M7))) ∧ (¬ v5 ≤ a3 → CV G d 91 [.ref a1, .int (vi M4 o 3), .int (1 : Int32)] M4 (fun M8 => (ObAt 6 M8 o ∧ ObAt 9 M8 a1) ∧ (Q (-1 : Int32) M8))))))) ∧ (¬ v3 ≤ (3 : Int32) → CV G d 91 [.ref a1, .int (vi M2 o 3), .int (1 : Int32)] M2 (fun M9 => (ObAt 6 M9 o ∧ ObAt 9 M9 a1) ∧ (Q (-1 : Int32) M9)))) ∧ (v3 = 0 → CV G d 91 [.ref a1, .int (vi M2 o 3), .int (0 : Int32)] M2 (fun M10 => (ObAt 6 M10 o ∧ ObAt 9 M10 a1) ∧ (Q (-1 : Int32) M10)))))) ∧ (¬ (vi M a1 3) = 0 → Q (-1 : Int32) M)) : CI G (d + 1) 64 [.ref o, .ref a1, .int a2, .int a3] M Q := by
  refine Cl.ofM (Nat.le_of_ble_eq_true rfl) rfl ?_
  refine vcc ok64 0 [] ?_
  refine And.intro Pa1.1 ?_
  refine And.intro (fun c => ?_) (fun c => ?_)
  · replace H := H.1 c
    refine And.intro Pa1.1 ?_
    refine And.intro O.1 ?_
    refine And.intro (Or.inl rfl) (And.intro (fun h => absurd h (by decide)) ?_)
    replace H := H _ rfl
    refine And.intro (Nat.le_of_ble_eq_true rfl) ?_
    refine And.intro (Nat.le_of_ble_eq_true rfl) (And.intro Pa1.1 ?_)
    refine Cl.mono H (fun r M2 h => ?_)
    obtain ⟨v3, rfl, H⟩ := h
    obtain ⟨⟨O, Pa1⟩, H⟩ := H
    refine And.intro (fun c => ?_) (fun c => ?_)
    · replace H := H.1 c
      refine And.intro (fun c => ?_) (fun c => ?_)
      · replace H := H.1 c
        refine And.intro (Nat.le_of_ble_eq_true rfl) ?_
        refine And.intro (Nat.le_of_ble_eq_true rfl) (And.intro Pa1.1 ?_)
        refine Cl.mono H (fun r M4 h => ?_)
        obtain ⟨v5, rfl, H⟩ := h
        obtain ⟨⟨O, Pa1⟩, H⟩ := H
        refine And.intro (fun c => ?_) (fun c => ?_)
        · replace H := H.1 c
          refine And.intro O.1 ?_
          refine And.intro (Nat.le_of_ble_eq_true rfl) ?_
          refine And.intro (Nat.le_of_ble_eq_true rfl) (And.intro Pa1.1 ?_)
          refine Cl.mono H (fun r M6 h => ?_)
          obtain ⟨rfl, H⟩ := h
          obtain ⟨⟨O, Pa1⟩, H⟩ := H
          exact ⟨fun h => absurd h (by decide), _, rfl, H⟩
        · replace H := H.2 c
          refine And.intro (fun c => ?_) (fun c => ?_)
          · replace H := H.1 c
            refine And.intro (Nat.le_of_ble_eq_true rfl) ?_
            refine And.intro (Nat.le_of_ble_eq_true rfl) (And.intro Pa1.1 ?_)
            refine Cl.mono H (fun r M7 h => ?_)
            obtain ⟨rfl, H⟩ := h
            obtain ⟨⟨O, Pa1⟩, H⟩ := H
            exact ⟨fun h => absurd h (by decide), _, rfl, H⟩
          · replace H := H.2 c
            refine And.intro O.1 ?_
            refine And.intro (Nat.le_of_ble_eq_true rfl) ?_
            refine And.intro (Nat.le_of_ble_eq_true rfl) (And.intro Pa1.1 ?_)
            refine Cl.mono H (fun r M8 h => ?_)
            obtain ⟨rfl, H⟩ := h
            obtain ⟨⟨O, Pa1⟩, H⟩ := H
            exact ⟨fun h => absurd h (by decide), _, rfl, H⟩
      · replace H := H.2 c
        refine And.intro O.1 ?_
        refine And.intro (Nat.le_of_ble_eq_true rfl) ?_
        refine And.intro (Nat.le_of_ble_eq_true rfl) (And.intro Pa1.1 ?_)
        refine Cl.mono H (fun r M9 h => ?_)
        obtain ⟨rfl, H⟩ := h
        obtain ⟨⟨O, Pa1⟩, H⟩ := H
        exact ⟨fun h => absurd h (by decide), _, rfl, H⟩
    · replace H := H.2 c
      refine And.intro O.1 ?_
      refine And.intro (Nat.le_of_ble_eq_true rfl) ?_
      refine And.intro (Nat.le_of_ble_eq_true rfl) (And.intro Pa1.1 ?_)
      refine Cl.mono H (fun r M10 h => ?_)
      obtain ⟨rfl, H⟩ := h
      obtain ⟨⟨O, Pa1⟩, H⟩ := H
      exact ⟨fun h => absurd h (by decide), _, rfl, H⟩
  · replace H := H.2 c
    exact ⟨fun h => absurd h (by decide), _, rfl, H⟩

theorem c_X6_readText {G : GT} {d : Nat} {M : Mem} {o : Nat} (O : ObAt 6 M o) {a1 : Nat} (Pa1 : ObAt 9 M a1)  {Q : Int32 → Mem → Prop} (H : At G (d + 1) 65 2 [(0, .ref o), (1, .ref a1), (2, .int (0 : Int32))] [] M (qI Q)) : CI G (d + 1) 65 [.ref o, .ref a1] M Q := by
  refine Cl.ofM (Nat.le_of_ble_eq_true rfl) rfl ?_
  refine vcc ok65 0 [2] ?_
  exact H

theorem c_X6_readText_2 {G : GT} {d : Nat} {M : Mem} {o : Nat} (O : ObAt 6 M o) {a1 : Nat} (Pa1 : ObAt 9 M a1) {l2 : Int32} {Q : Int32 → Mem → Prop} (H : ((20 : Int32) < l2 → Q (0 : Int32) M) ∧ (¬ (20 : Int32) < l2 → CI G d 92 [.ref a1] M (fun v2 M1 => (ObAt 6 M1 o ∧ ObAt 9 M1 a1) ∧ ((¬ v2 = (39 : Int32) → (¬ v2 = (-1 : Int32) → (v2 = (39 : Int32) → CV G d 91 [.ref a1, .int (vi M1 a1 2), .int (2 : Int32)] M1 (fun M3 => (ObAt 6 M3 o ∧ ObAt 9 M3 a1) ∧ (Q (0 : Int32) M3))) ∧ (¬ v2 = (39 : Int32) → CI G d 148 [.int v2] M1 (fun v5 M4 => (ObAt 6 M4 o ∧ ObAt 9 M4 a1) ∧ ((v5 = 0 → CV G d 91 [.ref a1, .int (vi M4 a1 2), .int (2 : Int32)] M4 (fun M6 => (ObAt 6 M6 o ∧ ObAt 9 M6 a1) ∧ (Q (0 : Int32) M6))) ∧ (¬ v5 = 0 → (l2 < (20 : Int32) → vp_in l2 20 ∧ (∀ M7, M7 = seti M4 (o + 2) (l2).toNatClampNeg v2 → ∀ M8, M8 = seti M7 a1 2 ((vi M7 a1 2) + (1 : Int32)) → At G (d + 1) 65 2 [(0, .ref o), (1, .ref a1), (2, .int (l2 + (1 : Int32)))] [] M8 (qI Q))) ∧ (¬ l2 < (20 : Int32) → CV G d 91 [.ref a1, .int (vi M4 a1 2), .int (2 : Int32)] M4 (fun M9 => (ObAt 6 M9 o ∧ ObAt 9 M9 a1) ∧ (Q (0 : Int32) M9)))))))) ∧ (v2 = (-1 : Int32) → CV G d 91 [.ref a1, .int (vi M1 a1 2), .int (0 : Int32)] M1 (fun M10 => (ObAt 6 M10 o ∧ ObAt 9 M10 a1) ∧ (Q (0 : Int32) M10)))) ∧ (v2 = (39 : Int32) → (l2 ≤ 0 → (¬ v2 = (-1 : Int32) → (v2 = (39 : Int32) → CV G d 91 [.ref a1, .int (vi M1 a1 2), .int (2 : Int32)] M1 (fun M11 => (ObAt 6 M11 o ∧ ObAt 9 M11 a1) ∧ (Q (0 : Int32) M11))) ∧ (¬ v2 = (39 : Int32) → CI G d 148 [.int v2] M1 (fun v13 M12 => (ObAt 6 M12 o ∧ ObAt 9 M12 a1) ∧ ((v13 = 0 → CV G d 91 [.ref a1, .int (vi M12 a1 2), .int (2 : Int32)] M12 (fun M14 => (ObAt 6 M14 o ∧ ObAt 9 M14 a1) ∧ (Q (0 : Int32) M14))) ∧ (¬ v13 = 0 → (l2 < (20 : Int32) → vp_in l2 20 ∧ (∀ M15, M15 = seti M12 (o + 2) (l2).toNatClampNeg v2 → ∀ M16, M16 = seti M15 a1 2 ((vi M15 a1 2) + (1 : Int32)) → At G (d + 1) 65 2 [(0, .ref o), (1, .ref a1), (2, .int (l2 + (1 : Int32)))] [] M16 (qI Q))) ∧ (¬ l2 < (20 : Int32) → CV G d 91 [.ref a1, .int (vi M12 a1 2), .int (2 : Int32)] M12 (fun M17 => (ObAt 6 M17 o ∧ ObAt 9 M17 a1) ∧ (Q (0 : Int32) M17)))))))) ∧ (v2 = (-1 : Int32) → CV G d 91 [.ref a1, .int (vi M1 a1 2), .int (0 : Int32)] M1 (fun M18 => (ObAt 6 M18 o ∧ ObAt 9 M18 a1) ∧ (Q (0 : Int32) M18)))) ∧ (¬ l2 ≤ 0 → CV G d 93 [.ref a1, .int (1 : Int32)] M1 (fun M19 => (ObAt 6 M19 o ∧ ObAt 9 M19 a1) ∧ (Q l2 M19)))))))) : At G (d + 1) 65 2 [(0, .ref o), (1, .ref a1), (2, .int l2)] [] M (qI Q) := by
  refine vcc ok65 2 [] ?_
  refine And.intro (fun c => ?_) (fun c => ?_)
  · replace H := H.1 c
    exact ⟨fun h => absurd h (by decide), _, rfl, H⟩
  · replace H := H.2 c
    refine And.intro (Nat.le_of_ble_eq_true rfl) ?_
    refine And.intro (Nat.le_of_ble_eq_true rfl) (And.intro Pa1.1 ?_)
    refine Cl.mono H (fun r M1 h => ?_)
    obtain ⟨v2, rfl, H⟩ := h
    obtain ⟨⟨O, Pa1⟩, H⟩ := H
    refine And.intro (fun c => ?_) (fun c => ?_)
    · replace H := H.1 c
      refine And.intro (fun c => ?_) (fun c => ?_)
      · replace H := H.1 c
        refine And.intro (fun c => ?_) (fun c => ?_)
        · replace H := H.1 c
          refine And.intro Pa1.1 ?_
          refine And.intro (Nat.le_of_ble_eq_true rfl) ?_
          refine And.intro (Nat.le_of_ble_eq_true rfl) (And.intro Pa1.1 ?_)
          refine Cl.mono H (fun r M3 h => ?_)
          obtain ⟨rfl, H⟩ := h
          obtain ⟨⟨O, Pa1⟩, H⟩ := H
          exact ⟨fun h => absurd h (by decide), _, rfl, H⟩
        · replace H := H.2 c
          refine And.intro (Nat.le_of_ble_eq_true rfl) ?_
          refine And.intro (Nat.le_of_ble_eq_true rfl) ?_
          refine Cl.mono H (fun r M4 h => ?_)
          obtain ⟨v5, rfl, H⟩ := h
          obtain ⟨⟨O, Pa1⟩, H⟩ := H
          refine And.intro (fun c => ?_) (fun c => ?_)
          · replace H := H.1 c
            refine And.intro Pa1.1 ?_
            refine And.intro (Nat.le_of_ble_eq_true rfl) ?_
            refine And.intro (Nat.le_of_ble_eq_true rfl) (And.intro Pa1.1 ?_)
            refine Cl.mono H (fun r M6 h => ?_)
            obtain ⟨rfl, H⟩ := h
            obtain ⟨⟨O, Pa1⟩, H⟩ := H
            exact ⟨fun h => absurd h (by decide), _, rfl, H⟩
          · replace H := H.2 c
            refine And.intro (fun c => ?_) (fun c => ?_)
            · replace H := H.1 c
              refine And.intro O.1 ?_
              refine Or.inl ⟨_, (ob6_r2 O), ?_⟩
              refine ⟨(ob6_k2 O), vp_cst (ob6_l2 O) H.1, ?_⟩
              replace H := H.2
              replace H := H _ rfl
              refine And.intro Pa1.1 ?_
              refine And.intro Pa1.1 ?_
              refine And.intro (Or.inl rfl) (And.intro (fun h => absurd h (by decide)) ?_)
              replace H := H _ rfl
              exact At.keep [0, 1, 2] H
            · replace H := H.2 c
              refine And.intro Pa1.1 ?_
              refine And.intro (Nat.le_of_ble_eq_true rfl) ?_
              refine And.intro (Nat.le_of_ble_eq_true rfl) (And.intro Pa1.1 ?_)
              refine Cl.mono H (fun r M9 h => ?_)
              obtain ⟨rfl, H⟩ := h
              obtain ⟨⟨O, Pa1⟩, H⟩ := H
              exact ⟨fun h => absurd h (by decide), _, rfl, H⟩
      · replace H := H.2 c
        refine And.intro Pa1.1 ?_
        refine And.intro (Nat.le_of_ble_eq_true rfl) ?_
        refine And.intro (Nat.le_of_ble_eq_true rfl) (And.intro Pa1.1 ?_)
        refine Cl.mono H (fun r M10 h => ?_)
        obtain ⟨rfl, H⟩ := h
        obtain ⟨⟨O, Pa1⟩, H⟩ := H
        exact ⟨fun h => absurd h (by decide), _, rfl, H⟩
    · replace H := H.2 c
      refine And.intro (fun c => ?_) (fun c => ?_)
      · replace H := H.1 c
        refine And.intro (fun c => ?_) (fun c => ?_)
        · replace H := H.1 c
          refine And.intro (fun c => ?_) (fun c => ?_)
          · replace H := H.1 c
            refine And.intro Pa1.1 ?_
            refine And.intro (Nat.le_of_ble_eq_true rfl) ?_
            refine And.intro (Nat.le_of_ble_eq_true rfl) (And.intro Pa1.1 ?_)
            refine Cl.mono H (fun r M11 h => ?_)
            obtain ⟨rfl, H⟩ := h
            obtain ⟨⟨O, Pa1⟩, H⟩ := H
            exact ⟨fun h => absurd h (by decide), _, rfl, H⟩
          · replace H := H.2 c
            refine And.intro (Nat.le_of_ble_eq_true rfl) ?_
            refine And.intro (Nat.le_of_ble_eq_true rfl) ?_
            refine Cl.mono H (fun r M12 h => ?_)
            obtain ⟨v13, rfl, H⟩ := h
            obtain ⟨⟨O, Pa1⟩, H⟩ := H
            refine And.intro (fun c => ?_) (fun c => ?_)
            · replace H := H.1 c
              refine And.intro Pa1.1 ?_
              refine And.intro (Nat.le_of_ble_eq_true rfl) ?_
              refine And.intro (Nat.le_of_ble_eq_true rfl) (And.intro Pa1.1 ?_)
              refine Cl.mono H (fun r M14 h => ?_)
              obtain ⟨rfl, H⟩ := h
              obtain ⟨⟨O, Pa1⟩, H⟩ := H
              exact ⟨fun h => absurd h (by decide), _, rfl, H⟩
            · replace H := H.2 c
              refine And.intro (fun c => ?_) (fun c => ?_)
              · replace H := H.1 c
                refine And.intro O.1 ?_
                refine Or.inl ⟨_, (ob6_r2 O), ?_⟩
                refine ⟨(ob6_k2 O), vp_cst (ob6_l2 O) H.1, ?_⟩
                replace H := H.2
                replace H := H _ rfl
                refine And.intro Pa1.1 ?_
                refine And.intro Pa1.1 ?_
                refine And.intro (Or.inl rfl) (And.intro (fun h => absurd h (by decide)) ?_)
                replace H := H _ rfl
                exact At.keep [0, 1, 2] H
              · replace H := H.2 c
                refine And.intro Pa1.1 ?_
                refine And.intro (Nat.le_of_ble_eq_true rfl) ?_
                refine And.intro (Nat.le_of_ble_eq_true rfl) (And.intro Pa1.1 ?_)
                refine Cl.mono H (fun r M17 h => ?_)
                obtain ⟨rfl, H⟩ := h
                obtain ⟨⟨O, Pa1⟩, H⟩ := H
                exact ⟨fun h => absurd h (by decide), _, rfl, H⟩
        · replace H := H.2 c
          refine And.intro Pa1.1 ?_
          refine And.intro (Nat.le_of_ble_eq_true rfl) ?_
          refine And.intro (Nat.le_of_ble_eq_true rfl) (And.intro Pa1.1 ?_)
          refine Cl.mono H (fun r M18 h => ?_)
          obtain ⟨rfl, H⟩ := h
          obtain ⟨⟨O, Pa1⟩, H⟩ := H
          exact ⟨fun h => absurd h (by decide), _, rfl, H⟩
      · replace H := H.2 c
        refine And.intro (Nat.le_of_ble_eq_true rfl) ?_
        refine And.intro (Nat.le_of_ble_eq_true rfl) (And.intro Pa1.1 ?_)
        refine Cl.mono H (fun r M19 h => ?_)
        obtain ⟨rfl, H⟩ := h
        obtain ⟨⟨O, Pa1⟩, H⟩ := H
        exact ⟨fun h => absurd h (by decide), _, rfl, H⟩
