/-! THE CLASS, block by block: by program (wip/tools/clsall.py) -/
theorem c_X4_layOut {G : GT} {d : Nat} {M : Mem} {o : Nat} (O : ObAt 4 M o) {a1 : Nat} {a2 : Int32} {a3 : Int32} {Q : Mem → Prop} (H : ∀ M1, M1 = seti M o 0 (0 : Int32) → ∀ M2, M2 = seti M1 o 4 (0 : Int32) → (14 ≤ mK M2 a1 ∧ mK M2 a1 ≤ 21) ∧ (At G (d + 1) 40 30 [(0, .ref o), (1, .ref a1), (3, .int a3), (4, .int (if (if (400 : Int32) < (nI (mA M2 a1)) then (400 : Int32) else (nI (mA M2 a1))) < a2 then (if (400 : Int32) < (nI (mA M2 a1)) then (400 : Int32) else (nI (mA M2 a1))) else a2)), (5, .int (-1 : Int32)), (6, .int (0 : Int32))] [] M2 (qV Q))) : CV G (d + 1) 40 [.ref o, .ref a1, .int a2, .int a3] M Q := by
  refine Cl.ofM (Nat.le_of_ble_eq_true rfl) rfl ?_
  refine vcc ok40 0 [30, 57, 58, 75, 99] ?_
  refine And.intro O.1 ?_
  refine And.intro (Or.inl rfl) (And.intro (fun h => absurd h (by decide)) ?_)
  replace H := H _ rfl
  refine And.intro O.1 ?_
  refine And.intro (Or.inl rfl) (And.intro (fun h => absurd h (by decide)) ?_)
  replace H := H _ rfl
  refine Or.inl ⟨H.1, ?_⟩
  replace H := H.2
  refine And.intro (Nat.le_of_ble_eq_true rfl) ?_
  refine And.intro (Nat.le_of_ble_eq_true rfl) ?_
  exact At.keep [0, 1, 3, 4, 5, 6] H

theorem c_X4_layOut_30 {G : GT} {d : Nat} {M : Mem} {o : Nat} (O : ObAt 4 M o) {a1 : Nat} {l3 : Int32} {l4 : Int32} {l5 : Int32} {l6 : Int32} {Q : Mem → Prop} (H : (l4 < l6 → Q M) ∧ (¬ l4 < l6 → (l4 ≤ l6 → At G (d + 1) 40 57 [(0, .ref o), (1, .ref a1), (3, .int l3), (4, .int l4), (5, .int l5), (6, .int l6)] [] M (qV Q)) ∧ (¬ l4 ≤ l6 → mK M a1 = 15 ∧ vp_in l6 (mA M a1) ∧ (((vi M a1 (l6).toNatClampNeg) = (32 : Int32) → At G (d + 1) 40 57 [(0, .ref o), (1, .ref a1), (3, .int l3), (4, .int l4), (5, .int l5), (6, .int l6)] [] M (qV Q)) ∧ (¬ (vi M a1 (l6).toNatClampNeg) = (32 : Int32) → At G (d + 1) 40 58 [(0, .ref o), (1, .ref a1), (3, .int l3), (4, .int l4), (5, .int l5), (6, .int l6)] [.int (1 : Int32)] M (qV Q)))))) : At G (d + 1) 40 30 [(0, .ref o), (1, .ref a1), (3, .int l3), (4, .int l4), (5, .int l5), (6, .int l6)] [] M (qV Q) := by
  refine vcc ok40 17 [57, 58, 75, 99] ?_
  refine And.intro (fun c => ?_) (fun c => ?_)
  · replace H := H.1 c
    exact ⟨rfl, H⟩
  · replace H := H.2 c
    refine And.intro (fun c => ?_) (fun c => ?_)
    · replace H := H.1 c
      exact H
    · replace H := H.2 c
      refine Or.inl ⟨H.1, H.2.1, ?_⟩
      replace H := H.2.2
      refine And.intro (fun c => ?_) (fun c => ?_)
      · replace H := H.1 c
        exact H
      · replace H := H.2 c
        exact H

theorem c_X4_layOut_57 {G : GT} {d : Nat} {M : Mem} {o : Nat} (O : ObAt 4 M o) {a1 : Nat} {l3 : Int32} {l4 : Int32} {l5 : Int32} {l6 : Int32} {Q : Mem → Prop} (H : At G (d + 1) 40 58 [(0, .ref o), (1, .ref a1), (3, .int l3), (4, .int l4), (5, .int l5), (6, .int l6)] [.int (0 : Int32)] M (qV Q)) : At G (d + 1) 40 57 [(0, .ref o), (1, .ref a1), (3, .int l3), (4, .int l4), (5, .int l5), (6, .int l6)] [] M (qV Q) := by
  refine vcc ok40 30 [30, 58, 75, 99] ?_
  exact H

theorem c_X4_layOut_58 {G : GT} {d : Nat} {M : Mem} {o : Nat} (O : ObAt 4 M o) {a1 : Nat} {l3 : Int32} {l4 : Int32} {l5 : Int32} {l6 : Int32} {t0 : Int32} {Q : Mem → Prop} (H : (t0 = 0 → At G (d + 1) 40 75 [(0, .ref o), (1, .ref a1), (3, .int l3), (4, .int l4), (5, .int l5), (6, .int l6), (7, .int t0)] [] M (qV Q)) ∧ (¬ t0 = 0 → (¬ l5 = (-1 : Int32) → At G (d + 1) 40 75 [(0, .ref o), (1, .ref a1), (3, .int l3), (4, .int l4), (5, .int l5), (6, .int l6), (7, .int t0)] [] M (qV Q)) ∧ (l5 = (-1 : Int32) → At G (d + 1) 40 75 [(0, .ref o), (1, .ref a1), (3, .int l3), (4, .int l4), (5, .int l6), (6, .int l6), (7, .int t0)] [] M (qV Q)))) : At G (d + 1) 40 58 [(0, .ref o), (1, .ref a1), (3, .int l3), (4, .int l4), (5, .int l5), (6, .int l6)] [.int t0] M (qV Q) := by
  refine vcc ok40 31 [30, 57, 75, 99] ?_
  refine And.intro (fun c => ?_) (fun c => ?_)
  · replace H := H.1 c
    exact H
  · replace H := H.2 c
    refine And.intro (fun c => ?_) (fun c => ?_)
    · replace H := H.1 c
      exact H
    · replace H := H.2 c
      exact H

theorem c_X4_layOut_75 {G : GT} {d : Nat} {M : Mem} {o : Nat} (O : ObAt 4 M o) {a1 : Nat} {l3 : Int32} {l4 : Int32} {l5 : Int32} {l6 : Int32} {l7 : Int32} {Q : Mem → Prop} (H : (¬ l7 = 0 → At G (d + 1) 40 99 [(0, .ref o), (1, .ref a1), (3, .int l3), (4, .int l4), (5, .int l5), (6, .int l6)] [] M (qV Q)) ∧ (l7 = 0 → (l5 = (-1 : Int32) → At G (d + 1) 40 99 [(0, .ref o), (1, .ref a1), (3, .int l3), (4, .int l4), (5, .int l5), (6, .int l6)] [] M (qV Q)) ∧ (¬ l5 = (-1 : Int32) → CV G d 41 [.ref o, .ref a1, .int l5, .int l6, .int l3] M (fun M3 => ObAt 4 M3 o ∧ (At G (d + 1) 40 99 [(0, .ref o), (1, .ref a1), (3, .int l3), (4, .int l4), (5, .int (-1 : Int32)), (6, .int l6)] [] M3 (qV Q)))))) : At G (d + 1) 40 75 [(0, .ref o), (1, .ref a1), (3, .int l3), (4, .int l4), (5, .int l5), (6, .int l6), (7, .int l7)] [] M (qV Q) := by
  refine vcc ok40 39 [30, 57, 58, 99] ?_
  refine And.intro (fun c => ?_) (fun c => ?_)
  · replace H := H.1 c
    exact At.keep [0, 1, 3, 4, 5, 6] H
  · replace H := H.2 c
    refine And.intro (fun c => ?_) (fun c => ?_)
    · replace H := H.1 c
      exact At.keep [0, 1, 3, 4, 5, 6] H
    · replace H := H.2 c
      refine And.intro (Nat.le_of_ble_eq_true rfl) ?_
      refine And.intro (Nat.le_of_ble_eq_true rfl) (And.intro O.1 ?_)
      refine Cl.mono H (fun r M3 h => ?_)
      obtain ⟨rfl, H⟩ := h
      obtain ⟨O, H⟩ := H
      exact At.keep [0, 1, 3, 4, 5, 6] H

theorem c_X4_layOut_99 {G : GT} {d : Nat} {M : Mem} {o : Nat} (O : ObAt 4 M o) {a1 : Nat} {l3 : Int32} {l4 : Int32} {l5 : Int32} {l6 : Int32} {Q : Mem → Prop} (H : At G (d + 1) 40 30 [(0, .ref o), (1, .ref a1), (3, .int l3), (4, .int l4), (5, .int l5), (6, .int (l6 + (1 : Int32)))] [] M (qV Q)) : At G (d + 1) 40 99 [(0, .ref o), (1, .ref a1), (3, .int l3), (4, .int l4), (5, .int l5), (6, .int l6)] [] M (qV Q) := by
  refine vcc ok40 52 [30, 57, 58, 75] ?_
  exact H

theorem c_X4_addWord {G : GT} {d : Nat} {M : Mem} {o : Nat} (O : ObAt 4 M o) {a1 : Nat} {a2 : Int32} {a3 : Int32} {a4 : Int32} {Q : Mem → Prop} (H : At G (d + 1) 41 6 [(0, .ref o), (1, .ref a1), (3, .int a3), (4, .int a4), (5, .int a2), (6, .int (0 : Int32))] [] M (qV Q)) : CV G (d + 1) 41 [.ref o, .ref a1, .int a2, .int a3, .int a4] M Q := by
  refine Cl.ofM (Nat.le_of_ble_eq_true rfl) rfl ?_
  refine vcc ok41 0 [6] ?_
  exact At.keep [0, 1, 3, 4, 5, 6] H

theorem c_X4_addWord_6 {G : GT} {d : Nat} {M : Mem} {o : Nat} (O : ObAt 4 M o) {a1 : Nat} {l3 : Int32} {l4 : Int32} {l5 : Int32} {l6 : Int32} {Q : Mem → Prop} (H : ((400 : Int32) ≤ l6 → (((vi M o 0) - (1 : Int32)) < 0 → CV G d 42 [.ref o, .int l5] M (fun M1 => ObAt 4 M1 o ∧ (CV G d 43 [.ref o, .ref a1, .int l5, .int l3] M1 (fun M2 => ObAt 4 M2 o ∧ (Q M2))))) ∧ (¬ ((vi M o 0) - (1 : Int32)) < 0 → ((400 : Int32) ≤ ((vi M o 0) - (1 : Int32)) → CV G d 42 [.ref o, .int l5] M (fun M3 => ObAt 4 M3 o ∧ (CV G d 43 [.ref o, .ref a1, .int l5, .int l3] M3 (fun M4 => ObAt 4 M4 o ∧ (Q M4))))) ∧ (¬ (400 : Int32) ≤ ((vi M o 0) - (1 : Int32)) → vp_in ((vi M o 0) - (1 : Int32)) 400 ∧ ((l4 < ((((vi M (o + 2) (((vi M o 0) - (1 : Int32))).toNatClampNeg) + (1 : Int32)) + l3) - l5) → CV G d 42 [.ref o, .int l5] M (fun M5 => ObAt 4 M5 o ∧ (CV G d 43 [.ref o, .ref a1, .int l5, .int l3] M5 (fun M6 => ObAt 4 M6 o ∧ (Q M6))))) ∧ (¬ l4 < ((((vi M (o + 2) (((vi M o 0) - (1 : Int32))).toNatClampNeg) + (1 : Int32)) + l3) - l5) → CV G d 44 [.ref o, .int (32 : Int32)] M (fun M7 => ObAt 4 M7 o ∧ (CV G d 43 [.ref o, .ref a1, .int l5, .int l3] M7 (fun M8 => ObAt 4 M8 o ∧ (Q M8))))))))) ∧ (¬ (400 : Int32) ≤ l6 → ((l3 - l5) ≤ l4 → (((vi M o 0) - (1 : Int32)) < 0 → CV G d 42 [.ref o, .int l5] M (fun M9 => ObAt 4 M9 o ∧ (CV G d 43 [.ref o, .ref a1, .int l5, .int l3] M9 (fun M10 => ObAt 4 M10 o ∧ (Q M10))))) ∧ (¬ ((vi M o 0) - (1 : Int32)) < 0 → ((400 : Int32) ≤ ((vi M o 0) - (1 : Int32)) → CV G d 42 [.ref o, .int l5] M (fun M11 => ObAt 4 M11 o ∧ (CV G d 43 [.ref o, .ref a1, .int l5, .int l3] M11 (fun M12 => ObAt 4 M12 o ∧ (Q M12))))) ∧ (¬ (400 : Int32) ≤ ((vi M o 0) - (1 : Int32)) → vp_in ((vi M o 0) - (1 : Int32)) 400 ∧ ((l4 < ((((vi M (o + 2) (((vi M o 0) - (1 : Int32))).toNatClampNeg) + (1 : Int32)) + l3) - l5) → CV G d 42 [.ref o, .int l5] M (fun M13 => ObAt 4 M13 o ∧ (CV G d 43 [.ref o, .ref a1, .int l5, .int l3] M13 (fun M14 => ObAt 4 M14 o ∧ (Q M14))))) ∧ (¬ l4 < ((((vi M (o + 2) (((vi M o 0) - (1 : Int32))).toNatClampNeg) + (1 : Int32)) + l3) - l5) → CV G d 44 [.ref o, .int (32 : Int32)] M (fun M15 => ObAt 4 M15 o ∧ (CV G d 43 [.ref o, .ref a1, .int l5, .int l3] M15 (fun M16 => ObAt 4 M16 o ∧ (Q M16))))))))) ∧ (¬ (l3 - l5) ≤ l4 → CV G d 42 [.ref o, .int l5] M (fun M17 => ObAt 4 M17 o ∧ (CV G d 43 [.ref o, .ref a1, .int l5, .int (l5 + l4)] M17 (fun M18 => ObAt 4 M18 o ∧ (At G (d + 1) 41 6 [(0, .ref o), (1, .ref a1), (3, .int l3), (4, .int l4), (5, .int (l5 + l4)), (6, .int (l6 + (1 : Int32)))] [] M18 (qV Q)))))))) : At G (d + 1) 41 6 [(0, .ref o), (1, .ref a1), (3, .int l3), (4, .int l4), (5, .int l5), (6, .int l6)] [] M (qV Q) := by
  refine vcc ok41 4 [] ?_
  refine And.intro (fun c => ?_) (fun c => ?_)
  · replace H := H.1 c
    refine And.intro O.1 ?_
    refine And.intro (fun c => ?_) (fun c => ?_)
    · replace H := H.1 c
      refine And.intro (Nat.le_of_ble_eq_true rfl) ?_
      refine And.intro (Nat.le_of_ble_eq_true rfl) (And.intro O.1 ?_)
      refine Cl.mono H (fun r M1 h => ?_)
      obtain ⟨rfl, H⟩ := h
      obtain ⟨O, H⟩ := H
      refine And.intro (Nat.le_of_ble_eq_true rfl) ?_
      refine And.intro (Nat.le_of_ble_eq_true rfl) (And.intro O.1 ?_)
      refine Cl.mono H (fun r M2 h => ?_)
      obtain ⟨rfl, H⟩ := h
      obtain ⟨O, H⟩ := H
      exact ⟨rfl, H⟩
    · replace H := H.2 c
      refine And.intro (fun c => ?_) (fun c => ?_)
      · replace H := H.1 c
        refine And.intro (Nat.le_of_ble_eq_true rfl) ?_
        refine And.intro (Nat.le_of_ble_eq_true rfl) (And.intro O.1 ?_)
        refine Cl.mono H (fun r M3 h => ?_)
        obtain ⟨rfl, H⟩ := h
        obtain ⟨O, H⟩ := H
        refine And.intro (Nat.le_of_ble_eq_true rfl) ?_
        refine And.intro (Nat.le_of_ble_eq_true rfl) (And.intro O.1 ?_)
        refine Cl.mono H (fun r M4 h => ?_)
        obtain ⟨rfl, H⟩ := h
        obtain ⟨O, H⟩ := H
        exact ⟨rfl, H⟩
      · replace H := H.2 c
        refine And.intro O.1 ?_
        refine Or.inl ⟨_, (ob4_r2 O), ?_⟩
        refine Or.inl ⟨(ob4_k2 O), vp_cst (ob4_l2 O) H.1, ?_⟩
        replace H := H.2
        refine And.intro (fun c => ?_) (fun c => ?_)
        · replace H := H.1 c
          refine And.intro (Nat.le_of_ble_eq_true rfl) ?_
          refine And.intro (Nat.le_of_ble_eq_true rfl) (And.intro O.1 ?_)
          refine Cl.mono H (fun r M5 h => ?_)
          obtain ⟨rfl, H⟩ := h
          obtain ⟨O, H⟩ := H
          refine And.intro (Nat.le_of_ble_eq_true rfl) ?_
          refine And.intro (Nat.le_of_ble_eq_true rfl) (And.intro O.1 ?_)
          refine Cl.mono H (fun r M6 h => ?_)
          obtain ⟨rfl, H⟩ := h
          obtain ⟨O, H⟩ := H
          exact ⟨rfl, H⟩
        · replace H := H.2 c
          refine And.intro (Nat.le_of_ble_eq_true rfl) ?_
          refine And.intro (Nat.le_of_ble_eq_true rfl) (And.intro O.1 ?_)
          refine Cl.mono H (fun r M7 h => ?_)
          obtain ⟨rfl, H⟩ := h
          obtain ⟨O, H⟩ := H
          refine And.intro (Nat.le_of_ble_eq_true rfl) ?_
          refine And.intro (Nat.le_of_ble_eq_true rfl) (And.intro O.1 ?_)
          refine Cl.mono H (fun r M8 h => ?_)
          obtain ⟨rfl, H⟩ := h
          obtain ⟨O, H⟩ := H
          exact ⟨rfl, H⟩
  · replace H := H.2 c
    refine And.intro (fun c => ?_) (fun c => ?_)
    · replace H := H.1 c
      refine And.intro O.1 ?_
      refine And.intro (fun c => ?_) (fun c => ?_)
      · replace H := H.1 c
        refine And.intro (Nat.le_of_ble_eq_true rfl) ?_
        refine And.intro (Nat.le_of_ble_eq_true rfl) (And.intro O.1 ?_)
        refine Cl.mono H (fun r M9 h => ?_)
        obtain ⟨rfl, H⟩ := h
        obtain ⟨O, H⟩ := H
        refine And.intro (Nat.le_of_ble_eq_true rfl) ?_
        refine And.intro (Nat.le_of_ble_eq_true rfl) (And.intro O.1 ?_)
        refine Cl.mono H (fun r M10 h => ?_)
        obtain ⟨rfl, H⟩ := h
        obtain ⟨O, H⟩ := H
        exact ⟨rfl, H⟩
      · replace H := H.2 c
        refine And.intro (fun c => ?_) (fun c => ?_)
        · replace H := H.1 c
          refine And.intro (Nat.le_of_ble_eq_true rfl) ?_
          refine And.intro (Nat.le_of_ble_eq_true rfl) (And.intro O.1 ?_)
          refine Cl.mono H (fun r M11 h => ?_)
          obtain ⟨rfl, H⟩ := h
          obtain ⟨O, H⟩ := H
          refine And.intro (Nat.le_of_ble_eq_true rfl) ?_
          refine And.intro (Nat.le_of_ble_eq_true rfl) (And.intro O.1 ?_)
          refine Cl.mono H (fun r M12 h => ?_)
          obtain ⟨rfl, H⟩ := h
          obtain ⟨O, H⟩ := H
          exact ⟨rfl, H⟩
        · replace H := H.2 c
          refine And.intro O.1 ?_
          refine Or.inl ⟨_, (ob4_r2 O), ?_⟩
          refine Or.inl ⟨(ob4_k2 O), vp_cst (ob4_l2 O) H.1, ?_⟩
          replace H := H.2
          refine And.intro (fun c => ?_) (fun c => ?_)
          · replace H := H.1 c
            refine And.intro (Nat.le_of_ble_eq_true rfl) ?_
            refine And.intro (Nat.le_of_ble_eq_true rfl) (And.intro O.1 ?_)
            refine Cl.mono H (fun r M13 h => ?_)
            obtain ⟨rfl, H⟩ := h
            obtain ⟨O, H⟩ := H
            refine And.intro (Nat.le_of_ble_eq_true rfl) ?_
            refine And.intro (Nat.le_of_ble_eq_true rfl) (And.intro O.1 ?_)
            refine Cl.mono H (fun r M14 h => ?_)
            obtain ⟨rfl, H⟩ := h
            obtain ⟨O, H⟩ := H
            exact ⟨rfl, H⟩
          · replace H := H.2 c
            refine And.intro (Nat.le_of_ble_eq_true rfl) ?_
            refine And.intro (Nat.le_of_ble_eq_true rfl) (And.intro O.1 ?_)
            refine Cl.mono H (fun r M15 h => ?_)
            obtain ⟨rfl, H⟩ := h
            obtain ⟨O, H⟩ := H
            refine And.intro (Nat.le_of_ble_eq_true rfl) ?_
            refine And.intro (Nat.le_of_ble_eq_true rfl) (And.intro O.1 ?_)
            refine Cl.mono H (fun r M16 h => ?_)
            obtain ⟨rfl, H⟩ := h
            obtain ⟨O, H⟩ := H
            exact ⟨rfl, H⟩
    · replace H := H.2 c
      refine And.intro (Nat.le_of_ble_eq_true rfl) ?_
      refine And.intro (Nat.le_of_ble_eq_true rfl) (And.intro O.1 ?_)
      refine Cl.mono H (fun r M17 h => ?_)
      obtain ⟨rfl, H⟩ := h
      obtain ⟨O, H⟩ := H
      refine And.intro (Nat.le_of_ble_eq_true rfl) ?_
      refine And.intro (Nat.le_of_ble_eq_true rfl) (And.intro O.1 ?_)
      refine Cl.mono H (fun r M18 h => ?_)
      obtain ⟨rfl, H⟩ := h
      obtain ⟨O, H⟩ := H
      exact H

theorem c_X4_beginLine {G : GT} {d : Nat} {M : Mem} {o : Nat} (O : ObAt 4 M o) {a1 : Int32} {Q : Mem → Prop} (H : ((vi M o 0) < 0 → Q M) ∧ (¬ (vi M o 0) < 0 → ((400 : Int32) ≤ (vi M o 0) → Q M) ∧ (¬ (400 : Int32) ≤ (vi M o 0) → vp_in (vi M o 0) 400 ∧ (∀ M1, M1 = seti M (o + 1) ((vi M o 0)).toNatClampNeg a1 → vp_in (vi M1 o 0) 400 ∧ (∀ M2, M2 = seti M1 (o + 2) ((vi M1 o 0)).toNatClampNeg (0 : Int32) → vp_in (vi M2 o 0) 400 ∧ (∀ M3, M3 = seti M2 (o + 4) ((vi M2 o 0)).toNatClampNeg (vi M2 o 4) → ∀ M4, M4 = seti M3 o 0 ((vi M3 o 0) + (1 : Int32)) → Q M4)))))) : CV G (d + 1) 42 [.ref o, .int a1] M Q := by
  refine Cl.ofM (Nat.le_of_ble_eq_true rfl) rfl ?_
  refine vcc ok42 0 [] ?_
  refine And.intro O.1 ?_
  refine And.intro (fun c => ?_) (fun c => ?_)
  · replace H := H.1 c
    exact ⟨rfl, H⟩
  · replace H := H.2 c
    refine And.intro O.1 ?_
    refine And.intro (fun c => ?_) (fun c => ?_)
    · replace H := H.1 c
      exact ⟨rfl, H⟩
    · replace H := H.2 c
      refine And.intro O.1 ?_
      refine Or.inl ⟨_, (ob4_r1 O), ?_⟩
      refine And.intro O.1 ?_
      refine ⟨(ob4_k1 O), vp_cst (ob4_l1 O) H.1, ?_⟩
      replace H := H.2
      replace H := H _ rfl
      refine And.intro O.1 ?_
      refine Or.inl ⟨_, (ob4_r2 O), ?_⟩
      refine And.intro O.1 ?_
      refine ⟨(ob4_k2 O), vp_cst (ob4_l2 O) H.1, ?_⟩
      replace H := H.2
      replace H := H _ rfl
      refine And.intro O.1 ?_
      refine Or.inl ⟨_, (ob4_r5 O), ?_⟩
      refine And.intro O.1 ?_
      refine And.intro O.1 ?_
      refine ⟨(ob4_k5 O), vp_cst (ob4_l5 O) H.1, ?_⟩
      replace H := H.2
      replace H := H _ rfl
      refine And.intro O.1 ?_
      refine And.intro O.1 ?_
      refine And.intro (Or.inl rfl) (And.intro (fun h => absurd h (by decide)) ?_)
      replace H := H _ rfl
      exact ⟨rfl, H⟩

theorem c_X4_addBytes {G : GT} {d : Nat} {M : Mem} {o : Nat} (O : ObAt 4 M o) {a1 : Nat} {a2 : Int32} {a3 : Int32} {Q : Mem → Prop} (H : At G (d + 1) 43 3 [(0, .ref o), (1, .ref a1), (3, .int a3), (4, .int a2)] [] M (qV Q)) : CV G (d + 1) 43 [.ref o, .ref a1, .int a2, .int a3] M Q := by
  refine Cl.ofM (Nat.le_of_ble_eq_true rfl) rfl ?_
  refine vcc ok43 0 [3] ?_
  exact At.keep [0, 1, 3, 4] H

theorem c_X4_addBytes_3 {G : GT} {d : Nat} {M : Mem} {o : Nat} (O : ObAt 4 M o) {a1 : Nat} {l3 : Int32} {l4 : Int32} {Q : Mem → Prop} (H : (l4 < 0 → Q M) ∧ (¬ l4 < 0 → (l3 ≤ l4 → Q M) ∧ (¬ l3 ≤ l4 → (14 ≤ mK M a1 ∧ mK M a1 ≤ 21) ∧ (((nI (mA M a1)) ≤ l4 → Q M) ∧ (¬ (nI (mA M a1)) ≤ l4 → mK M a1 = 15 ∧ vp_in l4 (mA M a1) ∧ (CV G d 44 [.ref o, .int (vi M a1 (l4).toNatClampNeg)] M (fun M1 => ObAt 4 M1 o ∧ (At G (d + 1) 43 3 [(0, .ref o), (1, .ref a1), (3, .int l3), (4, .int (l4 + (1 : Int32)))] [] M1 (qV Q))))))))) : At G (d + 1) 43 3 [(0, .ref o), (1, .ref a1), (3, .int l3), (4, .int l4)] [] M (qV Q) := by
  refine vcc ok43 2 [] ?_
  refine And.intro (fun c => ?_) (fun c => ?_)
  · replace H := H.1 c
    exact ⟨rfl, H⟩
  · replace H := H.2 c
    refine And.intro (fun c => ?_) (fun c => ?_)
    · replace H := H.1 c
      exact ⟨rfl, H⟩
    · replace H := H.2 c
      refine Or.inl ⟨H.1, ?_⟩
      replace H := H.2
      refine And.intro (fun c => ?_) (fun c => ?_)
      · replace H := H.1 c
        exact ⟨rfl, H⟩
      · replace H := H.2 c
        refine Or.inl ⟨H.1, H.2.1, ?_⟩
        replace H := H.2.2
        refine And.intro (Nat.le_of_ble_eq_true rfl) ?_
        refine And.intro (Nat.le_of_ble_eq_true rfl) (And.intro O.1 ?_)
        refine Cl.mono H (fun r M1 h => ?_)
        obtain ⟨rfl, H⟩ := h
        obtain ⟨O, H⟩ := H
        exact H

theorem c_X4_addByte {G : GT} {d : Nat} {M : Mem} {o : Nat} (O : ObAt 4 M o) {a1 : Int32} {Q : Mem → Prop} (H : (((vi M o 0) - (1 : Int32)) < 0 → Q M) ∧ (¬ ((vi M o 0) - (1 : Int32)) < 0 → ((400 : Int32) ≤ ((vi M o 0) - (1 : Int32)) → Q M) ∧ (¬ (400 : Int32) ≤ ((vi M o 0) - (1 : Int32)) → ((vi M o 4) < 0 → Q M) ∧ (¬ (vi M o 4) < 0 → ((400 : Int32) ≤ (vi M o 4) → Q M) ∧ (¬ (400 : Int32) ≤ (vi M o 4) → vp_in (vi M o 4) 400 ∧ (∀ M1, M1 = seti M (o + 3) ((vi M o 4)).toNatClampNeg a1 → ∀ M2, M2 = seti M1 o 4 ((vi M1 o 4) + (1 : Int32)) → vp_in ((vi M o 0) - (1 : Int32)) 400 ∧ (vp_in ((vi M o 0) - (1 : Int32)) 400 ∧ (∀ M3, M3 = seti M2 (o + 2) (((vi M o 0) - (1 : Int32))).toNatClampNeg ((vi M2 (o + 2) (((vi M o 0) - (1 : Int32))).toNatClampNeg) + (1 : Int32)) → Q M3)))))))) : CV G (d + 1) 44 [.ref o, .int a1] M Q := by
  refine Cl.ofM (Nat.le_of_ble_eq_true rfl) rfl ?_
  refine vcc ok44 0 [] ?_
  refine And.intro O.1 ?_
  refine And.intro (fun c => ?_) (fun c => ?_)
  · replace H := H.1 c
    exact ⟨rfl, H⟩
  · replace H := H.2 c
    refine And.intro (fun c => ?_) (fun c => ?_)
    · replace H := H.1 c
      exact ⟨rfl, H⟩
    · replace H := H.2 c
      refine And.intro O.1 ?_
      refine And.intro (fun c => ?_) (fun c => ?_)
      · replace H := H.1 c
        exact ⟨rfl, H⟩
      · replace H := H.2 c
        refine And.intro O.1 ?_
        refine And.intro (fun c => ?_) (fun c => ?_)
        · replace H := H.1 c
          exact ⟨rfl, H⟩
        · replace H := H.2 c
          refine And.intro O.1 ?_
          refine Or.inl ⟨_, (ob4_r3 O), ?_⟩
          refine And.intro O.1 ?_
          refine ⟨(ob4_k3 O), vp_cst (ob4_l3 O) H.1, ?_⟩
          replace H := H.2
          replace H := H _ rfl
          refine And.intro O.1 ?_
          refine And.intro O.1 ?_
          refine And.intro (Or.inl rfl) (And.intro (fun h => absurd h (by decide)) ?_)
          replace H := H _ rfl
          refine And.intro O.1 ?_
          refine Or.inl ⟨_, (ob4_r2 O), ?_⟩
          refine Or.inl ⟨(ob4_k2 O), vp_cst (ob4_l2 O) H.1, ?_⟩
          replace H := H.2
          refine ⟨(ob4_k2 O), vp_cst (ob4_l2 O) H.1, ?_⟩
          replace H := H.2
          replace H := H _ rfl
          exact ⟨rfl, H⟩

theorem c_X4_pagesUnlike {G : GT} {d : Nat} {M : Mem} {o : Nat} (O : ObAt 4 M o) {a1 : Nat} (Pa1 : ObAt 4 M a1) {a2 : Int32} {Q : Int32 → Mem → Prop} (H : ((1 : Int32) ≤ a2 → At G (d + 1) 45 28 [(0, .ref o), (1, .ref a1), (2, .int a2), (3, .int (0 : Int32)), (4, .int (-1 : Int32)), (5, .int (if (vi M o 0) < (vi M a1 0) then (vi M a1 0) else (vi M o 0))), (6, .int (0 : Int32))] [] M (qI Q)) ∧ (¬ (1 : Int32) ≤ a2 → Q (0 : Int32) M)) : CI G (d + 1) 45 [.ref o, .ref a1, .int a2] M Q := by
  refine Cl.ofM (Nat.le_of_ble_eq_true rfl) rfl ?_
  refine vcc ok45 0 [28] ?_
  refine And.intro (fun c => ?_) (fun c => ?_)
  · replace H := H.1 c
    refine And.intro O.1 ?_
    refine And.intro Pa1.1 ?_
    refine And.intro (Nat.le_of_ble_eq_true rfl) ?_
    exact H
  · replace H := H.2 c
    exact ⟨fun h => absurd h (by decide), _, rfl, H⟩

theorem c_X4_pagesUnlike_28 {G : GT} {d : Nat} {M : Mem} {o : Nat} (O : ObAt 4 M o) {a1 : Nat} (Pa1 : ObAt 4 M a1) {l2 : Int32} {l3 : Int32} {l4 : Int32} {l5 : Int32} {l6 : Int32} {Q : Int32 → Mem → Prop} (H : (l5 ≤ l6 → Q l3 M) ∧ (¬ l5 ≤ l6 → ¬ l2 = 0 ∧ (((l6 / l2) = l4 → At G (d + 1) 45 28 [(0, .ref o), (1, .ref a1), (2, .int l2), (3, .int l3), (4, .int l4), (5, .int l5), (6, .int (l6 + (1 : Int32)))] [] M (qI Q)) ∧ (¬ (l6 / l2) = l4 → CI G d 46 [.ref o, .ref a1, .int l6] M (fun v2 M1 => (ObAt 4 M1 o ∧ ObAt 4 M1 a1) ∧ ((¬ v2 = 0 → At G (d + 1) 45 28 [(0, .ref o), (1, .ref a1), (2, .int l2), (3, .int l3), (4, .int l4), (5, .int l5), (6, .int (l6 + (1 : Int32)))] [] M1 (qI Q)) ∧ (v2 = 0 → ¬ l2 = 0 ∧ (At G (d + 1) 45 28 [(0, .ref o), (1, .ref a1), (2, .int l2), (3, .int (l3 + (1 : Int32))), (4, .int (l6 / l2)), (5, .int l5), (6, .int (l6 + (1 : Int32)))] [] M1 (qI Q))))))))) : At G (d + 1) 45 28 [(0, .ref o), (1, .ref a1), (2, .int l2), (3, .int l3), (4, .int l4), (5, .int l5), (6, .int l6)] [] M (qI Q) := by
  refine vcc ok45 17 [] ?_
  refine And.intro (fun c => ?_) (fun c => ?_)
  · replace H := H.1 c
    exact ⟨fun h => absurd h (by decide), _, rfl, H⟩
  · replace H := H.2 c
    refine And.intro H.1 ?_
    replace H := H.2
    refine And.intro (fun c => ?_) (fun c => ?_)
    · replace H := H.1 c
      exact H
    · replace H := H.2 c
      refine And.intro (Nat.le_of_ble_eq_true rfl) ?_
      refine And.intro (Nat.le_of_ble_eq_true rfl) (And.intro O.1 ?_)
      refine Cl.mono H (fun r M1 h => ?_)
      obtain ⟨v2, rfl, H⟩ := h
      obtain ⟨⟨O, Pa1⟩, H⟩ := H
      refine And.intro (fun c => ?_) (fun c => ?_)
      · replace H := H.1 c
        exact H
      · replace H := H.2 c
        refine And.intro H.1 ?_
        replace H := H.2
        exact H

theorem c_X4_sameLine {G : GT} {d : Nat} {M : Mem} {o : Nat} (O : ObAt 4 M o) {a1 : Nat} (Pa1 : ObAt 4 M a1) {a2 : Int32} {Q : Int32 → Mem → Prop} (H : (a2 < 0 → ((0 : Int32) = 0 ∨ (0 : Int32) = 1) ∧ Q (0 : Int32) M) ∧ (¬ a2 < 0 → ((vi M o 0) ≤ a2 → ((0 : Int32) = 0 ∨ (0 : Int32) = 1) ∧ Q (0 : Int32) M) ∧ (¬ (vi M o 0) ≤ a2 → ((vi M a1 0) ≤ a2 → ((0 : Int32) = 0 ∨ (0 : Int32) = 1) ∧ Q (0 : Int32) M) ∧ (¬ (vi M a1 0) ≤ a2 → ((400 : Int32) ≤ a2 → ((0 : Int32) = 0 ∨ (0 : Int32) = 1) ∧ Q (0 : Int32) M) ∧ (¬ (400 : Int32) ≤ a2 → vp_in a2 400 ∧ (vp_in a2 400 ∧ (((vi M (o + 2) (a2).toNatClampNeg) = (vi M (a1 + 2) (a2).toNatClampNeg) → At G (d + 1) 46 46 [(0, .ref o), (1, .ref a1), (2, .int a2), (3, .int (0 : Int32))] [] M (qI Q)) ∧ (¬ (vi M (o + 2) (a2).toNatClampNeg) = (vi M (a1 + 2) (a2).toNatClampNeg) → ((0 : Int32) = 0 ∨ (0 : Int32) = 1) ∧ Q (0 : Int32) M)))))))) : CI G (d + 1) 46 [.ref o, .ref a1, .int a2] M Q := by
  refine Cl.ofM (Nat.le_of_ble_eq_true rfl) rfl ?_
  refine vcc ok46 0 [46] ?_
  refine And.intro (fun c => ?_) (fun c => ?_)
  · replace H := H.1 c
    exact ⟨fun _ => H.1, _, rfl, H.2⟩
  · replace H := H.2 c
    refine And.intro O.1 ?_
    refine And.intro (fun c => ?_) (fun c => ?_)
    · replace H := H.1 c
      exact ⟨fun _ => H.1, _, rfl, H.2⟩
    · replace H := H.2 c
      refine And.intro Pa1.1 ?_
      refine And.intro (fun c => ?_) (fun c => ?_)
      · replace H := H.1 c
        exact ⟨fun _ => H.1, _, rfl, H.2⟩
      · replace H := H.2 c
        refine And.intro (fun c => ?_) (fun c => ?_)
        · replace H := H.1 c
          exact ⟨fun _ => H.1, _, rfl, H.2⟩
        · replace H := H.2 c
          refine And.intro O.1 ?_
          refine Or.inl ⟨_, (ob4_r2 O), ?_⟩
          refine Or.inl ⟨(ob4_k2 O), vp_cst (ob4_l2 O) H.1, ?_⟩
          replace H := H.2
          refine And.intro Pa1.1 ?_
          refine Or.inl ⟨_, (ob4_r2 Pa1), ?_⟩
          refine Or.inl ⟨(ob4_k2 Pa1), vp_cst (ob4_l2 Pa1) H.1, ?_⟩
          replace H := H.2
          refine And.intro (fun c => ?_) (fun c => ?_)
          · replace H := H.1 c
            exact H
          · replace H := H.2 c
            exact ⟨fun _ => H.1, _, rfl, H.2⟩

theorem c_X4_sameLine_46 {G : GT} {d : Nat} {M : Mem} {o : Nat} (O : ObAt 4 M o) {a1 : Nat} (Pa1 : ObAt 4 M a1) {l2 : Int32} {l3 : Int32} {Q : Int32 → Mem → Prop} (H : vp_in l2 400 ∧ (((vi M (o + 2) (l2).toNatClampNeg) ≤ l3 → ((1 : Int32) = 0 ∨ (1 : Int32) = 1) ∧ Q (1 : Int32) M) ∧ (¬ (vi M (o + 2) (l2).toNatClampNeg) ≤ l3 → vp_in l2 400 ∧ (vp_in l2 400 ∧ ((((vi M (o + 4) (l2).toNatClampNeg) + l3) < 0 → ((0 : Int32) = 0 ∨ (0 : Int32) = 1) ∧ Q (0 : Int32) M) ∧ (¬ ((vi M (o + 4) (l2).toNatClampNeg) + l3) < 0 → ((400 : Int32) ≤ ((vi M (o + 4) (l2).toNatClampNeg) + l3) → ((0 : Int32) = 0 ∨ (0 : Int32) = 1) ∧ Q (0 : Int32) M) ∧ (¬ (400 : Int32) ≤ ((vi M (o + 4) (l2).toNatClampNeg) + l3) → (((vi M (a1 + 4) (l2).toNatClampNeg) + l3) < 0 → ((0 : Int32) = 0 ∨ (0 : Int32) = 1) ∧ Q (0 : Int32) M) ∧ (¬ ((vi M (a1 + 4) (l2).toNatClampNeg) + l3) < 0 → (((vi M (a1 + 4) (l2).toNatClampNeg) + l3) < (400 : Int32) → vp_in ((vi M (o + 4) (l2).toNatClampNeg) + l3) 400 ∧ (vp_in ((vi M (a1 + 4) (l2).toNatClampNeg) + l3) 400 ∧ (((vi M (o + 3) (((vi M (o + 4) (l2).toNatClampNeg) + l3)).toNatClampNeg) = (vi M (a1 + 3) (((vi M (a1 + 4) (l2).toNatClampNeg) + l3)).toNatClampNeg) → At G (d + 1) 46 46 [(0, .ref o), (1, .ref a1), (2, .int l2), (3, .int (l3 + (1 : Int32)))] [] M (qI Q)) ∧ (¬ (vi M (o + 3) (((vi M (o + 4) (l2).toNatClampNeg) + l3)).toNatClampNeg) = (vi M (a1 + 3) (((vi M (a1 + 4) (l2).toNatClampNeg) + l3)).toNatClampNeg) → ((0 : Int32) = 0 ∨ (0 : Int32) = 1) ∧ Q (0 : Int32) M)))) ∧ (¬ ((vi M (a1 + 4) (l2).toNatClampNeg) + l3) < (400 : Int32) → ((0 : Int32) = 0 ∨ (0 : Int32) = 1) ∧ Q (0 : Int32) M))))))))) : At G (d + 1) 46 46 [(0, .ref o), (1, .ref a1), (2, .int l2), (3, .int l3)] [] M (qI Q) := by
  refine vcc ok46 26 [] ?_
  refine And.intro O.1 ?_
  refine Or.inl ⟨_, (ob4_r2 O), ?_⟩
  refine Or.inl ⟨(ob4_k2 O), vp_cst (ob4_l2 O) H.1, ?_⟩
  replace H := H.2
  refine And.intro (fun c => ?_) (fun c => ?_)
  · replace H := H.1 c
    exact ⟨fun _ => H.1, _, rfl, H.2⟩
  · replace H := H.2 c
    refine And.intro O.1 ?_
    refine Or.inl ⟨_, (ob4_r5 O), ?_⟩
    refine Or.inl ⟨(ob4_k5 O), vp_cst (ob4_l5 O) H.1, ?_⟩
    replace H := H.2
    refine And.intro Pa1.1 ?_
    refine Or.inl ⟨_, (ob4_r5 Pa1), ?_⟩
    refine Or.inl ⟨(ob4_k5 Pa1), vp_cst (ob4_l5 Pa1) H.1, ?_⟩
    replace H := H.2
    refine And.intro (fun c => ?_) (fun c => ?_)
    · replace H := H.1 c
      exact ⟨fun _ => H.1, _, rfl, H.2⟩
    · replace H := H.2 c
      refine And.intro (fun c => ?_) (fun c => ?_)
      · replace H := H.1 c
        exact ⟨fun _ => H.1, _, rfl, H.2⟩
      · replace H := H.2 c
        refine And.intro (fun c => ?_) (fun c => ?_)
        · replace H := H.1 c
          exact ⟨fun _ => H.1, _, rfl, H.2⟩
        · replace H := H.2 c
          refine And.intro (fun c => ?_) (fun c => ?_)
          · replace H := H.1 c
            refine And.intro O.1 ?_
            refine Or.inl ⟨_, (ob4_r3 O), ?_⟩
            refine Or.inl ⟨(ob4_k3 O), vp_cst (ob4_l3 O) H.1, ?_⟩
            replace H := H.2
            refine And.intro Pa1.1 ?_
            refine Or.inl ⟨_, (ob4_r3 Pa1), ?_⟩
            refine Or.inl ⟨(ob4_k3 Pa1), vp_cst (ob4_l3 Pa1) H.1, ?_⟩
            replace H := H.2
            refine And.intro (fun c => ?_) (fun c => ?_)
            · replace H := H.1 c
              exact At.keep [0, 1, 2, 3] H
            · replace H := H.2 c
              exact ⟨fun _ => H.1, _, rfl, H.2⟩
          · replace H := H.2 c
            exact ⟨fun _ => H.1, _, rfl, H.2⟩
