/-! THE CLASS, block by block: by program (wip/tools/clsall.py) -/
theorem c_X1_search {G : GT} {d : Nat} {M : Mem} {o : Nat} (O : ObAt 1 M o) {a1 : Nat} (Pa1 : ObAt 8 M a1)  {Q : Mem → Prop} (H : At G (d + 1) 15 13 [(0, .ref o), (1, .ref a1), (2, .int (if (200 : Int32) < (vi M a1 3) then (200 : Int32) else (vi M a1 3))), (3, .int (0 : Int32))] [] M (qV Q)) : CV G (d + 1) 15 [.ref o, .ref a1] M Q := by
  refine Cl.ofM (Nat.le_of_ble_eq_true rfl) rfl ?_
  refine vcc ok15 0 [13, 53] ?_
  refine And.intro Pa1.1 ?_
  refine And.intro (Nat.le_of_ble_eq_true rfl) ?_
  exact H

theorem c_X1_search_13 {G : GT} {d : Nat} {M : Mem} {o : Nat} (O : ObAt 1 M o) {a1 : Nat} (Pa1 : ObAt 8 M a1) {l2 : Int32} {l3 : Int32} {Q : Mem → Prop} (H : (l2 < l3 → At G (d + 1) 15 53 [(0, .ref o), (1, .ref a1), (2, .int l2), (3, .int ((if (200 : Int32) < (vi M a1 1) then (200 : Int32) else (vi M a1 1)) - (1 : Int32)))] [] M (qV Q)) ∧ (¬ l2 < l3 → vp_in (0 : Int32) 7 ∧ (vp_in l3 201 ∧ (∀ M1, M1 = seti M (o + 3) (l3).toNatClampNeg ((l2 - l3) * (vi M (a1 + 6) ((0 : Int32)).toNatClampNeg)) → At G (d + 1) 15 13 [(0, .ref o), (1, .ref a1), (2, .int l2), (3, .int (l3 + (1 : Int32)))] [] M1 (qV Q))))) : At G (d + 1) 15 13 [(0, .ref o), (1, .ref a1), (2, .int l2), (3, .int l3)] [] M (qV Q) := by
  refine vcc ok15 7 [53] ?_
  refine And.intro (fun c => ?_) (fun c => ?_)
  · replace H := H.1 c
    refine And.intro Pa1.1 ?_
    refine And.intro (Nat.le_of_ble_eq_true rfl) ?_
    exact H
  · replace H := H.2 c
    refine And.intro O.1 ?_
    refine Or.inl ⟨_, (ob1_r5 O), ?_⟩
    refine And.intro Pa1.1 ?_
    refine Or.inl ⟨_, (ob8_r8 Pa1), ?_⟩
    refine Or.inl ⟨(ob8_k8 Pa1), vp_cst (ob8_l8 Pa1) H.1, ?_⟩
    replace H := H.2
    refine ⟨(ob1_k5 O), vp_cst (ob1_l5 O) H.1, ?_⟩
    replace H := H.2
    replace H := H _ rfl
    exact H

theorem c_X1_search_53 {G : GT} {d : Nat} {M : Mem} {o : Nat} (O : ObAt 1 M o) {a1 : Nat} (Pa1 : ObAt 8 M a1) {l2 : Int32} {l3 : Int32} {Q : Mem → Prop} (H : (l3 < 0 → vp_in (0 : Int32) 201 ∧ (∀ M2, M2 = seti M o 1 (vi M (o + 3) ((0 : Int32)).toNatClampNeg) → CV G d 19 [.ref o, .int (vi M2 a1 1), .int (vi M2 a1 3)] M2 (fun M3 => (ObAt 1 M3 o ∧ ObAt 8 M3 a1) ∧ (Q M3)))) ∧ (¬ l3 < 0 → CV G d 16 [.ref o, .ref a1, .int l3, .int l2] M (fun M4 => (ObAt 1 M4 o ∧ ObAt 8 M4 a1) ∧ (At G (d + 1) 15 53 [(0, .ref o), (1, .ref a1), (2, .int l2), (3, .int (l3 + (-1 : Int32)))] [] M4 (qV Q))))) : At G (d + 1) 15 53 [(0, .ref o), (1, .ref a1), (2, .int l2), (3, .int l3)] [] M (qV Q) := by
  refine vcc ok15 31 [13] ?_
  refine And.intro (fun c => ?_) (fun c => ?_)
  · replace H := H.1 c
    refine And.intro O.1 ?_
    refine Or.inl ⟨_, (ob1_r5 O), ?_⟩
    refine Or.inl ⟨(ob1_k5 O), vp_cst (ob1_l5 O) H.1, ?_⟩
    replace H := H.2
    refine And.intro O.1 ?_
    refine And.intro (Or.inl rfl) (And.intro (fun h => absurd h (by decide)) ?_)
    replace H := H _ rfl
    refine And.intro Pa1.1 ?_
    refine And.intro Pa1.1 ?_
    refine And.intro (Nat.le_of_ble_eq_true rfl) ?_
    refine And.intro (Nat.le_of_ble_eq_true rfl) (And.intro O.1 ?_)
    refine Cl.mono H (fun r M3 h => ?_)
    obtain ⟨rfl, H⟩ := h
    obtain ⟨⟨O, Pa1⟩, H⟩ := H
    exact ⟨rfl, H⟩
  · replace H := H.2 c
    refine And.intro (Nat.le_of_ble_eq_true rfl) ?_
    refine And.intro (Nat.le_of_ble_eq_true rfl) (And.intro O.1 ?_)
    refine Cl.mono H (fun r M4 h => ?_)
    obtain ⟨rfl, H⟩ := h
    obtain ⟨⟨O, Pa1⟩, H⟩ := H
    exact H

theorem c_X1_fillRow {G : GT} {d : Nat} {M : Mem} {o : Nat} (O : ObAt 1 M o) {a1 : Nat} (Pa1 : ObAt 8 M a1) {a2 : Int32} {a3 : Int32} {Q : Mem → Prop} (H : (a2 < 0 → At G (d + 1) 16 22 [] [] M (qV Q)) ∧ (¬ a2 < 0 → ((200 : Int32) ≤ a2 → At G (d + 1) 16 22 [] [] M (qV Q)) ∧ (¬ (200 : Int32) ≤ a2 → (a3 < 0 → At G (d + 1) 16 22 [] [] M (qV Q)) ∧ (¬ a3 < 0 → (a3 ≤ (200 : Int32) → vp_in (1 : Int32) 7 ∧ (vp_in (0 : Int32) 7 ∧ (vp_in a2 200 ∧ (CI G d 152 [.int (vi M (a1 + 1) (a2).toNatClampNeg)] M (fun v2 M1 => (ObAt 1 M1 o ∧ ObAt 8 M1 a1) ∧ (CI G d 149 [.int (vi M (a1 + 1) (a2).toNatClampNeg)] M1 (fun v4 M3 => (ObAt 1 M3 o ∧ ObAt 8 M3 a1) ∧ ((v4 = 0 → At G (d + 1) 16 67 [(0, .ref o), (1, .ref a1), (2, .int a2), (3, .int a3), (4, .int (vi M (a1 + 6) ((1 : Int32)).toNatClampNeg)), (5, .int (vi M (a1 + 6) ((0 : Int32)).toNatClampNeg)), (6, .int (vi M (a1 + 1) (a2).toNatClampNeg)), (7, .int v2)] [.int (4 : Int32)] M3 (qV Q)) ∧ (¬ v4 = 0 → At G (d + 1) 16 67 [(0, .ref o), (1, .ref a1), (2, .int a2), (3, .int a3), (4, .int (vi M (a1 + 6) ((1 : Int32)).toNatClampNeg)), (5, .int (vi M (a1 + 6) ((0 : Int32)).toNatClampNeg)), (6, .int (vi M (a1 + 1) (a2).toNatClampNeg)), (7, .int v2)] [.int (3 : Int32)] M3 (qV Q)))))))))) ∧ (¬ a3 ≤ (200 : Int32) → At G (d + 1) 16 22 [] [] M (qV Q)))))) : CV G (d + 1) 16 [.ref o, .ref a1, .int a2, .int a3] M Q := by
  refine Cl.ofM (Nat.le_of_ble_eq_true rfl) rfl ?_
  refine vcc ok16 0 [22, 67, 86, 113, 167, 204, 225] ?_
  refine And.intro (fun c => ?_) (fun c => ?_)
  · replace H := H.1 c
    exact At.keep [] H
  · replace H := H.2 c
    refine And.intro (fun c => ?_) (fun c => ?_)
    · replace H := H.1 c
      exact At.keep [] H
    · replace H := H.2 c
      refine And.intro (fun c => ?_) (fun c => ?_)
      · replace H := H.1 c
        exact At.keep [] H
      · replace H := H.2 c
        refine And.intro (fun c => ?_) (fun c => ?_)
        · replace H := H.1 c
          refine And.intro Pa1.1 ?_
          refine Or.inl ⟨_, (ob8_r8 Pa1), ?_⟩
          refine Or.inl ⟨(ob8_k8 Pa1), vp_cst (ob8_l8 Pa1) H.1, ?_⟩
          replace H := H.2
          refine And.intro Pa1.1 ?_
          refine Or.inl ⟨_, (ob8_r8 Pa1), ?_⟩
          refine Or.inl ⟨(ob8_k8 Pa1), vp_cst (ob8_l8 Pa1) H.1, ?_⟩
          replace H := H.2
          refine And.intro Pa1.1 ?_
          refine Or.inl ⟨_, (ob8_r0 Pa1), ?_⟩
          refine Or.inl ⟨(ob8_k0 Pa1), vp_cst (ob8_l0 Pa1) H.1, ?_⟩
          replace H := H.2
          refine And.intro (Nat.le_of_ble_eq_true rfl) ?_
          refine And.intro (Nat.le_of_ble_eq_true rfl) ?_
          refine Cl.mono H (fun r M1 h => ?_)
          obtain ⟨v2, rfl, H⟩ := h
          obtain ⟨⟨O, Pa1⟩, H⟩ := H
          refine And.intro (Nat.le_of_ble_eq_true rfl) ?_
          refine And.intro (Nat.le_of_ble_eq_true rfl) ?_
          refine Cl.mono H (fun r M3 h => ?_)
          obtain ⟨v4, rfl, H⟩ := h
          obtain ⟨⟨O, Pa1⟩, H⟩ := H
          refine And.intro (fun c => ?_) (fun c => ?_)
          · replace H := H.1 c
            exact H
          · replace H := H.2 c
            exact H
        · replace H := H.2 c
          exact At.keep [] H

theorem c_X1_fillRow_22 {G : GT} {d : Nat} {M : Mem} {o : Nat} (O : ObAt 1 M o) {a1 : Nat} (Pa1 : ObAt 8 M a1)  {Q : Mem → Prop} (H : Q M) : At G (d + 1) 16 22 [] [] M (qV Q) := by
  refine vcc ok16 10 [67, 86, 113, 167, 204, 225] ?_
  exact ⟨rfl, H⟩

theorem c_X1_fillRow_67 {G : GT} {d : Nat} {M : Mem} {o : Nat} (O : ObAt 1 M o) {a1 : Nat} (Pa1 : ObAt 8 M a1) {l2 : Int32} {l3 : Int32} {l4 : Int32} {l5 : Int32} {l6 : Int32} {l7 : Int32} {t0 : Int32} {Q : Mem → Prop} (H : CI G d 149 [.int l6] M (fun v6 M5 => (ObAt 1 M5 o ∧ ObAt 8 M5 a1) ∧ ((v6 = 0 → At G (d + 1) 16 86 [(0, .ref o), (1, .ref a1), (2, .int l2), (3, .int l3), (4, .int l4), (5, .int l5), (6, .int l6), (7, .int l7), (8, .int t0)] [.int (3 : Int32), .ref (a1 + 6)] M5 (qV Q)) ∧ (¬ v6 = 0 → At G (d + 1) 16 86 [(0, .ref o), (1, .ref a1), (2, .int l2), (3, .int l3), (4, .int l4), (5, .int l5), (6, .int l6), (7, .int l7), (8, .int t0)] [.int (2 : Int32), .ref (a1 + 6)] M5 (qV Q))))) : At G (d + 1) 16 67 [(0, .ref o), (1, .ref a1), (2, .int l2), (3, .int l3), (4, .int l4), (5, .int l5), (6, .int l6), (7, .int l7)] [.int t0] M (qV Q) := by
  refine vcc ok16 35 [22, 86, 113, 167, 204, 225] ?_
  refine And.intro Pa1.1 ?_
  refine Or.inl ⟨_, (ob8_r8 Pa1), ?_⟩
  refine And.intro (Nat.le_of_ble_eq_true rfl) ?_
  refine And.intro (Nat.le_of_ble_eq_true rfl) ?_
  refine Cl.mono H (fun r M5 h => ?_)
  obtain ⟨v6, rfl, H⟩ := h
  obtain ⟨⟨O, Pa1⟩, H⟩ := H
  refine And.intro (fun c => ?_) (fun c => ?_)
  · replace H := H.1 c
    exact H
  · replace H := H.2 c
    exact H

theorem c_X1_fillRow_86 {G : GT} {d : Nat} {M : Mem} {o : Nat} (O : ObAt 1 M o) {a1 : Nat} (Pa1 : ObAt 8 M a1) {l2 : Int32} {l3 : Int32} {l4 : Int32} {l5 : Int32} {l6 : Int32} {l7 : Int32} {l8 : Int32} {t0 : Int32} {t1 : Nat} {Q : Mem → Prop} (H : mK M t1 = 15 ∧ vp_in t0 (mA M t1) ∧ (vp_in l3 201 ∧ (vp_in l3 201 ∧ (vp_in l3 201 ∧ (∀ M7, M7 = seti M (o + 3) (l3).toNatClampNeg ((vi M (o + 3) (l3).toNatClampNeg) + l4) → At G (d + 1) 16 113 [(0, .ref o), (1, .ref a1), (2, .int l2), (4, .int l4), (5, .int l5), (6, .int l6), (7, .int l7), (8, .int l8), (9, .int (vi M t1 (t0).toNatClampNeg)), (10, .int (vi M (o + 3) (l3).toNatClampNeg)), (11, .int (l3 - (1 : Int32)))] [] M7 (qV Q)))))) : At G (d + 1) 16 86 [(0, .ref o), (1, .ref a1), (2, .int l2), (3, .int l3), (4, .int l4), (5, .int l5), (6, .int l6), (7, .int l7), (8, .int l8)] [.int t0, .ref t1] M (qV Q) := by
  refine vcc ok16 44 [22, 67, 113, 167, 204, 225] ?_
  refine Or.inl ⟨H.1, H.2.1, ?_⟩
  replace H := H.2.2
  refine And.intro O.1 ?_
  refine Or.inl ⟨_, (ob1_r5 O), ?_⟩
  refine Or.inl ⟨(ob1_k5 O), vp_cst (ob1_l5 O) H.1, ?_⟩
  replace H := H.2
  refine And.intro O.1 ?_
  refine Or.inl ⟨_, (ob1_r5 O), ?_⟩
  refine Or.inl ⟨(ob1_k5 O), vp_cst (ob1_l5 O) H.1, ?_⟩
  replace H := H.2
  refine ⟨(ob1_k5 O), vp_cst (ob1_l5 O) H.1, ?_⟩
  replace H := H.2
  replace H := H _ rfl
  exact At.keep [0, 1, 2, 4, 5, 6, 7, 8, 9, 10, 11] H

theorem c_X1_fillRow_113 {G : GT} {d : Nat} {M : Mem} {o : Nat} (O : ObAt 1 M o) {a1 : Nat} (Pa1 : ObAt 8 M a1) {l2 : Int32} {l4 : Int32} {l5 : Int32} {l6 : Int32} {l7 : Int32} {l8 : Int32} {l9 : Int32} {l10 : Int32} {l11 : Int32} {Q : Mem → Prop} (H : (l11 < 0 → Q M) ∧ (¬ l11 < 0 → vp_in l11 201 ∧ (vp_in (l11 + (1 : Int32)) 201 ∧ ((((vi M (o + 3) (l11).toNatClampNeg) + l4) ≤ ((vi M (o + 3) ((l11 + (1 : Int32))).toNatClampNeg) + l5) → At G (d + 1) 16 167 [(0, .ref o), (1, .ref a1), (2, .int l2), (4, .int l4), (5, .int l5), (6, .int l6), (7, .int l7), (8, .int l8), (9, .int l9), (10, .int l10), (11, .int l11), (12, .int ((vi M (o + 3) (l11).toNatClampNeg) + l4)), (13, .int (1 : Int32))] [] M (qV Q)) ∧ (¬ ((vi M (o + 3) (l11).toNatClampNeg) + l4) ≤ ((vi M (o + 3) ((l11 + (1 : Int32))).toNatClampNeg) + l5) → vp_in (l11 + (1 : Int32)) 201 ∧ (At G (d + 1) 16 167 [(0, .ref o), (1, .ref a1), (2, .int l2), (4, .int l4), (5, .int l5), (6, .int l6), (7, .int l7), (8, .int l8), (9, .int l9), (10, .int l10), (11, .int l11), (12, .int ((vi M (o + 3) ((l11 + (1 : Int32))).toNatClampNeg) + l5)), (13, .int (2 : Int32))] [] M (qV Q))))))) : At G (d + 1) 16 113 [(0, .ref o), (1, .ref a1), (2, .int l2), (4, .int l4), (5, .int l5), (6, .int l6), (7, .int l7), (8, .int l8), (9, .int l9), (10, .int l10), (11, .int l11)] [] M (qV Q) := by
  refine vcc ok16 63 [22, 67, 86, 167, 204, 225] ?_
  refine And.intro (fun c => ?_) (fun c => ?_)
  · replace H := H.1 c
    exact ⟨rfl, H⟩
  · replace H := H.2 c
    refine And.intro O.1 ?_
    refine Or.inl ⟨_, (ob1_r5 O), ?_⟩
    refine Or.inl ⟨(ob1_k5 O), vp_cst (ob1_l5 O) H.1, ?_⟩
    replace H := H.2
    refine And.intro O.1 ?_
    refine Or.inl ⟨_, (ob1_r5 O), ?_⟩
    refine Or.inl ⟨(ob1_k5 O), vp_cst (ob1_l5 O) H.1, ?_⟩
    replace H := H.2
    refine And.intro (fun c => ?_) (fun c => ?_)
    · replace H := H.1 c
      exact H
    · replace H := H.2 c
      refine And.intro O.1 ?_
      refine Or.inl ⟨_, (ob1_r5 O), ?_⟩
      refine Or.inl ⟨(ob1_k5 O), vp_cst (ob1_l5 O) H.1, ?_⟩
      replace H := H.2
      exact H

theorem c_X1_fillRow_167 {G : GT} {d : Nat} {M : Mem} {o : Nat} (O : ObAt 1 M o) {a1 : Nat} (Pa1 : ObAt 8 M a1) {l2 : Int32} {l4 : Int32} {l5 : Int32} {l6 : Int32} {l7 : Int32} {l8 : Int32} {l9 : Int32} {l10 : Int32} {l11 : Int32} {l12 : Int32} {l13 : Int32} {Q : Mem → Prop} (H : vp_in l11 200 ∧ ((¬ (vi M (a1 + 2) (l11).toNatClampNeg) = l7 → At G (d + 1) 16 204 [(0, .ref o), (1, .ref a1), (2, .int l2), (4, .int l4), (5, .int l5), (6, .int l6), (7, .int l7), (8, .int l8), (9, .int l9), (10, .int l10), (11, .int l11), (12, .int l12), (13, .int l13), (14, .int (vi M (a1 + 2) (l11).toNatClampNeg))] [] M (qV Q)) ∧ ((vi M (a1 + 2) (l11).toNatClampNeg) = l7 → (l12 ≤ (l10 + l9) → At G (d + 1) 16 204 [(0, .ref o), (1, .ref a1), (2, .int l2), (4, .int l4), (5, .int l5), (6, .int l6), (7, .int l7), (8, .int l8), (9, .int l9), (10, .int l10), (11, .int l11), (12, .int l12), (13, .int l13), (14, .int (vi M (a1 + 2) (l11).toNatClampNeg))] [] M (qV Q)) ∧ (¬ l12 ≤ (l10 + l9) → At G (d + 1) 16 204 [(0, .ref o), (1, .ref a1), (2, .int l2), (4, .int l4), (5, .int l5), (6, .int l6), (7, .int l7), (8, .int l8), (9, .int l9), (10, .int l10), (11, .int l11), (12, .int (l10 + l9)), (13, .int l8), (14, .int (vi M (a1 + 2) (l11).toNatClampNeg))] [] M (qV Q))))) : At G (d + 1) 16 167 [(0, .ref o), (1, .ref a1), (2, .int l2), (4, .int l4), (5, .int l5), (6, .int l6), (7, .int l7), (8, .int l8), (9, .int l9), (10, .int l10), (11, .int l11), (12, .int l12), (13, .int l13)] [] M (qV Q) := by
  refine vcc ok16 95 [22, 67, 86, 113, 204, 225] ?_
  refine And.intro Pa1.1 ?_
  refine Or.inl ⟨_, (ob8_r2 Pa1), ?_⟩
  refine Or.inl ⟨(ob8_k2 Pa1), vp_cst (ob8_l2 Pa1) H.1, ?_⟩
  replace H := H.2
  refine And.intro (fun c => ?_) (fun c => ?_)
  · replace H := H.1 c
    exact H
  · replace H := H.2 c
    refine And.intro (fun c => ?_) (fun c => ?_)
    · replace H := H.1 c
      exact H
    · replace H := H.2 c
      exact H

theorem c_X1_fillRow_204 {G : GT} {d : Nat} {M : Mem} {o : Nat} (O : ObAt 1 M o) {a1 : Nat} (Pa1 : ObAt 8 M a1) {l2 : Int32} {l4 : Int32} {l5 : Int32} {l6 : Int32} {l7 : Int32} {l8 : Int32} {l9 : Int32} {l10 : Int32} {l11 : Int32} {l12 : Int32} {l13 : Int32} {l14 : Int32} {Q : Mem → Prop} (H : (¬ l14 = l6 → At G (d + 1) 16 225 [(0, .ref o), (1, .ref a1), (2, .int l2), (4, .int l4), (5, .int l5), (6, .int l6), (7, .int l7), (8, .int l8), (9, .int l9), (11, .int l11), (12, .int l12), (13, .int l13)] [] M (qV Q)) ∧ (l14 = l6 → (l12 < l10 → At G (d + 1) 16 225 [(0, .ref o), (1, .ref a1), (2, .int l2), (4, .int l4), (5, .int l5), (6, .int l6), (7, .int l7), (8, .int l8), (9, .int l9), (11, .int l11), (12, .int l12), (13, .int l13)] [] M (qV Q)) ∧ (¬ l12 < l10 → At G (d + 1) 16 225 [(0, .ref o), (1, .ref a1), (2, .int l2), (4, .int l4), (5, .int l5), (6, .int l6), (7, .int l7), (8, .int l8), (9, .int l9), (11, .int l11), (12, .int l10), (13, .int (0 : Int32))] [] M (qV Q)))) : At G (d + 1) 16 204 [(0, .ref o), (1, .ref a1), (2, .int l2), (4, .int l4), (5, .int l5), (6, .int l6), (7, .int l7), (8, .int l8), (9, .int l9), (10, .int l10), (11, .int l11), (12, .int l12), (13, .int l13), (14, .int l14)] [] M (qV Q) := by
  refine vcc ok16 114 [22, 67, 86, 113, 167, 225] ?_
  refine And.intro (fun c => ?_) (fun c => ?_)
  · replace H := H.1 c
    exact At.keep [0, 1, 2, 4, 5, 6, 7, 8, 9, 11, 12, 13] H
  · replace H := H.2 c
    refine And.intro (fun c => ?_) (fun c => ?_)
    · replace H := H.1 c
      exact At.keep [0, 1, 2, 4, 5, 6, 7, 8, 9, 11, 12, 13] H
    · replace H := H.2 c
      exact At.keep [0, 1, 2, 4, 5, 6, 7, 8, 9, 11, 12, 13] H

theorem c_X1_fillRow_225 {G : GT} {d : Nat} {M : Mem} {o : Nat} (O : ObAt 1 M o) {a1 : Nat} (Pa1 : ObAt 8 M a1) {l2 : Int32} {l4 : Int32} {l5 : Int32} {l6 : Int32} {l7 : Int32} {l8 : Int32} {l9 : Int32} {l11 : Int32} {l12 : Int32} {l13 : Int32} {Q : Mem → Prop} (H : vp_in l11 201 ∧ (vp_in l11 201 ∧ (∀ M8, M8 = seti M (o + 3) (l11).toNatClampNeg l12 → CV G d 17 [.ref o, .int l2, .int l11, .int l13] M8 (fun M9 => (ObAt 1 M9 o ∧ ObAt 8 M9 a1) ∧ (At G (d + 1) 16 113 [(0, .ref o), (1, .ref a1), (2, .int l2), (4, .int l4), (5, .int l5), (6, .int l6), (7, .int l7), (8, .int l8), (9, .int l9), (10, .int (vi M (o + 3) (l11).toNatClampNeg)), (11, .int (l11 + (-1 : Int32)))] [] M9 (qV Q)))))) : At G (d + 1) 16 225 [(0, .ref o), (1, .ref a1), (2, .int l2), (4, .int l4), (5, .int l5), (6, .int l6), (7, .int l7), (8, .int l8), (9, .int l9), (11, .int l11), (12, .int l12), (13, .int l13)] [] M (qV Q) := by
  refine vcc ok16 124 [22, 67, 86, 113, 167, 204] ?_
  refine And.intro O.1 ?_
  refine Or.inl ⟨_, (ob1_r5 O), ?_⟩
  refine Or.inl ⟨(ob1_k5 O), vp_cst (ob1_l5 O) H.1, ?_⟩
  replace H := H.2
  refine And.intro O.1 ?_
  refine Or.inl ⟨_, (ob1_r5 O), ?_⟩
  refine ⟨(ob1_k5 O), vp_cst (ob1_l5 O) H.1, ?_⟩
  replace H := H.2
  replace H := H _ rfl
  refine And.intro (Nat.le_of_ble_eq_true rfl) ?_
  refine And.intro (Nat.le_of_ble_eq_true rfl) (And.intro O.1 ?_)
  refine Cl.mono H (fun r M9 h => ?_)
  obtain ⟨rfl, H⟩ := h
  obtain ⟨⟨O, Pa1⟩, H⟩ := H
  exact At.keep [0, 1, 2, 4, 5, 6, 7, 8, 9, 10, 11] H

theorem c_X1_keep {G : GT} {d : Nat} {M : Mem} {o : Nat} (O : ObAt 1 M o) {a1 : Int32} {a2 : Int32} {a3 : Int32} {Q : Mem → Prop} (H : ¬ (20 : Int32) = 0 ∧ ((((a1 * (10 : Int32)) + (a2 / (20 : Int32))) < 0 → Q M) ∧ (¬ ((a1 * (10 : Int32)) + (a2 / (20 : Int32))) < 0 → (14 ≤ mK M (o + 2) ∧ mK M (o + 2) ≤ 21) ∧ (((nI (mA M (o + 2))) ≤ ((a1 * (10 : Int32)) + (a2 / (20 : Int32))) → Q M) ∧ (¬ (nI (mA M (o + 2))) ≤ ((a1 * (10 : Int32)) + (a2 / (20 : Int32))) → ¬ (20 : Int32) = 0 ∧ (vp_in ((a1 * (10 : Int32)) + (a2 / (20 : Int32))) 2000 ∧ (vp_in ((a1 * (10 : Int32)) + (a2 / (20 : Int32))) 2000 ∧ (∀ M1, M1 = setl M (o + 2) (((a1 * (10 : Int32)) + (a2 / (20 : Int32)))).toNatClampNeg (((vl M (o + 2) (((a1 * (10 : Int32)) + (a2 / (20 : Int32)))).toNatClampNeg) &&& (((7 : Int64) <<< ((((3 : Int32) * (a2 - a2 / (20 : Int32) * (20 : Int32)))).toInt64 &&& 63)) ^^^ (-1 : Int64))) ||| ((a3).toInt64 <<< ((((3 : Int32) * (a2 - a2 / (20 : Int32) * (20 : Int32)))).toInt64 &&& 63))) → Q M1)))))))) : CV G (d + 1) 17 [.ref o, .int a1, .int a2, .int a3] M Q := by
  refine Cl.ofM (Nat.le_of_ble_eq_true rfl) rfl ?_
  refine vcc ok17 0 [] ?_
  refine And.intro H.1 ?_
  replace H := H.2
  refine And.intro (fun c => ?_) (fun c => ?_)
  · replace H := H.1 c
    exact ⟨rfl, H⟩
  · replace H := H.2 c
    refine And.intro O.1 ?_
    refine Or.inl ⟨_, (ob1_r4 O), ?_⟩
    refine Or.inl ⟨H.1, ?_⟩
    replace H := H.2
    refine And.intro (fun c => ?_) (fun c => ?_)
    · replace H := H.1 c
      exact ⟨rfl, H⟩
    · replace H := H.2 c
      refine And.intro H.1 ?_
      replace H := H.2
      refine And.intro O.1 ?_
      refine Or.inl ⟨_, (ob1_r4 O), ?_⟩
      refine And.intro O.1 ?_
      refine Or.inl ⟨_, (ob1_r4 O), ?_⟩
      refine ⟨(ob1_k4 O), vp_cst (ob1_l4 O) H.1, ?_⟩
      replace H := H.2
      refine ⟨(ob1_k4 O), vp_cst (ob1_l4 O) H.1, ?_⟩
      replace H := H.2
      replace H := H _ rfl
      exact ⟨rfl, H⟩

theorem c_X1_kept {G : GT} {d : Nat} {M : Mem} {o : Nat} (O : ObAt 1 M o) {a1 : Int32} {a2 : Int32} {Q : Int32 → Mem → Prop} (H : ¬ (20 : Int32) = 0 ∧ ((((a1 * (10 : Int32)) + (a2 / (20 : Int32))) < 0 → Q (1 : Int32) M) ∧ (¬ ((a1 * (10 : Int32)) + (a2 / (20 : Int32))) < 0 → (14 ≤ mK M (o + 2) ∧ mK M (o + 2) ≤ 21) ∧ ((((a1 * (10 : Int32)) + (a2 / (20 : Int32))) < (nI (mA M (o + 2))) → vp_in ((a1 * (10 : Int32)) + (a2 / (20 : Int32))) 2000 ∧ (¬ (20 : Int32) = 0 ∧ (Q ((((((vl M (o + 2) (((a1 * (10 : Int32)) + (a2 / (20 : Int32)))).toNatClampNeg)).toUInt64 >>> ((((3 : Int32) * (a2 - a2 / (20 : Int32) * (20 : Int32)))).toInt64.toUInt64 &&& Int64.toUInt64 63)).toInt64) &&& (7 : Int64))).toInt32 M))) ∧ (¬ ((a1 * (10 : Int32)) + (a2 / (20 : Int32))) < (nI (mA M (o + 2))) → Q (1 : Int32) M))))) : CI G (d + 1) 18 [.ref o, .int a1, .int a2] M Q := by
  refine Cl.ofM (Nat.le_of_ble_eq_true rfl) rfl ?_
  refine vcc ok18 0 [] ?_
  refine And.intro H.1 ?_
  replace H := H.2
  refine And.intro (fun c => ?_) (fun c => ?_)
  · replace H := H.1 c
    exact ⟨fun h => absurd h (by decide), _, rfl, H⟩
  · replace H := H.2 c
    refine And.intro O.1 ?_
    refine Or.inl ⟨_, (ob1_r4 O), ?_⟩
    refine Or.inl ⟨H.1, ?_⟩
    replace H := H.2
    refine And.intro (fun c => ?_) (fun c => ?_)
    · replace H := H.1 c
      refine And.intro O.1 ?_
      refine Or.inl ⟨_, (ob1_r4 O), ?_⟩
      refine ⟨(ob1_k4 O), vp_cst (ob1_l4 O) H.1, ?_⟩
      replace H := H.2
      refine And.intro H.1 ?_
      replace H := H.2
      exact ⟨fun h => absurd h (by decide), _, rfl, H⟩
    · replace H := H.2 c
      exact ⟨fun h => absurd h (by decide), _, rfl, H⟩

theorem c_X1_walk {G : GT} {d : Nat} {M : Mem} {o : Nat} (O : ObAt 1 M o) {a1 : Int32} {a2 : Int32} {Q : Mem → Prop} (H : ∀ M1, M1 = seti M o 2 (0 : Int32) → At G (d + 1) 19 13 [(0, .ref o), (1, .int a1), (2, .int a2), (3, .int (0 : Int32)), (4, .int (0 : Int32)), (5, .int (0 : Int32))] [] M1 (qV Q)) : CV G (d + 1) 19 [.ref o, .int a1, .int a2] M Q := by
  refine Cl.ofM (Nat.le_of_ble_eq_true rfl) rfl ?_
  refine vcc ok19 0 [13, 32, 58, 88, 97, 103] ?_
  refine And.intro O.1 ?_
  refine And.intro (Or.inl rfl) (And.intro (fun h => absurd h (by decide)) ?_)
  replace H := H _ rfl
  exact H

theorem c_X1_walk_13 {G : GT} {d : Nat} {M : Mem} {o : Nat} (O : ObAt 1 M o) {l1 : Int32} {l2 : Int32} {l3 : Int32} {l4 : Int32} {l5 : Int32} {Q : Mem → Prop} (H : ((400 : Int32) ≤ l5 → At G (d + 1) 19 103 [] [] M (qV Q)) ∧ (¬ (400 : Int32) ≤ l5 → (l3 < l1 → At G (d + 1) 19 32 [(0, .ref o), (1, .int l1), (2, .int l2), (3, .int l3), (4, .int l4), (5, .int l5)] [] M (qV Q)) ∧ (¬ l3 < l1 → (l2 ≤ l4 → At G (d + 1) 19 103 [] [] M (qV Q)) ∧ (¬ l2 ≤ l4 → At G (d + 1) 19 32 [(0, .ref o), (1, .int l1), (2, .int l2), (3, .int l3), (4, .int l4), (5, .int l5)] [] M (qV Q))))) : At G (d + 1) 19 13 [(0, .ref o), (1, .int l1), (2, .int l2), (3, .int l3), (4, .int l4), (5, .int l5)] [] M (qV Q) := by
  refine vcc ok19 9 [32, 58, 88, 97, 103] ?_
  refine And.intro (fun c => ?_) (fun c => ?_)
  · replace H := H.1 c
    exact At.keep [] H
  · replace H := H.2 c
    refine And.intro (fun c => ?_) (fun c => ?_)
    · replace H := H.1 c
      exact H
    · replace H := H.2 c
      refine And.intro (fun c => ?_) (fun c => ?_)
      · replace H := H.1 c
        exact At.keep [] H
      · replace H := H.2 c
        exact H

theorem c_X1_walk_32 {G : GT} {d : Nat} {M : Mem} {o : Nat} (O : ObAt 1 M o) {l1 : Int32} {l2 : Int32} {l3 : Int32} {l4 : Int32} {l5 : Int32} {Q : Mem → Prop} (H : (l3 < l1 → (l4 < l2 → CI G d 18 [.ref o, .int l3, .int l4] M (fun v3 M2 => ObAt 1 M2 o ∧ (At G (d + 1) 19 58 [(0, .ref o), (1, .int l1), (2, .int l2), (3, .int l3), (4, .int l4), (5, .int l5)] [.int v3] M2 (qV Q)))) ∧ (¬ l4 < l2 → At G (d + 1) 19 58 [(0, .ref o), (1, .int l1), (2, .int l2), (3, .int l3), (4, .int l4), (5, .int l5)] [.int (1 : Int32)] M (qV Q))) ∧ (¬ l3 < l1 → At G (d + 1) 19 58 [(0, .ref o), (1, .int l1), (2, .int l2), (3, .int l3), (4, .int l4), (5, .int l5)] [.int (2 : Int32)] M (qV Q))) : At G (d + 1) 19 32 [(0, .ref o), (1, .int l1), (2, .int l2), (3, .int l3), (4, .int l4), (5, .int l5)] [] M (qV Q) := by
  refine vcc ok19 18 [13, 58, 88, 97, 103] ?_
  refine And.intro (fun c => ?_) (fun c => ?_)
  · replace H := H.1 c
    refine And.intro (fun c => ?_) (fun c => ?_)
    · replace H := H.1 c
      refine And.intro (Nat.le_of_ble_eq_true rfl) ?_
      refine And.intro (Nat.le_of_ble_eq_true rfl) (And.intro O.1 ?_)
      refine Cl.mono H (fun r M2 h => ?_)
      obtain ⟨v3, rfl, H⟩ := h
      obtain ⟨O, H⟩ := H
      exact H
    · replace H := H.2 c
      exact H
  · replace H := H.2 c
    exact H

theorem c_X1_walk_58 {G : GT} {d : Nat} {M : Mem} {o : Nat} (O : ObAt 1 M o) {l1 : Int32} {l2 : Int32} {l3 : Int32} {l4 : Int32} {l5 : Int32} {t0 : Int32} {Q : Mem → Prop} (H : vp_in l5 400 ∧ (∀ M4, M4 = seti M (o + 1) (l5).toNatClampNeg t0 → ∀ M5, M5 = seti M4 o 2 ((vi M4 o 2) + (1 : Int32)) → (t0 = (2 : Int32) → At G (d + 1) 19 88 [(0, .ref o), (1, .int l1), (2, .int l2), (3, .int l3), (4, .int l4), (5, .int l5), (6, .int t0)] [] M5 (qV Q)) ∧ (¬ t0 = (2 : Int32) → At G (d + 1) 19 88 [(0, .ref o), (1, .int l1), (2, .int l2), (3, .int (l3 + (1 : Int32))), (4, .int l4), (5, .int l5), (6, .int t0)] [] M5 (qV Q)))) : At G (d + 1) 19 58 [(0, .ref o), (1, .int l1), (2, .int l2), (3, .int l3), (4, .int l4), (5, .int l5)] [.int t0] M (qV Q) := by
  refine vcc ok19 32 [13, 32, 88, 97, 103] ?_
  refine And.intro O.1 ?_
  refine Or.inl ⟨_, (ob1_r3 O), ?_⟩
  refine ⟨(ob1_k3 O), vp_cst (ob1_l3 O) H.1, ?_⟩
  replace H := H.2
  replace H := H _ rfl
  refine And.intro O.1 ?_
  refine And.intro O.1 ?_
  refine And.intro (Or.inl rfl) (And.intro (fun h => absurd h (by decide)) ?_)
  replace H := H _ rfl
  refine And.intro (fun c => ?_) (fun c => ?_)
  · replace H := H.1 c
    exact H
  · replace H := H.2 c
    exact H

theorem c_X1_walk_88 {G : GT} {d : Nat} {M : Mem} {o : Nat} (O : ObAt 1 M o) {l1 : Int32} {l2 : Int32} {l3 : Int32} {l4 : Int32} {l5 : Int32} {l6 : Int32} {Q : Mem → Prop} (H : (l6 = (1 : Int32) → At G (d + 1) 19 97 [(0, .ref o), (1, .int l1), (2, .int l2), (3, .int l3), (4, .int l4), (5, .int l5)] [] M (qV Q)) ∧ (¬ l6 = (1 : Int32) → At G (d + 1) 19 97 [(0, .ref o), (1, .int l1), (2, .int l2), (3, .int l3), (4, .int (l4 + (1 : Int32))), (5, .int l5)] [] M (qV Q))) : At G (d + 1) 19 88 [(0, .ref o), (1, .int l1), (2, .int l2), (3, .int l3), (4, .int l4), (5, .int l5), (6, .int l6)] [] M (qV Q) := by
  refine vcc ok19 48 [13, 32, 58, 97, 103] ?_
  refine And.intro (fun c => ?_) (fun c => ?_)
  · replace H := H.1 c
    exact At.keep [0, 1, 2, 3, 4, 5] H
  · replace H := H.2 c
    exact At.keep [0, 1, 2, 3, 4, 5] H

theorem c_X1_walk_97 {G : GT} {d : Nat} {M : Mem} {o : Nat} (O : ObAt 1 M o) {l1 : Int32} {l2 : Int32} {l3 : Int32} {l4 : Int32} {l5 : Int32} {Q : Mem → Prop} (H : At G (d + 1) 19 13 [(0, .ref o), (1, .int l1), (2, .int l2), (3, .int l3), (4, .int l4), (5, .int (l5 + (1 : Int32)))] [] M (qV Q)) : At G (d + 1) 19 97 [(0, .ref o), (1, .int l1), (2, .int l2), (3, .int l3), (4, .int l4), (5, .int l5)] [] M (qV Q) := by
  refine vcc ok19 52 [13, 32, 58, 88, 103] ?_
  exact H

theorem c_X1_walk_103 {G : GT} {d : Nat} {M : Mem} {o : Nat} (O : ObAt 1 M o)  {Q : Mem → Prop} (H : Q M) : At G (d + 1) 19 103 [] [] M (qV Q) := by
  refine vcc ok19 54 [13, 32, 58, 88, 97] ?_
  exact ⟨rfl, H⟩
