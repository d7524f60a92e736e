/-! THE CLASS, block by block: by program (wip/tools/clsall.py) -/
set_option maxRecDepth 8000 in
set_option maxHeartbeats 8000000 in
theorem c_X7_search {G : GT} {d : Nat} {M : Mem} {o : Nat} (O : ObAt 7 M o) {a1 : Nat} (Pa1 : ObAt 8 M a1) {a2 : Int32} {Q : Mem → Prop} (H : ∀ M1, M1 = seti M o 1 a2 → ∀ M2, M2 = seti M1 o 2 (-2 : Int32) → ∀ M3, M3 = seti M2 o 3 (-2 : Int32) → ∀ M4, M4 = seti M3 o 4 (-2 : Int32) → ((24 : Int32) < (vi M4 a1 1) → Q M4) ∧ (¬ (24 : Int32) < (vi M4 a1 1) → (¬ (vi M4 o 1) = 0 → CV G d 68 [.ref o, .ref a1] M4 (fun M5 => (ObAt 7 M5 o ∧ ObAt 8 M5 a1) ∧ (At G (d + 1) 67 50 [(0, .ref o), (1, .ref a1), (3, .int (vi M4 a1 1)), (4, .int (0 : Int32))] [] M5 (qV Q)))) ∧ ((vi M4 o 1) = 0 → Q M4))) : CV G (d + 1) 67 [.ref o, .ref a1, .int a2] M Q := by
  refine Cl.ofM (Nat.le_of_ble_eq_true rfl) rfl ?_
  refine vcc ok67 0 [50, 92, 104, 132] ?_
  refine And.intro O.1 ?_
  refine And.intro (Or.inl rfl) (And.intro (fun h => absurd h (by decide)) ?_)
  replace H := H _ rfl
  refine And.intro O.1 ?_
  refine And.intro (Or.inl rfl) (And.intro (fun h => absurd h (by decide)) ?_)
  replace H := H _ rfl
  refine And.intro O.1 ?_
  refine And.intro (Or.inl rfl) (And.intro (fun h => absurd h (by decide)) ?_)
  replace H := H _ rfl
  refine And.intro O.1 ?_
  refine And.intro (Or.inl rfl) (And.intro (fun h => absurd h (by decide)) ?_)
  replace H := H _ rfl
  refine And.intro Pa1.1 ?_
  refine And.intro (fun c => ?_) (fun c => ?_)
  · replace H := H.1 c
    exact ⟨rfl, H⟩
  · replace H := H.2 c
    refine And.intro O.1 ?_
    refine And.intro (fun c => ?_) (fun c => ?_)
    · replace H := H.1 c
      refine And.intro (Nat.le_of_ble_eq_true rfl) ?_
      refine And.intro (Nat.le_of_ble_eq_true rfl) (And.intro O.1 ?_)
      refine Cl.mono H (fun r M5 h => ?_)
      obtain ⟨rfl, H⟩ := h
      obtain ⟨⟨O, Pa1⟩, H⟩ := H
      exact At.keep [0, 1, 3, 4] H
    · replace H := H.2 c
      exact ⟨rfl, H⟩

set_option maxRecDepth 8000 in
set_option maxHeartbeats 8000000 in
theorem c_X7_search_50 {G : GT} {d : Nat} {M : Mem} {o : Nat} (O : ObAt 7 M o) {a1 : Nat} (Pa1 : ObAt 8 M a1) {l3 : Int32} {l4 : Int32} {Q : Mem → Prop} (H : ((vi M a1 3) < l4 → At G (d + 1) 67 92 [(0, .ref o), (1, .ref a1), (3, .int l3), (4, .int (0 : Int32))] [] M (qV Q)) ∧ (¬ (vi M a1 3) < l4 → ((201 : Int32) ≤ l4 → At G (d + 1) 67 92 [(0, .ref o), (1, .ref a1), (3, .int l3), (4, .int (0 : Int32))] [] M (qV Q)) ∧ (¬ (201 : Int32) ≤ l4 → vp_in (0 : Int32) 7 ∧ (vp_in l4 201 ∧ (∀ M6, M6 = seti M (o + 2) (l4).toNatClampNeg (l4 * (vi M (a1 + 6) ((0 : Int32)).toNatClampNeg)) → At G (d + 1) 67 50 [(0, .ref o), (1, .ref a1), (3, .int l3), (4, .int (l4 + (1 : Int32)))] [] M6 (qV Q)))))) : At G (d + 1) 67 50 [(0, .ref o), (1, .ref a1), (3, .int l3), (4, .int l4)] [] M (qV Q) := by
  refine vcc ok67 27 [92, 104, 132] ?_
  refine And.intro Pa1.1 ?_
  refine And.intro (fun c => ?_) (fun c => ?_)
  · replace H := H.1 c
    exact H
  · replace H := H.2 c
    refine And.intro (fun c => ?_) (fun c => ?_)
    · replace H := H.1 c
      exact H
    · replace H := H.2 c
      refine And.intro O.1 ?_
      refine Or.inl ⟨_, (ob7_r6 O), ?_⟩
      refine And.intro Pa1.1 ?_
      refine Or.inl ⟨_, (ob8_r8 Pa1), ?_⟩
      refine Or.inl ⟨(ob8_k8 Pa1), vp_cst (ob8_l8 Pa1) H.1, ?_⟩
      replace H := H.2
      refine ⟨(ob7_k6 O), vp_cst (ob7_l6 O) H.1, ?_⟩
      replace H := H.2
      replace H := H _ rfl
      exact H

set_option maxRecDepth 8000 in
set_option maxHeartbeats 8000000 in
theorem c_X7_search_92 {G : GT} {d : Nat} {M : Mem} {o : Nat} (O : ObAt 7 M o) {a1 : Nat} (Pa1 : ObAt 8 M a1) {l3 : Int32} {l4 : Int32} {Q : Mem → Prop} (H : (l3 ≤ l4 → Q M) ∧ (¬ l3 ≤ l4 → At G (d + 1) 67 104 [(0, .ref o), (1, .ref a1), (3, .int l3), (4, .int l4), (5, .int (l4 + (1 : Int32)))] [] M (qV Q))) : At G (d + 1) 67 92 [(0, .ref o), (1, .ref a1), (3, .int l3), (4, .int l4)] [] M (qV Q) := by
  refine vcc ok67 48 [50, 104, 132] ?_
  refine And.intro (fun c => ?_) (fun c => ?_)
  · replace H := H.1 c
    exact ⟨rfl, H⟩
  · replace H := H.2 c
    exact H

set_option maxRecDepth 8000 in
set_option maxHeartbeats 8000000 in
theorem c_X7_search_104 {G : GT} {d : Nat} {M : Mem} {o : Nat} (O : ObAt 7 M o) {a1 : Nat} (Pa1 : ObAt 8 M a1) {l3 : Int32} {l4 : Int32} {l5 : Int32} {Q : Mem → Prop} (H : (l3 ≤ l5 → CV G d 69 [.ref o, .ref a1, .ref (o + 2), .int l4] M (fun M7 => (ObAt 7 M7 o ∧ ObAt 8 M7 a1) ∧ (At G (d + 1) 67 92 [(0, .ref o), (1, .ref a1), (3, .int l3), (4, .int (l4 + (1 : Int32)))] [] M7 (qV Q)))) ∧ (¬ l3 ≤ l5 → ∀ M8, M8 = cpi M (o + 2) ((0 : Int32)).toNatClampNeg (o + 3) ((0 : Int32)).toNatClampNeg ((201 : Int32)).toNatClampNeg → At G (d + 1) 67 132 [(0, .ref o), (1, .ref a1), (3, .int l3), (4, .int l4), (5, .int l5), (6, .int (l5 + (1 : Int32)))] [] M8 (qV Q))) : At G (d + 1) 67 104 [(0, .ref o), (1, .ref a1), (3, .int l3), (4, .int l4), (5, .int l5)] [] M (qV Q) := by
  refine vcc ok67 55 [50, 92, 132] ?_
  refine And.intro (fun c => ?_) (fun c => ?_)
  · replace H := H.1 c
    refine And.intro O.1 ?_
    refine Or.inl ⟨_, (ob7_r6 O), ?_⟩
    refine And.intro (Nat.le_of_ble_eq_true rfl) ?_
    refine And.intro (Nat.le_of_ble_eq_true rfl) (And.intro O.1 ?_)
    refine Cl.mono H (fun r M7 h => ?_)
    obtain ⟨rfl, H⟩ := h
    obtain ⟨⟨O, Pa1⟩, H⟩ := H
    exact At.keep [0, 1, 3, 4] H
  · replace H := H.2 c
    refine And.intro O.1 ?_
    refine Or.inl ⟨_, (ob7_r6 O), ?_⟩
    refine And.intro O.1 ?_
    refine Or.inl ⟨_, (ob7_r7 O), ?_⟩
    refine And.intro (Nat.le_of_ble_eq_true rfl) (And.intro (by decide +kernel) (And.intro (by decide +kernel) (And.intro (by decide +kernel) (And.intro (le_cst (ob7_l6 O) (by decide +kernel)) (And.intro (le_cst (ob7_l7 O) (by decide +kernel)) ?_)))))
    refine Or.inl (And.intro (ob7_k6 O) (And.intro (ob7_k7 O) ?_))
    replace H := H _ rfl
    exact H

set_option maxRecDepth 8000 in
set_option maxHeartbeats 8000000 in
theorem c_X7_search_132 {G : GT} {d : Nat} {M : Mem} {o : Nat} (O : ObAt 7 M o) {a1 : Nat} (Pa1 : ObAt 8 M a1) {l3 : Int32} {l4 : Int32} {l5 : Int32} {l6 : Int32} {Q : Mem → Prop} (H : (l3 < l6 → At G (d + 1) 67 104 [(0, .ref o), (1, .ref a1), (3, .int l3), (4, .int l4), (5, .int (l5 + (1 : Int32)))] [] M (qV Q)) ∧ (¬ l3 < l6 → CV G d 69 [.ref o, .ref a1, .ref (o + 3), .int (l6 - (1 : Int32))] M (fun M9 => (ObAt 7 M9 o ∧ ObAt 8 M9 a1) ∧ (CV G d 70 [.ref o, .ref a1, .int l4, .int l5, .int l6] M9 (fun M10 => (ObAt 7 M10 o ∧ ObAt 8 M10 a1) ∧ (At G (d + 1) 67 132 [(0, .ref o), (1, .ref a1), (3, .int l3), (4, .int l4), (5, .int l5), (6, .int (l6 + (1 : Int32)))] [] M10 (qV Q))))))) : At G (d + 1) 67 132 [(0, .ref o), (1, .ref a1), (3, .int l3), (4, .int l4), (5, .int l5), (6, .int l6)] [] M (qV Q) := by
  refine vcc ok67 70 [50, 92, 104] ?_
  refine And.intro (fun c => ?_) (fun c => ?_)
  · replace H := H.1 c
    exact At.keep [0, 1, 3, 4, 5] H
  · replace H := H.2 c
    refine And.intro O.1 ?_
    refine Or.inl ⟨_, (ob7_r7 O), ?_⟩
    refine And.intro (Nat.le_of_ble_eq_true rfl) ?_
    refine And.intro (Nat.le_of_ble_eq_true rfl) (And.intro O.1 ?_)
    refine Cl.mono H (fun r M9 h => ?_)
    obtain ⟨rfl, H⟩ := h
    obtain ⟨⟨O, Pa1⟩, H⟩ := H
    refine And.intro (Nat.le_of_ble_eq_true rfl) ?_
    refine And.intro (Nat.le_of_ble_eq_true rfl) (And.intro O.1 ?_)
    refine Cl.mono H (fun r M10 h => ?_)
    obtain ⟨rfl, H⟩ := h
    obtain ⟨⟨O, Pa1⟩, H⟩ := H
    exact H

set_option maxRecDepth 8000 in
set_option maxHeartbeats 8000000 in
theorem c_X7_fillBehind {G : GT} {d : Nat} {M : Mem} {o : Nat} (O : ObAt 7 M o) {a1 : Nat} (Pa1 : ObAt 8 M a1)  {Q : Mem → Prop} (H : At G (d + 1) 68 24 [(0, .ref o), (1, .ref a1), (2, .int (if (200 : Int32) < (vi M a1 3) then (200 : Int32) else (vi M a1 3))), (3, .int (if (24 : Int32) < (vi M a1 1) then (24 : Int32) else (vi M a1 1))), (4, .int (0 : Int32))] [] M (qV Q)) : CV G (d + 1) 68 [.ref o, .ref a1] M Q := by
  refine Cl.ofM (Nat.le_of_ble_eq_true rfl) rfl ?_
  refine vcc ok68 0 [24, 65, 152] ?_
  refine And.intro Pa1.1 ?_
  refine And.intro (Nat.le_of_ble_eq_true rfl) ?_
  refine And.intro Pa1.1 ?_
  refine And.intro (Nat.le_of_ble_eq_true rfl) ?_
  exact H

set_option maxRecDepth 8000 in
set_option maxHeartbeats 8000000 in
theorem c_X7_fillBehind_24 {G : GT} {d : Nat} {M : Mem} {o : Nat} (O : ObAt 7 M o) {a1 : Nat} (Pa1 : ObAt 8 M a1) {l2 : Int32} {l3 : Int32} {l4 : Int32} {Q : Mem → Prop} (H : (l2 < l4 → At G (d + 1) 68 65 [(0, .ref o), (1, .ref a1), (2, .int l2), (4, .int (l3 - (1 : Int32)))] [] M (qV Q)) ∧ (¬ l2 < l4 → vp_in (0 : Int32) 7 ∧ (vp_in ((l3 * (201 : Int32)) + l4) 5025 ∧ (∀ M1, M1 = seti M (o + 1) (((l3 * (201 : Int32)) + l4)).toNatClampNeg ((l2 - l4) * (vi M (a1 + 6) ((0 : Int32)).toNatClampNeg)) → At G (d + 1) 68 24 [(0, .ref o), (1, .ref a1), (2, .int l2), (3, .int l3), (4, .int (l4 + (1 : Int32)))] [] M1 (qV Q))))) : At G (d + 1) 68 24 [(0, .ref o), (1, .ref a1), (2, .int l2), (3, .int l3), (4, .int l4)] [] M (qV Q) := by
  refine vcc ok68 12 [65, 152] ?_
  refine And.intro (fun c => ?_) (fun c => ?_)
  · replace H := H.1 c
    exact At.keep [0, 1, 2, 4] H
  · replace H := H.2 c
    refine And.intro O.1 ?_
    refine Or.inl ⟨_, (ob7_r5 O), ?_⟩
    refine And.intro Pa1.1 ?_
    refine Or.inl ⟨_, (ob8_r8 Pa1), ?_⟩
    refine Or.inl ⟨(ob8_k8 Pa1), vp_cst (ob8_l8 Pa1) H.1, ?_⟩
    replace H := H.2
    refine ⟨(ob7_k5 O), vp_cst (ob7_l5 O) H.1, ?_⟩
    replace H := H.2
    replace H := H _ rfl
    exact H

set_option maxRecDepth 8000 in
set_option maxHeartbeats 8000000 in
theorem c_X7_fillBehind_65 {G : GT} {d : Nat} {M : Mem} {o : Nat} (O : ObAt 7 M o) {a1 : Nat} (Pa1 : ObAt 8 M a1) {l2 : Int32} {l4 : Int32} {Q : Mem → Prop} (H : (l4 < 0 → Q M) ∧ (¬ l4 < 0 → vp_in l4 200 ∧ (CI G d 152 [.int (vi M (a1 + 1) (l4).toNatClampNeg)] M (fun v3 M2 => (ObAt 7 M2 o ∧ ObAt 8 M2 a1) ∧ (CI G d 149 [.int (vi M (a1 + 1) (l4).toNatClampNeg)] M2 (fun v5 M4 => (ObAt 7 M4 o ∧ ObAt 8 M4 a1) ∧ ((v5 = 0 → vp_in (3 : Int32) 7 ∧ (vp_in (((l4 * (201 : Int32)) + (201 : Int32)) + l2) 5025 ∧ (vp_in (1 : Int32) 7 ∧ (vp_in ((l4 * (201 : Int32)) + l2) 5025 ∧ (∀ M6, M6 = seti M4 (o + 1) (((l4 * (201 : Int32)) + l2)).toNatClampNeg ((vi M4 (o + 1) ((((l4 * (201 : Int32)) + (201 : Int32)) + l2)).toNatClampNeg) + (vi M4 (a1 + 6) ((1 : Int32)).toNatClampNeg)) → At G (d + 1) 68 152 [(0, .ref o), (1, .ref a1), (2, .int l2), (4, .int l4), (5, .int (vi M (a1 + 1) (l4).toNatClampNeg)), (6, .int v3), (7, .int (vi M4 (a1 + 6) ((3 : Int32)).toNatClampNeg)), (8, .int (l4 * (201 : Int32))), (9, .int ((l4 * (201 : Int32)) + (201 : Int32))), (10, .int (l2 - (1 : Int32)))] [] M6 (qV Q)))))) ∧ (¬ v5 = 0 → vp_in (2 : Int32) 7 ∧ (vp_in (((l4 * (201 : Int32)) + (201 : Int32)) + l2) 5025 ∧ (vp_in (1 : Int32) 7 ∧ (vp_in ((l4 * (201 : Int32)) + l2) 5025 ∧ (∀ M7, M7 = seti M4 (o + 1) (((l4 * (201 : Int32)) + l2)).toNatClampNeg ((vi M4 (o + 1) ((((l4 * (201 : Int32)) + (201 : Int32)) + l2)).toNatClampNeg) + (vi M4 (a1 + 6) ((1 : Int32)).toNatClampNeg)) → At G (d + 1) 68 152 [(0, .ref o), (1, .ref a1), (2, .int l2), (4, .int l4), (5, .int (vi M (a1 + 1) (l4).toNatClampNeg)), (6, .int v3), (7, .int (vi M4 (a1 + 6) ((2 : Int32)).toNatClampNeg)), (8, .int (l4 * (201 : Int32))), (9, .int ((l4 * (201 : Int32)) + (201 : Int32))), (10, .int (l2 - (1 : Int32)))] [] M7 (qV Q))))))))))))) : At G (d + 1) 68 65 [(0, .ref o), (1, .ref a1), (2, .int l2), (4, .int l4)] [] M (qV Q) := by
  refine vcc ok68 37 [24, 152] ?_
  refine And.intro (fun c => ?_) (fun c => ?_)
  · replace H := H.1 c
    exact ⟨rfl, H⟩
  · replace H := H.2 c
    refine And.intro Pa1.1 ?_
    refine Or.inl ⟨_, (ob8_r0 Pa1), ?_⟩
    refine Or.inl ⟨(ob8_k0 Pa1), vp_cst (ob8_l0 Pa1) H.1, ?_⟩
    replace H := H.2
    refine And.intro (Nat.le_of_ble_eq_true rfl) ?_
    refine And.intro (Nat.le_of_ble_eq_true rfl) ?_
    refine Cl.mono H (fun r M2 h => ?_)
    obtain ⟨v3, rfl, H⟩ := h
    obtain ⟨⟨O, Pa1⟩, H⟩ := H
    refine And.intro Pa1.1 ?_
    refine Or.inl ⟨_, (ob8_r8 Pa1), ?_⟩
    refine And.intro (Nat.le_of_ble_eq_true rfl) ?_
    refine And.intro (Nat.le_of_ble_eq_true rfl) ?_
    refine Cl.mono H (fun r M4 h => ?_)
    obtain ⟨v5, rfl, H⟩ := h
    obtain ⟨⟨O, Pa1⟩, H⟩ := H
    refine And.intro (fun c => ?_) (fun c => ?_)
    · replace H := H.1 c
      refine Or.inl ⟨(ob8_k8 Pa1), vp_cst (ob8_l8 Pa1) H.1, ?_⟩
      replace H := H.2
      refine And.intro O.1 ?_
      refine Or.inl ⟨_, (ob7_r5 O), ?_⟩
      refine And.intro O.1 ?_
      refine Or.inl ⟨_, (ob7_r5 O), ?_⟩
      refine Or.inl ⟨(ob7_k5 O), vp_cst (ob7_l5 O) H.1, ?_⟩
      replace H := H.2
      refine And.intro Pa1.1 ?_
      refine Or.inl ⟨_, (ob8_r8 Pa1), ?_⟩
      refine Or.inl ⟨(ob8_k8 Pa1), vp_cst (ob8_l8 Pa1) H.1, ?_⟩
      replace H := H.2
      refine ⟨(ob7_k5 O), vp_cst (ob7_l5 O) H.1, ?_⟩
      replace H := H.2
      replace H := H _ rfl
      exact H
    · replace H := H.2 c
      refine Or.inl ⟨(ob8_k8 Pa1), vp_cst (ob8_l8 Pa1) H.1, ?_⟩
      replace H := H.2
      refine And.intro O.1 ?_
      refine Or.inl ⟨_, (ob7_r5 O), ?_⟩
      refine And.intro O.1 ?_
      refine Or.inl ⟨_, (ob7_r5 O), ?_⟩
      refine Or.inl ⟨(ob7_k5 O), vp_cst (ob7_l5 O) H.1, ?_⟩
      replace H := H.2
      refine And.intro Pa1.1 ?_
      refine Or.inl ⟨_, (ob8_r8 Pa1), ?_⟩
      refine Or.inl ⟨(ob8_k8 Pa1), vp_cst (ob8_l8 Pa1) H.1, ?_⟩
      replace H := H.2
      refine ⟨(ob7_k5 O), vp_cst (ob7_l5 O) H.1, ?_⟩
      replace H := H.2
      replace H := H _ rfl
      exact H

set_option maxRecDepth 8000 in
set_option maxHeartbeats 8000000 in
theorem c_X7_fillBehind_152 {G : GT} {d : Nat} {M : Mem} {o : Nat} (O : ObAt 7 M o) {a1 : Nat} (Pa1 : ObAt 8 M a1) {l2 : Int32} {l4 : Int32} {l5 : Int32} {l6 : Int32} {l7 : Int32} {l8 : Int32} {l9 : Int32} {l10 : Int32} {Q : Mem → Prop} (H : (l10 < 0 → At G (d + 1) 68 65 [(0, .ref o), (1, .ref a1), (2, .int l2), (4, .int (l4 + (-1 : Int32)))] [] M (qV Q)) ∧ (¬ l10 < 0 → vp_in (l9 + l10) 5025 ∧ (vp_in (1 : Int32) 7 ∧ (vp_in ((l8 + l10) + (1 : Int32)) 5025 ∧ (vp_in (0 : Int32) 7 ∧ (vp_in l10 200 ∧ ((¬ (vi M (a1 + 2) (l10).toNatClampNeg) = l5 → (¬ (vi M (a1 + 2) (l10).toNatClampNeg) = l6 → vp_in (l8 + l10) 5025 ∧ (∀ M8, M8 = seti M (o + 1) ((l8 + l10)).toNatClampNeg (if ((vi M (o + 1) (((l8 + l10) + (1 : Int32))).toNatClampNeg) + (vi M (a1 + 6) ((0 : Int32)).toNatClampNeg)) < ((vi M (o + 1) ((l9 + l10)).toNatClampNeg) + (vi M (a1 + 6) ((1 : Int32)).toNatClampNeg)) then ((vi M (o + 1) (((l8 + l10) + (1 : Int32))).toNatClampNeg) + (vi M (a1 + 6) ((0 : Int32)).toNatClampNeg)) else ((vi M (o + 1) ((l9 + l10)).toNatClampNeg) + (vi M (a1 + 6) ((1 : Int32)).toNatClampNeg))) → At G (d + 1) 68 152 [(0, .ref o), (1, .ref a1), (2, .int l2), (4, .int l4), (5, .int l5), (6, .int l6), (7, .int l7), (8, .int l8), (9, .int l9), (10, .int (l10 + (-1 : Int32)))] [] M8 (qV Q))) ∧ ((vi M (a1 + 2) (l10).toNatClampNeg) = l6 → vp_in ((l9 + l10) + (1 : Int32)) 5025 ∧ (vp_in (l8 + l10) 5025 ∧ (∀ M9, M9 = seti M (o + 1) ((l8 + l10)).toNatClampNeg (if ((vi M (o + 1) (((l9 + l10) + (1 : Int32))).toNatClampNeg) + l7) < (if ((vi M (o + 1) (((l8 + l10) + (1 : Int32))).toNatClampNeg) + (vi M (a1 + 6) ((0 : Int32)).toNatClampNeg)) < ((vi M (o + 1) ((l9 + l10)).toNatClampNeg) + (vi M (a1 + 6) ((1 : Int32)).toNatClampNeg)) then ((vi M (o + 1) (((l8 + l10) + (1 : Int32))).toNatClampNeg) + (vi M (a1 + 6) ((0 : Int32)).toNatClampNeg)) else ((vi M (o + 1) ((l9 + l10)).toNatClampNeg) + (vi M (a1 + 6) ((1 : Int32)).toNatClampNeg))) then ((vi M (o + 1) (((l9 + l10) + (1 : Int32))).toNatClampNeg) + l7) else (if ((vi M (o + 1) (((l8 + l10) + (1 : Int32))).toNatClampNeg) + (vi M (a1 + 6) ((0 : Int32)).toNatClampNeg)) < ((vi M (o + 1) ((l9 + l10)).toNatClampNeg) + (vi M (a1 + 6) ((1 : Int32)).toNatClampNeg)) then ((vi M (o + 1) (((l8 + l10) + (1 : Int32))).toNatClampNeg) + (vi M (a1 + 6) ((0 : Int32)).toNatClampNeg)) else ((vi M (o + 1) ((l9 + l10)).toNatClampNeg) + (vi M (a1 + 6) ((1 : Int32)).toNatClampNeg)))) → At G (d + 1) 68 152 [(0, .ref o), (1, .ref a1), (2, .int l2), (4, .int l4), (5, .int l5), (6, .int l6), (7, .int l7), (8, .int l8), (9, .int l9), (10, .int (l10 + (-1 : Int32)))] [] M9 (qV Q))))) ∧ ((vi M (a1 + 2) (l10).toNatClampNeg) = l5 → vp_in ((l9 + l10) + (1 : Int32)) 5025 ∧ (vp_in (l8 + l10) 5025 ∧ (∀ M10, M10 = seti M (o + 1) ((l8 + l10)).toNatClampNeg (if (vi M (o + 1) (((l9 + l10) + (1 : Int32))).toNatClampNeg) < (if ((vi M (o + 1) (((l8 + l10) + (1 : Int32))).toNatClampNeg) + (vi M (a1 + 6) ((0 : Int32)).toNatClampNeg)) < ((vi M (o + 1) ((l9 + l10)).toNatClampNeg) + (vi M (a1 + 6) ((1 : Int32)).toNatClampNeg)) then ((vi M (o + 1) (((l8 + l10) + (1 : Int32))).toNatClampNeg) + (vi M (a1 + 6) ((0 : Int32)).toNatClampNeg)) else ((vi M (o + 1) ((l9 + l10)).toNatClampNeg) + (vi M (a1 + 6) ((1 : Int32)).toNatClampNeg))) then (vi M (o + 1) (((l9 + l10) + (1 : Int32))).toNatClampNeg) else (if ((vi M (o + 1) (((l8 + l10) + (1 : Int32))).toNatClampNeg) + (vi M (a1 + 6) ((0 : Int32)).toNatClampNeg)) < ((vi M (o + 1) ((l9 + l10)).toNatClampNeg) + (vi M (a1 + 6) ((1 : Int32)).toNatClampNeg)) then ((vi M (o + 1) (((l8 + l10) + (1 : Int32))).toNatClampNeg) + (vi M (a1 + 6) ((0 : Int32)).toNatClampNeg)) else ((vi M (o + 1) ((l9 + l10)).toNatClampNeg) + (vi M (a1 + 6) ((1 : Int32)).toNatClampNeg)))) → At G (d + 1) 68 152 [(0, .ref o), (1, .ref a1), (2, .int l2), (4, .int l4), (5, .int l5), (6, .int l6), (7, .int l7), (8, .int l8), (9, .int l9), (10, .int (l10 + (-1 : Int32)))] [] M10 (qV Q))))))))))) : At G (d + 1) 68 152 [(0, .ref o), (1, .ref a1), (2, .int l2), (4, .int l4), (5, .int l5), (6, .int l6), (7, .int l7), (8, .int l8), (9, .int l9), (10, .int l10)] [] M (qV Q) := by
  refine vcc ok68 86 [24, 65] ?_
  refine And.intro (fun c => ?_) (fun c => ?_)
  · replace H := H.1 c
    exact At.keep [0, 1, 2, 4] H
  · replace H := H.2 c
    refine And.intro O.1 ?_
    refine Or.inl ⟨_, (ob7_r5 O), ?_⟩
    refine Or.inl ⟨(ob7_k5 O), vp_cst (ob7_l5 O) H.1, ?_⟩
    replace H := H.2
    refine And.intro Pa1.1 ?_
    refine Or.inl ⟨_, (ob8_r8 Pa1), ?_⟩
    refine Or.inl ⟨(ob8_k8 Pa1), vp_cst (ob8_l8 Pa1) H.1, ?_⟩
    replace H := H.2
    refine And.intro O.1 ?_
    refine Or.inl ⟨_, (ob7_r5 O), ?_⟩
    refine Or.inl ⟨(ob7_k5 O), vp_cst (ob7_l5 O) H.1, ?_⟩
    replace H := H.2
    refine And.intro Pa1.1 ?_
    refine Or.inl ⟨_, (ob8_r8 Pa1), ?_⟩
    refine Or.inl ⟨(ob8_k8 Pa1), vp_cst (ob8_l8 Pa1) H.1, ?_⟩
    replace H := H.2
    refine And.intro (Nat.le_of_ble_eq_true rfl) ?_
    refine And.intro Pa1.1 ?_
    refine Or.inl ⟨_, (ob8_r2 Pa1), ?_⟩
    refine Or.inl ⟨(ob8_k2 Pa1), vp_cst (ob8_l2 Pa1) H.1, ?_⟩
    replace H := H.2
    refine And.intro (fun c => ?_) (fun c => ?_)
    · replace H := H.1 c
      refine And.intro (fun c => ?_) (fun c => ?_)
      · replace H := H.1 c
        refine And.intro O.1 ?_
        refine Or.inl ⟨_, (ob7_r5 O), ?_⟩
        refine ⟨(ob7_k5 O), vp_cst (ob7_l5 O) H.1, ?_⟩
        replace H := H.2
        replace H := H _ rfl
        exact At.keep [0, 1, 2, 4, 5, 6, 7, 8, 9, 10] H
      · replace H := H.2 c
        refine And.intro O.1 ?_
        refine Or.inl ⟨_, (ob7_r5 O), ?_⟩
        refine Or.inl ⟨(ob7_k5 O), vp_cst (ob7_l5 O) H.1, ?_⟩
        replace H := H.2
        refine And.intro (Nat.le_of_ble_eq_true rfl) ?_
        refine And.intro O.1 ?_
        refine Or.inl ⟨_, (ob7_r5 O), ?_⟩
        refine ⟨(ob7_k5 O), vp_cst (ob7_l5 O) H.1, ?_⟩
        replace H := H.2
        replace H := H _ rfl
        exact At.keep [0, 1, 2, 4, 5, 6, 7, 8, 9, 10] H
    · replace H := H.2 c
      refine And.intro O.1 ?_
      refine Or.inl ⟨_, (ob7_r5 O), ?_⟩
      refine Or.inl ⟨(ob7_k5 O), vp_cst (ob7_l5 O) H.1, ?_⟩
      replace H := H.2
      refine And.intro (Nat.le_of_ble_eq_true rfl) ?_
      refine And.intro O.1 ?_
      refine Or.inl ⟨_, (ob7_r5 O), ?_⟩
      refine ⟨(ob7_k5 O), vp_cst (ob7_l5 O) H.1, ?_⟩
      replace H := H.2
      replace H := H _ rfl
      exact At.keep [0, 1, 2, 4, 5, 6, 7, 8, 9, 10] H

set_option maxRecDepth 8000 in
set_option maxHeartbeats 8000000 in
theorem c_X7_extend {G : GT} {d : Nat} {M : Mem} {o : Nat} (O : ObAt 7 M o) {a1 : Nat} (Pa1 : ObAt 8 M a1) {a2 : Nat} {a3 : Int32} {Q : Mem → Prop} (H : (a3 < 0 → Q M) ∧ (¬ a3 < 0 → ((200 : Int32) ≤ a3 → Q M) ∧ (¬ (200 : Int32) ≤ a3 → (14 ≤ mK M a2 ∧ mK M a2 ≤ 21) ∧ (((201 : Int32) ≤ (nI (mA M a2)) → At G (d + 1) 69 32 [(1, .ref a1), (2, .ref a2), (3, .int a3), (4, .int (if (200 : Int32) < (vi M a1 3) then (200 : Int32) else (vi M a1 3)))] [] M (qV Q)) ∧ (¬ (201 : Int32) ≤ (nI (mA M a2)) → Q M))))) : CV G (d + 1) 69 [.ref o, .ref a1, .ref a2, .int a3] M Q := by
  refine Cl.ofM (Nat.le_of_ble_eq_true rfl) rfl ?_
  refine vcc ok69 0 [32, 83, 99] ?_
  refine And.intro Pa1.1 ?_
  refine And.intro (Nat.le_of_ble_eq_true rfl) ?_
  refine And.intro (fun c => ?_) (fun c => ?_)
  · replace H := H.1 c
    exact ⟨rfl, H⟩
  · replace H := H.2 c
    refine And.intro (fun c => ?_) (fun c => ?_)
    · replace H := H.1 c
      exact ⟨rfl, H⟩
    · replace H := H.2 c
      refine Or.inl ⟨H.1, ?_⟩
      replace H := H.2
      refine And.intro (fun c => ?_) (fun c => ?_)
      · replace H := H.1 c
        exact At.keep [1, 2, 3, 4] H
      · replace H := H.2 c
        exact ⟨rfl, H⟩

set_option maxRecDepth 8000 in
set_option maxHeartbeats 8000000 in
theorem c_X7_extend_32 {G : GT} {d : Nat} {M : Mem} {o : Nat} (O : ObAt 7 M o) {a1 : Nat} (Pa1 : ObAt 8 M a1) {a2 : Nat} {l3 : Int32} {l4 : Int32} {Q : Mem → Prop} (H : vp_in (1 : Int32) 7 ∧ (vp_in (0 : Int32) 7 ∧ (vp_in l3 200 ∧ (CI G d 152 [.int (vi M (a1 + 1) (l3).toNatClampNeg)] M (fun v2 M1 => (ObAt 7 M1 o ∧ ObAt 8 M1 a1) ∧ (CI G d 149 [.int (vi M (a1 + 1) (l3).toNatClampNeg)] M1 (fun v4 M3 => (ObAt 7 M3 o ∧ ObAt 8 M3 a1) ∧ ((v4 = 0 → vp_in (3 : Int32) 7 ∧ (At G (d + 1) 69 83 [(1, .ref a1), (2, .ref a2), (4, .int l4), (5, .int (vi M (a1 + 6) ((1 : Int32)).toNatClampNeg)), (6, .int (vi M (a1 + 6) ((0 : Int32)).toNatClampNeg)), (7, .int (vi M (a1 + 1) (l3).toNatClampNeg)), (8, .int v2), (9, .int (vi M3 (a1 + 6) ((3 : Int32)).toNatClampNeg))] [] M3 (qV Q))) ∧ (¬ v4 = 0 → vp_in (2 : Int32) 7 ∧ (At G (d + 1) 69 83 [(1, .ref a1), (2, .ref a2), (4, .int l4), (5, .int (vi M (a1 + 6) ((1 : Int32)).toNatClampNeg)), (6, .int (vi M (a1 + 6) ((0 : Int32)).toNatClampNeg)), (7, .int (vi M (a1 + 1) (l3).toNatClampNeg)), (8, .int v2), (9, .int (vi M3 (a1 + 6) ((2 : Int32)).toNatClampNeg))] [] M3 (qV Q))))))))))) : At G (d + 1) 69 32 [(1, .ref a1), (2, .ref a2), (3, .int l3), (4, .int l4)] [] M (qV Q) := by
  refine vcc ok69 15 [83, 99] ?_
  refine And.intro Pa1.1 ?_
  refine Or.inl ⟨_, (ob8_r8 Pa1), ?_⟩
  refine Or.inl ⟨(ob8_k8 Pa1), vp_cst (ob8_l8 Pa1) H.1, ?_⟩
  replace H := H.2
  refine And.intro Pa1.1 ?_
  refine Or.inl ⟨_, (ob8_r8 Pa1), ?_⟩
  refine Or.inl ⟨(ob8_k8 Pa1), vp_cst (ob8_l8 Pa1) H.1, ?_⟩
  replace H := H.2
  refine And.intro Pa1.1 ?_
  refine Or.inl ⟨_, (ob8_r0 Pa1), ?_⟩
  refine Or.inl ⟨(ob8_k0 Pa1), vp_cst (ob8_l0 Pa1) H.1, ?_⟩
  replace H := H.2
  refine And.intro (Nat.le_of_ble_eq_true rfl) ?_
  refine And.intro (Nat.le_of_ble_eq_true rfl) ?_
  refine Cl.mono H (fun r M1 h => ?_)
  obtain ⟨v2, rfl, H⟩ := h
  obtain ⟨⟨O, Pa1⟩, H⟩ := H
  refine And.intro Pa1.1 ?_
  refine Or.inl ⟨_, (ob8_r8 Pa1), ?_⟩
  refine And.intro (Nat.le_of_ble_eq_true rfl) ?_
  refine And.intro (Nat.le_of_ble_eq_true rfl) ?_
  refine Cl.mono H (fun r M3 h => ?_)
  obtain ⟨v4, rfl, H⟩ := h
  obtain ⟨⟨O, Pa1⟩, H⟩ := H
  refine And.intro (fun c => ?_) (fun c => ?_)
  · replace H := H.1 c
    refine Or.inl ⟨(ob8_k8 Pa1), vp_cst (ob8_l8 Pa1) H.1, ?_⟩
    replace H := H.2
    exact At.keep [1, 2, 4, 5, 6, 7, 8, 9] H
  · replace H := H.2 c
    refine Or.inl ⟨(ob8_k8 Pa1), vp_cst (ob8_l8 Pa1) H.1, ?_⟩
    replace H := H.2
    exact At.keep [1, 2, 4, 5, 6, 7, 8, 9] H

set_option maxRecDepth 8000 in
set_option maxHeartbeats 8000000 in
theorem c_X7_extend_83 {G : GT} {d : Nat} {M : Mem} {o : Nat} (O : ObAt 7 M o) {a1 : Nat} (Pa1 : ObAt 8 M a1) {a2 : Nat} {l4 : Int32} {l5 : Int32} {l6 : Int32} {l7 : Int32} {l8 : Int32} {l9 : Int32} {Q : Mem → Prop} (H : mK M a2 = 15 ∧ vp_in (0 : Int32) (mA M a2) ∧ (mK M a2 = 15 ∧ vp_in (0 : Int32) (mA M a2) ∧ (mK M a2 = 15 ∧ vp_in (0 : Int32) (mA M a2) ∧ (∀ M5, M5 = seti M a2 ((0 : Int32)).toNatClampNeg ((vi M a2 ((0 : Int32)).toNatClampNeg) + l5) → At G (d + 1) 69 99 [(1, .ref a1), (2, .ref a2), (4, .int l4), (5, .int l5), (6, .int l6), (7, .int l7), (8, .int l8), (9, .int l9), (10, .int (vi M a2 ((0 : Int32)).toNatClampNeg)), (11, .int (1 : Int32))] [] M5 (qV Q))))) : At G (d + 1) 69 83 [(1, .ref a1), (2, .ref a2), (4, .int l4), (5, .int l5), (6, .int l6), (7, .int l7), (8, .int l8), (9, .int l9)] [] M (qV Q) := by
  refine vcc ok69 43 [32, 99] ?_
  refine Or.inl ⟨H.1, H.2.1, ?_⟩
  replace H := H.2.2
  refine Or.inl ⟨H.1, H.2.1, ?_⟩
  replace H := H.2.2
  refine ⟨H.1, H.2.1, ?_⟩
  replace H := H.2.2
  replace H := H _ rfl
  exact H

set_option maxRecDepth 8000 in
set_option maxHeartbeats 8000000 in
theorem c_X7_extend_99 {G : GT} {d : Nat} {M : Mem} {o : Nat} (O : ObAt 7 M o) {a1 : Nat} (Pa1 : ObAt 8 M a1) {a2 : Nat} {l4 : Int32} {l5 : Int32} {l6 : Int32} {l7 : Int32} {l8 : Int32} {l9 : Int32} {l10 : Int32} {l11 : Int32} {Q : Mem → Prop} (H : (l4 < l11 → Q M) ∧ (¬ l4 < l11 → mK M a2 = 15 ∧ vp_in l11 (mA M a2) ∧ (mK M a2 = 15 ∧ vp_in (l11 - (1 : Int32)) (mA M a2) ∧ (vp_in (l11 - (1 : Int32)) 200 ∧ ((¬ (vi M (a1 + 2) ((l11 - (1 : Int32))).toNatClampNeg) = l7 → (¬ (vi M (a1 + 2) ((l11 - (1 : Int32))).toNatClampNeg) = l8 → mK M a2 = 15 ∧ vp_in l11 (mA M a2) ∧ (mK M a2 = 15 ∧ vp_in l11 (mA M a2) ∧ (∀ M6, M6 = seti M a2 (l11).toNatClampNeg (if ((vi M a2 ((l11 - (1 : Int32))).toNatClampNeg) + l6) < ((vi M a2 (l11).toNatClampNeg) + l5) then ((vi M a2 ((l11 - (1 : Int32))).toNatClampNeg) + l6) else ((vi M a2 (l11).toNatClampNeg) + l5)) → At G (d + 1) 69 99 [(1, .ref a1), (2, .ref a2), (4, .int l4), (5, .int l5), (6, .int l6), (7, .int l7), (8, .int l8), (9, .int l9), (10, .int (vi M a2 (l11).toNatClampNeg)), (11, .int (l11 + (1 : Int32)))] [] M6 (qV Q)))) ∧ ((vi M (a1 + 2) ((l11 - (1 : Int32))).toNatClampNeg) = l8 → mK M a2 = 15 ∧ vp_in l11 (mA M a2) ∧ (mK M a2 = 15 ∧ vp_in l11 (mA M a2) ∧ (∀ M7, M7 = seti M a2 (l11).toNatClampNeg (if (l10 + l9) < (if ((vi M a2 ((l11 - (1 : Int32))).toNatClampNeg) + l6) < ((vi M a2 (l11).toNatClampNeg) + l5) then ((vi M a2 ((l11 - (1 : Int32))).toNatClampNeg) + l6) else ((vi M a2 (l11).toNatClampNeg) + l5)) then (l10 + l9) else (if ((vi M a2 ((l11 - (1 : Int32))).toNatClampNeg) + l6) < ((vi M a2 (l11).toNatClampNeg) + l5) then ((vi M a2 ((l11 - (1 : Int32))).toNatClampNeg) + l6) else ((vi M a2 (l11).toNatClampNeg) + l5))) → At G (d + 1) 69 99 [(1, .ref a1), (2, .ref a2), (4, .int l4), (5, .int l5), (6, .int l6), (7, .int l7), (8, .int l8), (9, .int l9), (10, .int (vi M a2 (l11).toNatClampNeg)), (11, .int (l11 + (1 : Int32)))] [] M7 (qV Q))))) ∧ ((vi M (a1 + 2) ((l11 - (1 : Int32))).toNatClampNeg) = l7 → mK M a2 = 15 ∧ vp_in l11 (mA M a2) ∧ (mK M a2 = 15 ∧ vp_in l11 (mA M a2) ∧ (∀ M8, M8 = seti M a2 (l11).toNatClampNeg (if l10 < (if ((vi M a2 ((l11 - (1 : Int32))).toNatClampNeg) + l6) < ((vi M a2 (l11).toNatClampNeg) + l5) then ((vi M a2 ((l11 - (1 : Int32))).toNatClampNeg) + l6) else ((vi M a2 (l11).toNatClampNeg) + l5)) then l10 else (if ((vi M a2 ((l11 - (1 : Int32))).toNatClampNeg) + l6) < ((vi M a2 (l11).toNatClampNeg) + l5) then ((vi M a2 ((l11 - (1 : Int32))).toNatClampNeg) + l6) else ((vi M a2 (l11).toNatClampNeg) + l5))) → At G (d + 1) 69 99 [(1, .ref a1), (2, .ref a2), (4, .int l4), (5, .int l5), (6, .int l6), (7, .int l7), (8, .int l8), (9, .int l9), (10, .int (vi M a2 (l11).toNatClampNeg)), (11, .int (l11 + (1 : Int32)))] [] M8 (qV Q))))))))) : At G (d + 1) 69 99 [(1, .ref a1), (2, .ref a2), (4, .int l4), (5, .int l5), (6, .int l6), (7, .int l7), (8, .int l8), (9, .int l9), (10, .int l10), (11, .int l11)] [] M (qV Q) := by
  refine vcc ok69 56 [32, 83] ?_
  refine And.intro (fun c => ?_) (fun c => ?_)
  · replace H := H.1 c
    exact ⟨rfl, H⟩
  · replace H := H.2 c
    refine Or.inl ⟨H.1, H.2.1, ?_⟩
    replace H := H.2.2
    refine Or.inl ⟨H.1, H.2.1, ?_⟩
    replace H := H.2.2
    refine And.intro (Nat.le_of_ble_eq_true rfl) ?_
    refine And.intro Pa1.1 ?_
    refine Or.inl ⟨_, (ob8_r2 Pa1), ?_⟩
    refine Or.inl ⟨(ob8_k2 Pa1), vp_cst (ob8_l2 Pa1) H.1, ?_⟩
    replace H := H.2
    refine And.intro (fun c => ?_) (fun c => ?_)
    · replace H := H.1 c
      refine And.intro (fun c => ?_) (fun c => ?_)
      · replace H := H.1 c
        refine Or.inl ⟨H.1, H.2.1, ?_⟩
        replace H := H.2.2
        refine ⟨H.1, H.2.1, ?_⟩
        replace H := H.2.2
        replace H := H _ rfl
        exact At.keep [1, 2, 4, 5, 6, 7, 8, 9, 10, 11] H
      · replace H := H.2 c
        refine And.intro (Nat.le_of_ble_eq_true rfl) ?_
        refine Or.inl ⟨H.1, H.2.1, ?_⟩
        replace H := H.2.2
        refine ⟨H.1, H.2.1, ?_⟩
        replace H := H.2.2
        replace H := H _ rfl
        exact At.keep [1, 2, 4, 5, 6, 7, 8, 9, 10, 11] H
    · replace H := H.2 c
      refine And.intro (Nat.le_of_ble_eq_true rfl) ?_
      refine Or.inl ⟨H.1, H.2.1, ?_⟩
      replace H := H.2.2
      refine ⟨H.1, H.2.1, ?_⟩
      replace H := H.2.2
      replace H := H _ rfl
      exact At.keep [1, 2, 4, 5, 6, 7, 8, 9, 10, 11] H

set_option maxRecDepth 8000 in
set_option maxHeartbeats 8000000 in
theorem c_X7_tryMoves {G : GT} {d : Nat} {M : Mem} {o : Nat} (O : ObAt 7 M o) {a1 : Nat} (Pa1 : ObAt 8 M a1) {a2 : Int32} {a3 : Int32} {a4 : Int32} {Q : Mem → Prop} (H : vp_in (4 : Int32) 7 ∧ ((a4 < 0 → Q M) ∧ (¬ a4 < 0 → ((24 : Int32) < a4 → Q M) ∧ (¬ (24 : Int32) < a4 → (((vi M (a1 + 6) ((4 : Int32)).toNatClampNeg) * (if (a4 - a3) < (a3 - a2) then (a4 - a3) else (a3 - a2))) ≤ (vi M o 1) → ∀ M1, M1 = cpi M (o + 3) ((0 : Int32)).toNatClampNeg (o + 4) ((0 : Int32)).toNatClampNeg ((201 : Int32)).toNatClampNeg → At G (d + 1) 70 60 [(0, .ref o), (1, .ref a1), (2, .int a2), (3, .int a3), (4, .int a4), (5, .int (vi M (a1 + 6) ((4 : Int32)).toNatClampNeg)), (6, .int a2)] [] M1 (qV Q)) ∧ (¬ ((vi M (a1 + 6) ((4 : Int32)).toNatClampNeg) * (if (a4 - a3) < (a3 - a2) then (a4 - a3) else (a3 - a2))) ≤ (vi M o 1) → Q M))))) : CV G (d + 1) 70 [.ref o, .ref a1, .int a2, .int a3, .int a4] M Q := by
  refine Cl.ofM (Nat.le_of_ble_eq_true rfl) rfl ?_
  refine vcc ok70 0 [60, 106] ?_
  refine And.intro Pa1.1 ?_
  refine Or.inl ⟨_, (ob8_r8 Pa1), ?_⟩
  refine Or.inl ⟨(ob8_k8 Pa1), vp_cst (ob8_l8 Pa1) H.1, ?_⟩
  replace H := H.2
  refine And.intro (fun c => ?_) (fun c => ?_)
  · replace H := H.1 c
    exact ⟨rfl, H⟩
  · replace H := H.2 c
    refine And.intro (fun c => ?_) (fun c => ?_)
    · replace H := H.1 c
      exact ⟨rfl, H⟩
    · replace H := H.2 c
      refine And.intro (Nat.le_of_ble_eq_true rfl) ?_
      refine And.intro O.1 ?_
      refine And.intro (fun c => ?_) (fun c => ?_)
      · replace H := H.1 c
        refine And.intro O.1 ?_
        refine Or.inl ⟨_, (ob7_r7 O), ?_⟩
        refine And.intro O.1 ?_
        refine Or.inl ⟨_, (ob7_r8 O), ?_⟩
        refine And.intro (Nat.le_of_ble_eq_true rfl) (And.intro (by decide +kernel) (And.intro (by decide +kernel) (And.intro (by decide +kernel) (And.intro (le_cst (ob7_l7 O) (by decide +kernel)) (And.intro (le_cst (ob7_l8 O) (by decide +kernel)) ?_)))))
        refine Or.inl (And.intro (ob7_k7 O) (And.intro (ob7_k8 O) ?_))
        replace H := H _ rfl
        exact H
      · replace H := H.2 c
        exact ⟨rfl, H⟩

set_option maxRecDepth 8000 in
set_option maxHeartbeats 8000000 in
theorem c_X7_tryMoves_60 {G : GT} {d : Nat} {M : Mem} {o : Nat} (O : ObAt 7 M o) {a1 : Nat} (Pa1 : ObAt 8 M a1) {l2 : Int32} {l3 : Int32} {l4 : Int32} {l5 : Int32} {l6 : Int32} {Q : Mem → Prop} (H : (l3 ≤ l6 → vp_in (0 : Int32) 201 ∧ (vp_in (l4 * (201 : Int32)) 5025 ∧ (At G (d + 1) 70 106 [(0, .ref o), (1, .ref a1), (2, .int l2), (3, .int l3), (4, .int l4), (5, .int l5), (6, .int ((vi M (o + 4) ((0 : Int32)).toNatClampNeg) + (vi M (o + 1) ((l4 * (201 : Int32))).toNatClampNeg))), (7, .int (1 : Int32))] [] M (qV Q)))) ∧ (¬ l3 ≤ l6 → CV G d 69 [.ref o, .ref a1, .ref (o + 4), .int l6] M (fun M2 => (ObAt 7 M2 o ∧ ObAt 8 M2 a1) ∧ (At G (d + 1) 70 60 [(0, .ref o), (1, .ref a1), (2, .int l2), (3, .int l3), (4, .int l4), (5, .int l5), (6, .int (l6 + (1 : Int32)))] [] M2 (qV Q))))) : At G (d + 1) 70 60 [(0, .ref o), (1, .ref a1), (2, .int l2), (3, .int l3), (4, .int l4), (5, .int l5), (6, .int l6)] [] M (qV Q) := by
  refine vcc ok70 33 [106] ?_
  refine And.intro (fun c => ?_) (fun c => ?_)
  · replace H := H.1 c
    refine And.intro O.1 ?_
    refine Or.inl ⟨_, (ob7_r8 O), ?_⟩
    refine Or.inl ⟨(ob7_k8 O), vp_cst (ob7_l8 O) H.1, ?_⟩
    replace H := H.2
    refine And.intro O.1 ?_
    refine Or.inl ⟨_, (ob7_r5 O), ?_⟩
    refine Or.inl ⟨(ob7_k5 O), vp_cst (ob7_l5 O) H.1, ?_⟩
    replace H := H.2
    exact H
  · replace H := H.2 c
    refine And.intro O.1 ?_
    refine Or.inl ⟨_, (ob7_r8 O), ?_⟩
    refine And.intro (Nat.le_of_ble_eq_true rfl) ?_
    refine And.intro (Nat.le_of_ble_eq_true rfl) (And.intro O.1 ?_)
    refine Cl.mono H (fun r M2 h => ?_)
    obtain ⟨rfl, H⟩ := h
    obtain ⟨⟨O, Pa1⟩, H⟩ := H
    exact H

set_option maxRecDepth 8000 in
set_option maxHeartbeats 8000000 in
theorem c_X7_tryMoves_106 {G : GT} {d : Nat} {M : Mem} {o : Nat} (O : ObAt 7 M o) {a1 : Nat} (Pa1 : ObAt 8 M a1) {l2 : Int32} {l3 : Int32} {l4 : Int32} {l5 : Int32} {l6 : Int32} {l7 : Int32} {Q : Mem → Prop} (H : ((vi M a1 3) < l7 → CV G d 71 [.ref o, .int (l6 + (l5 * (l3 - l2))), .int l2, .int l3, .int l4] M (fun M3 => (ObAt 7 M3 o ∧ ObAt 8 M3 a1) ∧ (CV G d 71 [.ref o, .int (l6 + (l5 * (l4 - l3))), .int l3, .int l4, .int l2] M3 (fun M4 => (ObAt 7 M4 o ∧ ObAt 8 M4 a1) ∧ (Q M4))))) ∧ (¬ (vi M a1 3) < l7 → ((201 : Int32) ≤ l7 → CV G d 71 [.ref o, .int (l6 + (l5 * (l3 - l2))), .int l2, .int l3, .int l4] M (fun M5 => (ObAt 7 M5 o ∧ ObAt 8 M5 a1) ∧ (CV G d 71 [.ref o, .int (l6 + (l5 * (l4 - l3))), .int l3, .int l4, .int l2] M5 (fun M6 => (ObAt 7 M6 o ∧ ObAt 8 M6 a1) ∧ (Q M6))))) ∧ (¬ (201 : Int32) ≤ l7 → vp_in l7 201 ∧ (vp_in ((l4 * (201 : Int32)) + l7) 5025 ∧ (At G (d + 1) 70 106 [(0, .ref o), (1, .ref a1), (2, .int l2), (3, .int l3), (4, .int l4), (5, .int l5), (6, .int (if ((vi M (o + 4) (l7).toNatClampNeg) + (vi M (o + 1) (((l4 * (201 : Int32)) + l7)).toNatClampNeg)) < l6 then ((vi M (o + 4) (l7).toNatClampNeg) + (vi M (o + 1) (((l4 * (201 : Int32)) + l7)).toNatClampNeg)) else l6)), (7, .int (l7 + (1 : Int32)))] [] M (qV Q)))))) : At G (d + 1) 70 106 [(0, .ref o), (1, .ref a1), (2, .int l2), (3, .int l3), (4, .int l4), (5, .int l5), (6, .int l6), (7, .int l7)] [] M (qV Q) := by
  refine vcc ok70 58 [60] ?_
  refine And.intro Pa1.1 ?_
  refine And.intro (fun c => ?_) (fun c => ?_)
  · replace H := H.1 c
    refine And.intro (Nat.le_of_ble_eq_true rfl) ?_
    refine And.intro (Nat.le_of_ble_eq_true rfl) (And.intro O.1 ?_)
    refine Cl.mono H (fun r M3 h => ?_)
    obtain ⟨rfl, H⟩ := h
    obtain ⟨⟨O, Pa1⟩, H⟩ := H
    refine And.intro (Nat.le_of_ble_eq_true rfl) ?_
    refine And.intro (Nat.le_of_ble_eq_true rfl) (And.intro O.1 ?_)
    refine Cl.mono H (fun r M4 h => ?_)
    obtain ⟨rfl, H⟩ := h
    obtain ⟨⟨O, Pa1⟩, H⟩ := H
    exact ⟨rfl, H⟩
  · replace H := H.2 c
    refine And.intro (fun c => ?_) (fun c => ?_)
    · replace H := H.1 c
      refine And.intro (Nat.le_of_ble_eq_true rfl) ?_
      refine And.intro (Nat.le_of_ble_eq_true rfl) (And.intro O.1 ?_)
      refine Cl.mono H (fun r M5 h => ?_)
      obtain ⟨rfl, H⟩ := h
      obtain ⟨⟨O, Pa1⟩, H⟩ := H
      refine And.intro (Nat.le_of_ble_eq_true rfl) ?_
      refine And.intro (Nat.le_of_ble_eq_true rfl) (And.intro O.1 ?_)
      refine Cl.mono H (fun r M6 h => ?_)
      obtain ⟨rfl, H⟩ := h
      obtain ⟨⟨O, Pa1⟩, H⟩ := H
      exact ⟨rfl, H⟩
    · replace H := H.2 c
      refine And.intro O.1 ?_
      refine Or.inl ⟨_, (ob7_r8 O), ?_⟩
      refine Or.inl ⟨(ob7_k8 O), vp_cst (ob7_l8 O) H.1, ?_⟩
      replace H := H.2
      refine And.intro O.1 ?_
      refine Or.inl ⟨_, (ob7_r5 O), ?_⟩
      refine Or.inl ⟨(ob7_k5 O), vp_cst (ob7_l5 O) H.1, ?_⟩
      replace H := H.2
      refine And.intro (Nat.le_of_ble_eq_true rfl) ?_
      exact H

set_option maxRecDepth 8000 in
set_option maxHeartbeats 8000000 in
theorem c_X7_offer {G : GT} {d : Nat} {M : Mem} {o : Nat} (O : ObAt 7 M o) {a1 : Int32} {a2 : Int32} {a3 : Int32} {a4 : Int32} {Q : Mem → Prop} (H : ((vi M o 1) < a1 → Q M) ∧ (¬ (vi M o 1) < a1 → (¬ a1 = (vi M o 1) → ∀ M1, M1 = seti M o 1 a1 → ∀ M2, M2 = seti M1 o 2 a2 → ∀ M3, M3 = seti M2 o 3 a3 → ∀ M4, M4 = seti M3 o 4 a4 → Q M4) ∧ (a1 = (vi M o 1) → CI G d 72 [.ref o, .int a2, .int a3, .int a4] M (fun v6 M5 => ObAt 7 M5 o ∧ ((¬ v6 = 0 → ∀ M7, M7 = seti M5 o 1 a1 → ∀ M8, M8 = seti M7 o 2 a2 → ∀ M9, M9 = seti M8 o 3 a3 → ∀ M10, M10 = seti M9 o 4 a4 → Q M10) ∧ (v6 = 0 → Q M5)))))) : CV G (d + 1) 71 [.ref o, .int a1, .int a2, .int a3, .int a4] M Q := by
  refine Cl.ofM (Nat.le_of_ble_eq_true rfl) rfl ?_
  refine vcc ok71 0 [] ?_
  refine And.intro O.1 ?_
  refine And.intro (fun c => ?_) (fun c => ?_)
  · replace H := H.1 c
    exact ⟨rfl, H⟩
  · replace H := H.2 c
    refine And.intro O.1 ?_
    refine And.intro (fun c => ?_) (fun c => ?_)
    · replace H := H.1 c
      refine And.intro O.1 ?_
      refine And.intro (Or.inl rfl) (And.intro (fun h => absurd h (by decide)) ?_)
      replace H := H _ rfl
      refine And.intro O.1 ?_
      refine And.intro (Or.inl rfl) (And.intro (fun h => absurd h (by decide)) ?_)
      replace H := H _ rfl
      refine And.intro O.1 ?_
      refine And.intro (Or.inl rfl) (And.intro (fun h => absurd h (by decide)) ?_)
      replace H := H _ rfl
      refine And.intro O.1 ?_
      refine And.intro (Or.inl rfl) (And.intro (fun h => absurd h (by decide)) ?_)
      replace H := H _ rfl
      exact ⟨rfl, H⟩
    · replace H := H.2 c
      refine And.intro (Nat.le_of_ble_eq_true rfl) ?_
      refine And.intro (Nat.le_of_ble_eq_true rfl) (And.intro O.1 ?_)
      refine Cl.mono H (fun r M5 h => ?_)
      obtain ⟨v6, rfl, H⟩ := h
      obtain ⟨O, H⟩ := H
      refine And.intro (fun c => ?_) (fun c => ?_)
      · replace H := H.1 c
        refine And.intro O.1 ?_
        refine And.intro (Or.inl rfl) (And.intro (fun h => absurd h (by decide)) ?_)
        replace H := H _ rfl
        refine And.intro O.1 ?_
        refine And.intro (Or.inl rfl) (And.intro (fun h => absurd h (by decide)) ?_)
        replace H := H _ rfl
        refine And.intro O.1 ?_
        refine And.intro (Or.inl rfl) (And.intro (fun h => absurd h (by decide)) ?_)
        replace H := H _ rfl
        refine And.intro O.1 ?_
        refine And.intro (Or.inl rfl) (And.intro (fun h => absurd h (by decide)) ?_)
        replace H := H _ rfl
        exact ⟨rfl, H⟩
      · replace H := H.2 c
        exact ⟨rfl, H⟩

set_option maxRecDepth 8000 in
set_option maxHeartbeats 8000000 in
theorem c_X7_comesAhead {G : GT} {d : Nat} {M : Mem} {o : Nat} (O : ObAt 7 M o) {a1 : Int32} {a2 : Int32} {a3 : Int32} {Q : Int32 → Mem → Prop} (H : ((vi M o 2) < 0 → ((vi M o 2) < 0 → ((0 : Int32) = 0 ∨ (0 : Int32) = 1) ∧ Q (0 : Int32) M) ∧ (¬ (vi M o 2) < 0 → ((vi M o 2) ≤ a1 → ((0 : Int32) = 0 ∨ (0 : Int32) = 1) ∧ Q (0 : Int32) M) ∧ (¬ (vi M o 2) ≤ a1 → ((1 : Int32) = 0 ∨ (1 : Int32) = 1) ∧ Q (1 : Int32) M))) ∧ (¬ (vi M o 2) < 0 → (a1 = (vi M o 2) → (a2 = (vi M o 3) → ((vi M o 4) ≤ a3 → ((0 : Int32) = 0 ∨ (0 : Int32) = 1) ∧ Q (0 : Int32) M) ∧ (¬ (vi M o 4) ≤ a3 → ((1 : Int32) = 0 ∨ (1 : Int32) = 1) ∧ Q (1 : Int32) M)) ∧ (¬ a2 = (vi M o 3) → ((vi M o 3) ≤ a2 → ((0 : Int32) = 0 ∨ (0 : Int32) = 1) ∧ Q (0 : Int32) M) ∧ (¬ (vi M o 3) ≤ a2 → ((1 : Int32) = 0 ∨ (1 : Int32) = 1) ∧ Q (1 : Int32) M))) ∧ (¬ a1 = (vi M o 2) → ((vi M o 2) < 0 → ((0 : Int32) = 0 ∨ (0 : Int32) = 1) ∧ Q (0 : Int32) M) ∧ (¬ (vi M o 2) < 0 → ((vi M o 2) ≤ a1 → ((0 : Int32) = 0 ∨ (0 : Int32) = 1) ∧ Q (0 : Int32) M) ∧ (¬ (vi M o 2) ≤ a1 → ((1 : Int32) = 0 ∨ (1 : Int32) = 1) ∧ Q (1 : Int32) M))))) : CI G (d + 1) 72 [.ref o, .int a1, .int a2, .int a3] M Q := by
  refine Cl.ofM (Nat.le_of_ble_eq_true rfl) rfl ?_
  refine vcc ok72 0 [] ?_
  refine And.intro O.1 ?_
  refine And.intro (fun c => ?_) (fun c => ?_)
  · replace H := H.1 c
    refine And.intro O.1 ?_
    refine And.intro (fun c => ?_) (fun c => ?_)
    · replace H := H.1 c
      exact ⟨fun _ => H.1, _, rfl, H.2⟩
    · replace H := H.2 c
      refine And.intro O.1 ?_
      refine And.intro (fun c => ?_) (fun c => ?_)
      · replace H := H.1 c
        exact ⟨fun _ => H.1, _, rfl, H.2⟩
      · replace H := H.2 c
        exact ⟨fun _ => H.1, _, rfl, H.2⟩
  · replace H := H.2 c
    refine And.intro O.1 ?_
    refine And.intro (fun c => ?_) (fun c => ?_)
    · replace H := H.1 c
      refine And.intro O.1 ?_
      refine And.intro (fun c => ?_) (fun c => ?_)
      · replace H := H.1 c
        refine And.intro O.1 ?_
        refine And.intro (fun c => ?_) (fun c => ?_)
        · replace H := H.1 c
          exact ⟨fun _ => H.1, _, rfl, H.2⟩
        · replace H := H.2 c
          exact ⟨fun _ => H.1, _, rfl, H.2⟩
      · replace H := H.2 c
        refine And.intro O.1 ?_
        refine And.intro (fun c => ?_) (fun c => ?_)
        · replace H := H.1 c
          exact ⟨fun _ => H.1, _, rfl, H.2⟩
        · replace H := H.2 c
          exact ⟨fun _ => H.1, _, rfl, H.2⟩
    · replace H := H.2 c
      refine And.intro O.1 ?_
      refine And.intro (fun c => ?_) (fun c => ?_)
      · replace H := H.1 c
        exact ⟨fun _ => H.1, _, rfl, H.2⟩
      · replace H := H.2 c
        refine And.intro O.1 ?_
        refine And.intro (fun c => ?_) (fun c => ?_)
        · replace H := H.1 c
          exact ⟨fun _ => H.1, _, rfl, H.2⟩
        · replace H := H.2 c
          exact ⟨fun _ => H.1, _, rfl, H.2⟩
