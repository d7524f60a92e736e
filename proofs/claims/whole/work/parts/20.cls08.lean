/-! THE CLASS, block by block: by program (wip/tools/clsall.py) -/
theorem c_X8_copyFrom {G : GT} {d : Nat} {M : Mem} {o : Nat} (O : ObAt 8 M o) {a1 : Nat} (Pa1 : ObAt 8 M a1)  {Q : Mem → Prop} (H : ∀ M1, M1 = cpi M (a1 + 1) ((0 : Int32)).toNatClampNeg (o + 1) ((0 : Int32)).toNatClampNeg ((200 : Int32)).toNatClampNeg → ∀ M2, M2 = cpi M1 (a1 + 2) ((0 : Int32)).toNatClampNeg (o + 2) ((0 : Int32)).toNatClampNeg ((200 : Int32)).toNatClampNeg → ∀ M3, M3 = cpi M2 (a1 + 3) ((0 : Int32)).toNatClampNeg (o + 3) ((0 : Int32)).toNatClampNeg ((4 : Int32)).toNatClampNeg → ∀ M4, M4 = cpi M3 (a1 + 4) ((0 : Int32)).toNatClampNeg (o + 4) ((0 : Int32)).toNatClampNeg ((4 : Int32)).toNatClampNeg → (∀ i, i < ((64 : Int32)).toNatClampNeg → ∀ z, vr M4 (a1 + 5) (((0 : Int32)).toNatClampNeg + i) = some z → mK M4 z = 6) ∧ (∀ M5, M5 = cpr M4 (a1 + 5) ((0 : Int32)).toNatClampNeg (o + 5) ((0 : Int32)).toNatClampNeg ((64 : Int32)).toNatClampNeg → At G (d + 1) 74 75 [(0, .ref o), (1, .ref a1)] [] M5 (qV Q))) : CV G (d + 1) 74 [.ref o, .ref a1] M Q := by
  refine Cl.ofM (Nat.le_of_ble_eq_true rfl) rfl ?_
  refine vcc ok74 0 [75, 120] ?_
  refine And.intro Pa1.1 ?_
  refine Or.inl ⟨_, (ob8_r0 Pa1), ?_⟩
  refine And.intro O.1 ?_
  refine Or.inl ⟨_, (ob8_r0 O), ?_⟩
  refine And.intro (Nat.le_of_ble_eq_true rfl) (And.intro (by decide +kernel) (And.intro (by decide +kernel) (And.intro (by decide +kernel) (And.intro (le_cst (ob8_l0 Pa1) (by decide +kernel)) (And.intro (le_cst (ob8_l0 O) (by decide +kernel)) ?_)))))
  refine Or.inl (And.intro (ob8_k0 Pa1) (And.intro (ob8_k0 O) ?_))
  replace H := H _ rfl
  refine And.intro Pa1.1 ?_
  refine Or.inl ⟨_, (ob8_r2 Pa1), ?_⟩
  refine And.intro O.1 ?_
  refine Or.inl ⟨_, (ob8_r2 O), ?_⟩
  refine And.intro (Nat.le_of_ble_eq_true rfl) (And.intro (by decide +kernel) (And.intro (by decide +kernel) (And.intro (by decide +kernel) (And.intro (le_cst (ob8_l2 Pa1) (by decide +kernel)) (And.intro (le_cst (ob8_l2 O) (by decide +kernel)) ?_)))))
  refine Or.inl (And.intro (ob8_k2 Pa1) (And.intro (ob8_k2 O) ?_))
  replace H := H _ rfl
  refine And.intro Pa1.1 ?_
  refine Or.inl ⟨_, (ob8_r4 Pa1), ?_⟩
  refine And.intro O.1 ?_
  refine Or.inl ⟨_, (ob8_r4 O), ?_⟩
  refine And.intro (Nat.le_of_ble_eq_true rfl) (And.intro (by decide +kernel) (And.intro (by decide +kernel) (And.intro (by decide +kernel) (And.intro (le_cst (ob8_l4 Pa1) (by decide +kernel)) (And.intro (le_cst (ob8_l4 O) (by decide +kernel)) ?_)))))
  refine Or.inl (And.intro (ob8_k4 Pa1) (And.intro (ob8_k4 O) ?_))
  replace H := H _ rfl
  refine And.intro Pa1.1 ?_
  refine Or.inl ⟨_, (ob8_r5 Pa1), ?_⟩
  refine And.intro O.1 ?_
  refine Or.inl ⟨_, (ob8_r5 O), ?_⟩
  refine And.intro (Nat.le_of_ble_eq_true rfl) (And.intro (by decide +kernel) (And.intro (by decide +kernel) (And.intro (by decide +kernel) (And.intro (le_cst (ob8_l5 Pa1) (by decide +kernel)) (And.intro (le_cst (ob8_l5 O) (by decide +kernel)) ?_)))))
  refine Or.inl (And.intro (ob8_k5 Pa1) (And.intro (ob8_k5 O) ?_))
  replace H := H _ rfl
  refine And.intro Pa1.1 ?_
  refine Or.inl ⟨_, (ob8_r7 Pa1), ?_⟩
  refine And.intro O.1 ?_
  refine Or.inl ⟨_, (ob8_r7 O), ?_⟩
  refine And.intro (Nat.le_of_ble_eq_true rfl) (And.intro (by decide +kernel) (And.intro (by decide +kernel) (And.intro (by decide +kernel) (And.intro (le_cst (ob8_l7 Pa1) (by decide +kernel)) (And.intro (le_cst (ob8_l7 O) (by decide +kernel)) ?_)))))
  refine Or.inr (Or.inr (And.intro (ob8_k7 Pa1) (And.intro (ob8_k7 O) ?_)))
  refine And.intro H.1 ?_
  replace H := H.2
  replace H := H _ rfl
  exact H

theorem c_X8_copyFrom_75 {G : GT} {d : Nat} {M : Mem} {o : Nat} (O : ObAt 8 M o) {a1 : Nat} (Pa1 : ObAt 8 M a1)  {Q : Mem → Prop} (H : ∀ M6, M6 = cpi M (a1 + 6) ((0 : Int32)).toNatClampNeg (o + 6) ((0 : Int32)).toNatClampNeg ((7 : Int32)).toNatClampNeg → ∀ M7, M7 = cpi M6 (a1 + 7) ((0 : Int32)).toNatClampNeg (o + 7) ((0 : Int32)).toNatClampNeg ((64 : Int32)).toNatClampNeg → ∀ M8, M8 = cpl M7 (a1 + 8) ((0 : Int32)).toNatClampNeg (o + 8) ((0 : Int32)).toNatClampNeg ((64 : Int32)).toNatClampNeg → At G (d + 1) 74 120 [(0, .ref o), (1, .ref a1)] [] M8 (qV Q)) : At G (d + 1) 74 75 [(0, .ref o), (1, .ref a1)] [] M (qV Q) := by
  refine vcc ok74 40 [120] ?_
  refine And.intro Pa1.1 ?_
  refine Or.inl ⟨_, (ob8_r8 Pa1), ?_⟩
  refine And.intro O.1 ?_
  refine Or.inl ⟨_, (ob8_r8 O), ?_⟩
  refine And.intro (Nat.le_of_ble_eq_true rfl) (And.intro (by decide +kernel) (And.intro (by decide +kernel) (And.intro (by decide +kernel) (And.intro (le_cst (ob8_l8 Pa1) (by decide +kernel)) (And.intro (le_cst (ob8_l8 O) (by decide +kernel)) ?_)))))
  refine Or.inl (And.intro (ob8_k8 Pa1) (And.intro (ob8_k8 O) ?_))
  replace H := H _ rfl
  refine And.intro Pa1.1 ?_
  refine Or.inl ⟨_, (ob8_r9 Pa1), ?_⟩
  refine And.intro O.1 ?_
  refine Or.inl ⟨_, (ob8_r9 O), ?_⟩
  refine And.intro (Nat.le_of_ble_eq_true rfl) (And.intro (by decide +kernel) (And.intro (by decide +kernel) (And.intro (by decide +kernel) (And.intro (le_cst (ob8_l9 Pa1) (by decide +kernel)) (And.intro (le_cst (ob8_l9 O) (by decide +kernel)) ?_)))))
  refine Or.inl (And.intro (ob8_k9 Pa1) (And.intro (ob8_k9 O) ?_))
  replace H := H _ rfl
  refine And.intro Pa1.1 ?_
  refine Or.inl ⟨_, (ob8_r10 Pa1), ?_⟩
  refine And.intro O.1 ?_
  refine Or.inl ⟨_, (ob8_r10 O), ?_⟩
  refine And.intro (Nat.le_of_ble_eq_true rfl) (And.intro (by decide +kernel) (And.intro (by decide +kernel) (And.intro (by decide +kernel) (And.intro (le_cst (ob8_l10 Pa1) (by decide +kernel)) (And.intro (le_cst (ob8_l10 O) (by decide +kernel)) ?_)))))
  refine Or.inr (Or.inl (And.intro (ob8_k10 Pa1) (And.intro (ob8_k10 O) ?_)))
  replace H := H _ rfl
  exact H

theorem c_X8_copyFrom_120 {G : GT} {d : Nat} {M : Mem} {o : Nat} (O : ObAt 8 M o) {a1 : Nat} (Pa1 : ObAt 8 M a1)  {Q : Mem → Prop} (H : ∀ M9, M9 = seti M o 1 (vi M a1 1) → ∀ M10, M10 = seti M9 o 3 (vi M9 a1 3) → ∀ M11, M11 = seti M10 o 6 (vi M10 a1 6) → Q M11) : At G (d + 1) 74 120 [(0, .ref o), (1, .ref a1)] [] M (qV Q) := by
  refine vcc ok74 64 [75] ?_
  refine And.intro Pa1.1 ?_
  refine And.intro O.1 ?_
  refine And.intro (Or.inl rfl) (And.intro (fun h => absurd h (by decide)) ?_)
  replace H := H _ rfl
  refine And.intro Pa1.1 ?_
  refine And.intro O.1 ?_
  refine And.intro (Or.inl rfl) (And.intro (fun h => absurd h (by decide)) ?_)
  replace H := H _ rfl
  refine And.intro Pa1.1 ?_
  refine And.intro O.1 ?_
  refine And.intro (Or.inl rfl) (And.intro (fun h => absurd h (by decide)) ?_)
  replace H := H _ rfl
  exact ⟨rfl, H⟩

theorem c_X8_takeGalley {G : GT} {d : Nat} {M : Mem} {o : Nat} (O : ObAt 8 M o) {a1 : Nat} {a2 : Int32} {Q : Mem → Prop} (H : ∀ M1, M1 = seti M o 1 (if (200 : Int32) < a2 then (200 : Int32) else a2) → At G (d + 1) 75 13 [(0, .ref o), (1, .ref a1), (3, .int (0 : Int32))] [] M1 (qV Q)) : CV G (d + 1) 75 [.ref o, .ref a1, .int a2] M Q := by
  refine Cl.ofM (Nat.le_of_ble_eq_true rfl) rfl ?_
  refine vcc ok75 0 [13, 44] ?_
  refine And.intro (Nat.le_of_ble_eq_true rfl) ?_
  refine And.intro O.1 ?_
  refine And.intro (Or.inl rfl) (And.intro (fun h => absurd h (by decide)) ?_)
  replace H := H _ rfl
  exact At.keep [0, 1, 3] H

theorem c_X8_takeGalley_13 {G : GT} {d : Nat} {M : Mem} {o : Nat} (O : ObAt 8 M o) {a1 : Nat} {l3 : Int32} {Q : Mem → Prop} (H : ((vi M o 1) ≤ l3 → At G (d + 1) 75 44 [(0, .ref o), (3, .int (0 : Int32))] [] M (qV Q)) ∧ (¬ (vi M o 1) ≤ l3 → (14 ≤ mK M a1 ∧ mK M a1 ≤ 21) ∧ (((nI (mA M a1)) ≤ l3 → At G (d + 1) 75 44 [(0, .ref o), (3, .int (0 : Int32))] [] M (qV Q)) ∧ (¬ (nI (mA M a1)) ≤ l3 → mK M a1 = 15 ∧ vp_in l3 (mA M a1) ∧ (vp_in l3 200 ∧ (∀ M2, M2 = seti M (o + 1) (l3).toNatClampNeg (vi M a1 (l3).toNatClampNeg) → At G (d + 1) 75 13 [(0, .ref o), (1, .ref a1), (3, .int (l3 + (1 : Int32)))] [] M2 (qV Q))))))) : At G (d + 1) 75 13 [(0, .ref o), (1, .ref a1), (3, .int l3)] [] M (qV Q) := by
  refine vcc ok75 7 [44] ?_
  refine And.intro O.1 ?_
  refine And.intro (fun c => ?_) (fun c => ?_)
  · replace H := H.1 c
    exact At.keep [0, 3] H
  · replace H := H.2 c
    refine Or.inl ⟨H.1, ?_⟩
    replace H := H.2
    refine And.intro (fun c => ?_) (fun c => ?_)
    · replace H := H.1 c
      exact At.keep [0, 3] H
    · replace H := H.2 c
      refine And.intro O.1 ?_
      refine Or.inl ⟨_, (ob8_r0 O), ?_⟩
      refine Or.inl ⟨H.1, H.2.1, ?_⟩
      replace H := H.2.2
      refine ⟨(ob8_k0 O), vp_cst (ob8_l0 O) H.1, ?_⟩
      replace H := H.2
      replace H := H _ rfl
      exact H

theorem c_X8_takeGalley_44 {G : GT} {d : Nat} {M : Mem} {o : Nat} (O : ObAt 8 M o) {a1 : Nat} {l3 : Int32} {Q : Mem → Prop} (H : ((64 : Int32) ≤ l3 → CV G d 272 [.ref (o + 4), .int (0 : Int32)] M (fun M3 => ObAt 8 M3 o ∧ (Q M3))) ∧ (¬ (64 : Int32) ≤ l3 → vp_in l3 64 ∧ (∀ M4, M4 = setr M (o + 5) (l3).toNatClampNeg none → At G (d + 1) 75 44 [(0, .ref o), (3, .int (l3 + (1 : Int32)))] [] M4 (qV Q)))) : At G (d + 1) 75 44 [(0, .ref o), (3, .int l3)] [] M (qV Q) := by
  refine vcc ok75 26 [13] ?_
  refine And.intro (fun c => ?_) (fun c => ?_)
  · replace H := H.1 c
    refine And.intro O.1 ?_
    refine Or.inl ⟨_, (ob8_r5 O), ?_⟩
    refine And.intro (Nat.le_of_ble_eq_true rfl) ?_
    refine And.intro (Nat.le_of_ble_eq_true rfl) ?_
    refine Cl.mono H (fun r M3 h => ?_)
    obtain ⟨rfl, H⟩ := h
    obtain ⟨O, H⟩ := H
    exact ⟨rfl, H⟩
  · replace H := H.2 c
    refine And.intro O.1 ?_
    refine Or.inl ⟨_, (ob8_r7 O), ?_⟩
    refine ⟨(k18 (ob8_k7 O)), vp_cst (ob8_l7 O) H.1, ?_⟩
    replace H := H.2
    replace H := H _ rfl
    exact H

theorem c_X8_takeWish {G : GT} {d : Nat} {M : Mem} {o : Nat} (O : ObAt 8 M o) {a1 : Nat} {a2 : Int32} {Q : Mem → Prop} (H : ∀ M1, M1 = seti M o 3 (if (200 : Int32) < a2 then (200 : Int32) else a2) → At G (d + 1) 76 13 [(0, .ref o), (1, .ref a1), (3, .int (0 : Int32))] [] M1 (qV Q)) : CV G (d + 1) 76 [.ref o, .ref a1, .int a2] M Q := by
  refine Cl.ofM (Nat.le_of_ble_eq_true rfl) rfl ?_
  refine vcc ok76 0 [13] ?_
  refine And.intro (Nat.le_of_ble_eq_true rfl) ?_
  refine And.intro O.1 ?_
  refine And.intro (Or.inl rfl) (And.intro (fun h => absurd h (by decide)) ?_)
  replace H := H _ rfl
  exact At.keep [0, 1, 3] H

theorem c_X8_takeWish_13 {G : GT} {d : Nat} {M : Mem} {o : Nat} (O : ObAt 8 M o) {a1 : Nat} {l3 : Int32} {Q : Mem → Prop} (H : ((vi M o 3) ≤ l3 → Q M) ∧ (¬ (vi M o 3) ≤ l3 → (14 ≤ mK M a1 ∧ mK M a1 ≤ 21) ∧ (((nI (mA M a1)) ≤ l3 → Q M) ∧ (¬ (nI (mA M a1)) ≤ l3 → mK M a1 = 15 ∧ vp_in l3 (mA M a1) ∧ (vp_in l3 200 ∧ (∀ M2, M2 = seti M (o + 2) (l3).toNatClampNeg (vi M a1 (l3).toNatClampNeg) → At G (d + 1) 76 13 [(0, .ref o), (1, .ref a1), (3, .int (l3 + (1 : Int32)))] [] M2 (qV Q))))))) : At G (d + 1) 76 13 [(0, .ref o), (1, .ref a1), (3, .int l3)] [] M (qV Q) := by
  refine vcc ok76 7 [] ?_
  refine And.intro O.1 ?_
  refine And.intro (fun c => ?_) (fun c => ?_)
  · replace H := H.1 c
    exact ⟨rfl, H⟩
  · replace H := H.2 c
    refine Or.inl ⟨H.1, ?_⟩
    replace H := H.2
    refine And.intro (fun c => ?_) (fun c => ?_)
    · replace H := H.1 c
      exact ⟨rfl, H⟩
    · replace H := H.2 c
      refine And.intro O.1 ?_
      refine Or.inl ⟨_, (ob8_r2 O), ?_⟩
      refine Or.inl ⟨H.1, H.2.1, ?_⟩
      replace H := H.2.2
      refine ⟨(ob8_k2 O), vp_cst (ob8_l2 O) H.1, ?_⟩
      replace H := H.2
      replace H := H _ rfl
      exact H

theorem c_X8_hasHand {G : GT} {d : Nat} {M : Mem} {o : Nat} (O : ObAt 8 M o) {a1 : Int32} {Q : Int32 → Mem → Prop} (H : (a1 < 0 → ((0 : Int32) = 0 ∨ (0 : Int32) = 1) ∧ Q (0 : Int32) M) ∧ (¬ a1 < 0 → ((vi M o 6) ≤ a1 → ((0 : Int32) = 0 ∨ (0 : Int32) = 1) ∧ Q (0 : Int32) M) ∧ (¬ (vi M o 6) ≤ a1 → ((4 : Int32) ≤ a1 → ((0 : Int32) = 0 ∨ (0 : Int32) = 1) ∧ Q (0 : Int32) M) ∧ (¬ (4 : Int32) ≤ a1 → ((1 : Int32) = 0 ∨ (1 : Int32) = 1) ∧ Q (1 : Int32) M)))) : CI G (d + 1) 77 [.ref o, .int a1] M Q := by
  refine Cl.ofM (Nat.le_of_ble_eq_true rfl) rfl ?_
  refine vcc ok77 0 [] ?_
  refine And.intro (fun c => ?_) (fun c => ?_)
  · replace H := H.1 c
    exact ⟨fun _ => H.1, _, rfl, H.2⟩
  · replace H := H.2 c
    refine And.intro O.1 ?_
    refine And.intro (fun c => ?_) (fun c => ?_)
    · replace H := H.1 c
      exact ⟨fun _ => H.1, _, rfl, H.2⟩
    · replace H := H.2 c
      refine And.intro (fun c => ?_) (fun c => ?_)
      · replace H := H.1 c
        exact ⟨fun _ => H.1, _, rfl, H.2⟩
      · replace H := H.2 c
        exact ⟨fun _ => H.1, _, rfl, H.2⟩

theorem c_X8_addMarks {G : GT} {d : Nat} {M : Mem} {o : Nat} (O : ObAt 8 M o) {a2 : Nat} {a1 : Int32} {a3 : Int32} {Q : Mem → Prop} (H : CI G d 77 [.ref o, .int a1] M (fun v2 M1 => ObAt 8 M1 o ∧ ((¬ v2 = 0 → At G (d + 1) 78 12 [(0, .ref o), (1, .int a1), (2, .ref a2), (3, .int a3), (4, .int (0 : Int32))] [] M1 (qV Q)) ∧ (v2 = 0 → Q M1)))) : CV G (d + 1) 78 [.ref o, .int a1, .ref a2, .int a3] M Q := by
  refine Cl.ofM (Nat.le_of_ble_eq_true rfl) rfl ?_
  refine vcc ok78 0 [12, 83] ?_
  refine And.intro (Nat.le_of_ble_eq_true rfl) ?_
  refine And.intro (Nat.le_of_ble_eq_true rfl) (And.intro O.1 ?_)
  refine Cl.mono H (fun r M1 h => ?_)
  obtain ⟨v2, rfl, H⟩ := h
  obtain ⟨O, H⟩ := H
  refine And.intro (fun c => ?_) (fun c => ?_)
  · replace H := H.1 c
    exact H
  · replace H := H.2 c
    exact ⟨rfl, H⟩

theorem c_X8_addMarks_12 {G : GT} {d : Nat} {M : Mem} {o : Nat} (O : ObAt 8 M o) {a2 : Nat} {l1 : Int32} {l3 : Int32} {l4 : Int32} {Q : Mem → Prop} (H : (l3 ≤ l4 → At G (d + 1) 78 83 [(0, .ref o), (4, .int (0 : Int32))] [] M (qV Q)) ∧ (¬ l3 ≤ l4 → (14 ≤ mK M a2 ∧ mK M a2 ≤ 21) ∧ (((nI (mA M a2)) ≤ l4 → At G (d + 1) 78 83 [(0, .ref o), (4, .int (0 : Int32))] [] M (qV Q)) ∧ (¬ (nI (mA M a2)) ≤ l4 → vp_in l1 4 ∧ (((vi M (o + 4) (l1).toNatClampNeg) < 0 → At G (d + 1) 78 12 [(0, .ref o), (1, .int l1), (2, .ref a2), (3, .int l3), (4, .int (l4 + (1 : Int32)))] [] M (qV Q)) ∧ (¬ (vi M (o + 4) (l1).toNatClampNeg) < 0 → vp_in l1 4 ∧ (((16 : Int32) ≤ (vi M (o + 4) (l1).toNatClampNeg) → At G (d + 1) 78 12 [(0, .ref o), (1, .int l1), (2, .ref a2), (3, .int l3), (4, .int (l4 + (1 : Int32)))] [] M (qV Q)) ∧ (¬ (16 : Int32) ≤ (vi M (o + 4) (l1).toNatClampNeg) → vp_in l1 4 ∧ (CI G d 147 [.int l1, .int (vi M (o + 4) (l1).toNatClampNeg)] M (fun v4 M3 => ObAt 8 M3 o ∧ ((18 ≤ mK M3 a2 ∧ mK M3 a2 ≤ 21) ∧ vp_in l4 (mA M3 a2) ∧ ((∀ r5, (vr M3 a2 (l4).toNatClampNeg) = some r5 → vp_in v4 64 ∧ (mK M3 r5 = elN (mK M3 (o + 5)) + 1 ∧ (∀ M6, M6 = setr M3 (o + 5) (v4).toNatClampNeg (some r5) → vp_in l1 4 ∧ (vp_in l1 4 ∧ (∀ M7, M7 = seti M6 (o + 4) (l1).toNatClampNeg ((vi M6 (o + 4) (l1).toNatClampNeg) + (1 : Int32)) → At G (d + 1) 78 12 [(0, .ref o), (1, .int l1), (2, .ref a2), (3, .int l3), (4, .int (l4 + (1 : Int32)))] [] M7 (qV Q)))))) ∧ ((vr M3 a2 (l4).toNatClampNeg) = none → vp_in v4 64 ∧ (∀ M8, M8 = setr M3 (o + 5) (v4).toNatClampNeg none → vp_in l1 4 ∧ (vp_in l1 4 ∧ (∀ M9, M9 = seti M8 (o + 4) (l1).toNatClampNeg ((vi M8 (o + 4) (l1).toNatClampNeg) + (1 : Int32)) → At G (d + 1) 78 12 [(0, .ref o), (1, .int l1), (2, .ref a2), (3, .int l3), (4, .int (l4 + (1 : Int32)))] [] M9 (qV Q))))))))))))))))) : At G (d + 1) 78 12 [(0, .ref o), (1, .int l1), (2, .ref a2), (3, .int l3), (4, .int l4)] [] M (qV Q) := by
  refine vcc ok78 7 [83] ?_
  refine And.intro (fun c => ?_) (fun c => ?_)
  · replace H := H.1 c
    exact At.keep [0, 4] H
  · replace H := H.2 c
    refine Or.inl ⟨H.1, ?_⟩
    replace H := H.2
    refine And.intro (fun c => ?_) (fun c => ?_)
    · replace H := H.1 c
      exact At.keep [0, 4] H
    · replace H := H.2 c
      refine And.intro O.1 ?_
      refine Or.inl ⟨_, (ob8_r5 O), ?_⟩
      refine Or.inl ⟨(ob8_k5 O), vp_cst (ob8_l5 O) H.1, ?_⟩
      replace H := H.2
      refine And.intro (fun c => ?_) (fun c => ?_)
      · replace H := H.1 c
        exact H
      · replace H := H.2 c
        refine And.intro O.1 ?_
        refine Or.inl ⟨_, (ob8_r5 O), ?_⟩
        refine Or.inl ⟨(ob8_k5 O), vp_cst (ob8_l5 O) H.1, ?_⟩
        replace H := H.2
        refine And.intro (fun c => ?_) (fun c => ?_)
        · replace H := H.1 c
          exact H
        · replace H := H.2 c
          refine And.intro O.1 ?_
          refine Or.inl ⟨_, (ob8_r7 O), ?_⟩
          refine And.intro O.1 ?_
          refine Or.inl ⟨_, (ob8_r5 O), ?_⟩
          refine Or.inl ⟨(ob8_k5 O), vp_cst (ob8_l5 O) H.1, ?_⟩
          replace H := H.2
          refine And.intro (Nat.le_of_ble_eq_true rfl) ?_
          refine And.intro (Nat.le_of_ble_eq_true rfl) ?_
          refine Cl.mono H (fun r M3 h => ?_)
          obtain ⟨v4, rfl, H⟩ := h
          obtain ⟨O, H⟩ := H
          refine ⟨H.1, H.2.1, ?_⟩
          replace H := H.2.2
          refine wRef_i (fun r5 hr => ?_) (fun hr => ?_)
          · replace H := H.1 _ hr
            refine ⟨(k18 (ob8_k7 O)), vp_cst (ob8_l7 O) H.1, ?_⟩
            replace H := H.2
            refine And.intro H.1 ?_
            replace H := H.2
            replace H := H _ rfl
            refine And.intro (O.1 :) ?_
            refine Or.inl ⟨_, (ob8_r5 (ob_setr O (k18 (ob8_k7 O)))), ?_⟩
            refine Or.inl ⟨((ob8_k5 O) :), vp_cst ((ob8_l5 O) :) H.1, ?_⟩
            replace H := H.2
            refine ⟨((ob8_k5 O) :), vp_cst ((ob8_l5 O) :) H.1, ?_⟩
            replace H := H.2
            replace H := H _ rfl
            exact H
          · replace H := H.2 hr
            refine ⟨(k18 (ob8_k7 O)), vp_cst (ob8_l7 O) H.1, ?_⟩
            replace H := H.2
            replace H := H _ rfl
            refine And.intro (O.1 :) ?_
            refine Or.inl ⟨_, (ob8_r5 (ob_setr O (k18 (ob8_k7 O)))), ?_⟩
            refine Or.inl ⟨((ob8_k5 O) :), vp_cst ((ob8_l5 O) :) H.1, ?_⟩
            replace H := H.2
            refine ⟨((ob8_k5 O) :), vp_cst ((ob8_l5 O) :) H.1, ?_⟩
            replace H := H.2
            replace H := H _ rfl
            exact H

theorem c_X8_addMarks_83 {G : GT} {d : Nat} {M : Mem} {o : Nat} (O : ObAt 8 M o) {a2 : Nat} {l4 : Int32} {Q : Mem → Prop} (H : ((64 : Int32) ≤ l4 → Q M) ∧ (¬ (64 : Int32) ≤ l4 → vp_in l4 64 ∧ ((∀ r10, (vr M (o + 5) (l4).toNatClampNeg) = some r10 → CI G d 83 [.ref o, .ref r10] M (fun v12 M11 => ObAt 8 M11 o ∧ (vp_in l4 64 ∧ (∀ M13, M13 = seti M11 (o + 7) (l4).toNatClampNeg v12 → CJ G d 79 [.ref o, .ref r10] M13 (fun v15 M14 => ObAt 8 M14 o ∧ (vp_in l4 64 ∧ (∀ M16, M16 = setl M14 (o + 8) (l4).toNatClampNeg v15 → At G (d + 1) 78 83 [(0, .ref o), (4, .int (l4 + (1 : Int32)))] [] M16 (qV Q)))))))) ∧ ((vr M (o + 5) (l4).toNatClampNeg) = none → vp_in l4 64 ∧ (∀ M17, M17 = seti M (o + 7) (l4).toNatClampNeg (0 : Int32) → vp_in l4 64 ∧ (∀ M18, M18 = setl M17 (o + 8) (l4).toNatClampNeg (0 : Int64) → At G (d + 1) 78 83 [(0, .ref o), (4, .int (l4 + (1 : Int32)))] [] M18 (qV Q))))))) : At G (d + 1) 78 83 [(0, .ref o), (4, .int l4)] [] M (qV Q) := by
  refine vcc ok78 49 [12] ?_
  refine And.intro (fun c => ?_) (fun c => ?_)
  · replace H := H.1 c
    exact ⟨rfl, H⟩
  · replace H := H.2 c
    refine And.intro O.1 ?_
    refine Or.inl ⟨_, (ob8_r7 O), ?_⟩
    refine ⟨(k18 (ob8_k7 O)), vp_cst (ob8_l7 O) H.1, ?_⟩
    replace H := H.2
    refine wRef_i (fun r10 hr => ?_) (fun hr => ?_)
    · replace H := H.1 _ hr
      refine And.intro O.1 ?_
      refine Or.inl ⟨_, (ob8_r9 O), ?_⟩
      refine And.intro (Nat.le_of_ble_eq_true rfl) ?_
      refine And.intro (Nat.le_of_ble_eq_true rfl) (And.intro O.1 ?_)
      refine Cl.mono H (fun r M11 h => ?_)
      obtain ⟨v12, rfl, H⟩ := h
      obtain ⟨O, H⟩ := H
      refine ⟨(ob8_k9 O), vp_cst (ob8_l9 O) H.1, ?_⟩
      replace H := H.2
      replace H := H _ rfl
      refine And.intro O.1 ?_
      refine Or.inl ⟨_, (ob8_r10 O), ?_⟩
      refine And.intro (Nat.le_of_ble_eq_true rfl) ?_
      refine And.intro (Nat.le_of_ble_eq_true rfl) (And.intro O.1 ?_)
      refine Cl.mono H (fun r M14 h => ?_)
      obtain ⟨v15, rfl, H⟩ := h
      obtain ⟨O, H⟩ := H
      refine ⟨(ob8_k10 O), vp_cst (ob8_l10 O) H.1, ?_⟩
      replace H := H.2
      replace H := H _ rfl
      exact At.keep [0, 4] H
    · replace H := H.2 hr
      refine And.intro O.1 ?_
      refine Or.inl ⟨_, (ob8_r9 O), ?_⟩
      refine ⟨(ob8_k9 O), vp_cst (ob8_l9 O) H.1, ?_⟩
      replace H := H.2
      replace H := H _ rfl
      refine And.intro O.1 ?_
      refine Or.inl ⟨_, (ob8_r10 O), ?_⟩
      refine ⟨(ob8_k10 O), vp_cst (ob8_l10 O) H.1, ?_⟩
      replace H := H.2
      replace H := H _ rfl
      exact At.keep [0, 4] H

theorem c_X8_clashesOf {G : GT} {d : Nat} {M : Mem} {o : Nat} (O : ObAt 8 M o) {a1 : Nat} (Pa1 : mK M a1 = 6)  {Q : Int64 → Mem → Prop} (H : At G (d + 1) 79 5 [(0, .ref o), (1, .ref a1), (2, .long (0 : Int64)), (4, .int (0 : Int32))] [] M (qJ Q)) : CJ G (d + 1) 79 [.ref o, .ref a1] M Q := by
  refine Cl.ofM (Nat.le_of_ble_eq_true rfl) rfl ?_
  refine vcc ok79 0 [5] ?_
  exact H

theorem c_X8_clashesOf_5 {G : GT} {d : Nat} {M : Mem} {o : Nat} (O : ObAt 8 M o) {a1 : Nat} (Pa1 : mK M a1 = 6) {l2 : Int64} {l4 : Int32} {Q : Int64 → Mem → Prop} (H : ((64 : Int32) ≤ l4 → Q l2 M) ∧ (¬ (64 : Int32) ≤ l4 → vp_in l4 64 ∧ ((∀ r1, (vr M (o + 5) (l4).toNatClampNeg) = some r1 → CI G d 50 [.ref a1, .ref r1] M (fun v3 M2 => (ObAt 8 M2 o ∧ mK M2 a1 = 6) ∧ ((v3 = 0 → At G (d + 1) 79 5 [(0, .ref o), (1, .ref a1), (2, .long l2), (4, .int (l4 + (1 : Int32)))] [] M2 (qJ Q)) ∧ (¬ v3 = 0 → At G (d + 1) 79 5 [(0, .ref o), (1, .ref a1), (2, .long (l2 ||| ((1 : Int64) <<< ((l4).toInt64 &&& 63)))), (4, .int (l4 + (1 : Int32)))] [] M2 (qJ Q))))) ∧ ((vr M (o + 5) (l4).toNatClampNeg) = none → At G (d + 1) 79 5 [(0, .ref o), (1, .ref a1), (2, .long l2), (4, .int (l4 + (1 : Int32)))] [] M (qJ Q))))) : At G (d + 1) 79 5 [(0, .ref o), (1, .ref a1), (2, .long l2), (4, .int l4)] [] M (qJ Q) := by
  refine vcc ok79 4 [] ?_
  refine And.intro (fun c => ?_) (fun c => ?_)
  · replace H := H.1 c
    exact ⟨_, rfl, H⟩
  · replace H := H.2 c
    refine And.intro O.1 ?_
    refine Or.inl ⟨_, (ob8_r7 O), ?_⟩
    refine ⟨(k18 (ob8_k7 O)), vp_cst (ob8_l7 O) H.1, ?_⟩
    replace H := H.2
    refine wRef_i (fun r1 hr => ?_) (fun hr => ?_)
    · replace H := H.1 _ hr
      refine And.intro (Nat.le_of_ble_eq_true rfl) ?_
      refine And.intro (Nat.le_of_ble_eq_true rfl) (And.intro Pa1 ?_)
      refine Cl.mono H (fun r M2 h => ?_)
      obtain ⟨v3, rfl, H⟩ := h
      obtain ⟨⟨O, Pa1⟩, H⟩ := H
      refine And.intro (fun c => ?_) (fun c => ?_)
      · replace H := H.1 c
        exact At.keep [0, 1, 2, 4] H
      · replace H := H.2 c
        exact At.keep [0, 1, 2, 4] H
    · replace H := H.2 hr
      exact At.keep [0, 1, 2, 4] H

theorem c_X8_find {G : GT} {d : Nat} {M : Mem} {o : Nat} (O : ObAt 8 M o) {a1 : Int32} {a2 : Int32} {Q : Option Nat → Mem → Prop} (H : CI G d 77 [.ref o, .int a1] M (fun v2 M1 => ObAt 8 M1 o ∧ ((v2 = 0 → Q none M1) ∧ (¬ v2 = 0 → (a2 < 0 → Q none M1) ∧ (¬ a2 < 0 → (a2 < (16 : Int32) → CI G d 147 [.int a1, .int a2] M1 (fun v4 M3 => ObAt 8 M3 o ∧ (vp_in v4 64 ∧ ((∀ r5, (vr M3 (o + 5) (v4).toNatClampNeg) = some r5 → Q (some r5) M3) ∧ ((vr M3 (o + 5) (v4).toNatClampNeg) = none → Q none M3))))) ∧ (¬ a2 < (16 : Int32) → Q none M1)))))) : CR G (d + 1) 80 [.ref o, .int a1, .int a2] M Q := by
  refine Cl.ofM (Nat.le_of_ble_eq_true rfl) rfl ?_
  refine vcc ok80 0 [] ?_
  refine And.intro (Nat.le_of_ble_eq_true rfl) ?_
  refine And.intro (Nat.le_of_ble_eq_true rfl) (And.intro O.1 ?_)
  refine Cl.mono H (fun r M1 h => ?_)
  obtain ⟨v2, rfl, H⟩ := h
  obtain ⟨O, H⟩ := H
  refine And.intro (fun c => ?_) (fun c => ?_)
  · replace H := H.1 c
    exact ⟨none, rfl, H⟩
  · replace H := H.2 c
    refine And.intro (fun c => ?_) (fun c => ?_)
    · replace H := H.1 c
      exact ⟨none, rfl, H⟩
    · replace H := H.2 c
      refine And.intro (fun c => ?_) (fun c => ?_)
      · replace H := H.1 c
        refine And.intro O.1 ?_
        refine Or.inl ⟨_, (ob8_r7 O), ?_⟩
        refine And.intro (Nat.le_of_ble_eq_true rfl) ?_
        refine And.intro (Nat.le_of_ble_eq_true rfl) ?_
        refine Cl.mono H (fun r M3 h => ?_)
        obtain ⟨v4, rfl, H⟩ := h
        obtain ⟨O, H⟩ := H
        refine ⟨(k18 (ob8_k7 O)), vp_cst (ob8_l7 O) H.1, ?_⟩
        replace H := H.2
        refine wRef_i (fun r5 hr => ?_) (fun hr => ?_)
        · replace H := H.1 _ hr
          exact ⟨some _, rfl, H⟩
        · replace H := H.2 hr
          exact ⟨none, rfl, H⟩
      · replace H := H.2 c
        exact ⟨none, rfl, H⟩

theorem c_X8_allTold {G : GT} {d : Nat} {M : Mem} {o : Nat} (O : ObAt 8 M o)  {Q : Int32 → Mem → Prop} (H : At G (d + 1) 81 4 [(0, .ref o), (1, .int (0 : Int32)), (2, .int (0 : Int32))] [] M (qI Q)) : CI G (d + 1) 81 [.ref o] M Q := by
  refine Cl.ofM (Nat.le_of_ble_eq_true rfl) rfl ?_
  refine vcc ok81 0 [4] ?_
  exact H

theorem c_X8_allTold_4 {G : GT} {d : Nat} {M : Mem} {o : Nat} (O : ObAt 8 M o) {l1 : Int32} {l2 : Int32} {Q : Int32 → Mem → Prop} (H : ((4 : Int32) ≤ l2 → Q l1 M) ∧ (¬ (4 : Int32) ≤ l2 → vp_in l2 4 ∧ (At G (d + 1) 81 4 [(0, .ref o), (1, .int (l1 + (vi M (o + 4) (l2).toNatClampNeg))), (2, .int (l2 + (1 : Int32)))] [] M (qI Q)))) : At G (d + 1) 81 4 [(0, .ref o), (1, .int l1), (2, .int l2)] [] M (qI Q) := by
  refine vcc ok81 4 [] ?_
  refine And.intro (fun c => ?_) (fun c => ?_)
  · replace H := H.1 c
    exact ⟨fun h => absurd h (by decide), _, rfl, H⟩
  · replace H := H.2 c
    refine And.intro O.1 ?_
    refine Or.inl ⟨_, (ob8_r5 O), ?_⟩
    refine Or.inl ⟨(ob8_k5 O), vp_cst (ob8_l5 O) H.1, ?_⟩
    replace H := H.2
    exact H

theorem c_X8_tells {G : GT} {d : Nat} {M : Mem} {o : Nat} (O : ObAt 8 M o) {a3 : Nat} (Pa3 : mK M a3 = 6) {a1 : Int32} {a2 : Int32} {Q : Int32 → Mem → Prop} (H : At G (d + 1) 82 3 [(0, .ref o), (1, .int a1), (2, .int a2), (3, .ref a3), (4, .int (0 : Int32))] [] M (qI Q)) : CI G (d + 1) 82 [.ref o, .int a1, .int a2, .ref a3] M Q := by
  refine Cl.ofM (Nat.le_of_ble_eq_true rfl) rfl ?_
  refine vcc ok82 0 [3] ?_
  exact H

theorem c_X8_tells_3 {G : GT} {d : Nat} {M : Mem} {o : Nat} (O : ObAt 8 M o) {a3 : Nat} (Pa3 : mK M a3 = 6) {l1 : Int32} {l2 : Int32} {l4 : Int32} {Q : Int32 → Mem → Prop} (H : (l2 ≤ l4 → ((0 : Int32) = 0 ∨ (0 : Int32) = 1) ∧ Q (0 : Int32) M) ∧ (¬ l2 ≤ l4 → CR G d 80 [.ref o, .int l1, .int l4] M (fun o5 M1 => (ObAt 8 M1 o ∧ mK M1 a3 = 6) ∧ ((∀ r2, o5 = some r2 → mK M1 r2 = 6 ∧ CI G d 48 [.ref r2, .ref a3] M1 (fun v4 M3 => (ObAt 8 M3 o ∧ mK M3 a3 = 6) ∧ ((v4 = 0 → At G (d + 1) 82 3 [(0, .ref o), (1, .int l1), (2, .int l2), (3, .ref a3), (4, .int (l4 + (1 : Int32)))] [] M3 (qI Q)) ∧ (¬ v4 = 0 → ((1 : Int32) = 0 ∨ (1 : Int32) = 1) ∧ Q (1 : Int32) M3)))) ∧ (o5 = none → At G (d + 1) 82 3 [(0, .ref o), (1, .int l1), (2, .int l2), (3, .ref a3), (4, .int (l4 + (1 : Int32)))] [] M1 (qI Q)))))) : At G (d + 1) 82 3 [(0, .ref o), (1, .int l1), (2, .int l2), (3, .ref a3), (4, .int l4)] [] M (qI Q) := by
  refine vcc ok82 2 [] ?_
  refine And.intro (fun c => ?_) (fun c => ?_)
  · replace H := H.1 c
    exact ⟨fun _ => H.1, _, rfl, H.2⟩
  · replace H := H.2 c
    refine And.intro (Nat.le_of_ble_eq_true rfl) ?_
    refine And.intro (Nat.le_of_ble_eq_true rfl) (And.intro O.1 ?_)
    refine Cl.mono H (fun r M1 h => ?_)
    obtain ⟨o5, rfl, H⟩ := h
    obtain ⟨⟨O, Pa3⟩, H⟩ := H
    rcases o5 with _ | r2
    · replace H := H.2 rfl
      exact At.keep [0, 1, 2, 3, 4] H
    · replace H := H.1 _ rfl
      refine And.intro (Nat.le_of_ble_eq_true rfl) ?_
      refine And.intro (Nat.le_of_ble_eq_true rfl) (And.intro H.1 ?_)
      replace H := H.2
      refine Cl.mono H (fun r M3 h => ?_)
      obtain ⟨v4, rfl, H⟩ := h
      obtain ⟨⟨O, Pa3⟩, H⟩ := H
      refine And.intro (fun c => ?_) (fun c => ?_)
      · replace H := H.1 c
        exact At.keep [0, 1, 2, 3, 4] H
      · replace H := H.2 c
        exact ⟨fun _ => H.1, _, rfl, H.2⟩

theorem c_X8_agreeing {G : GT} {d : Nat} {M : Mem} {o : Nat} (O : ObAt 8 M o) {a1 : Nat} (Pa1 : mK M a1 = 6)  {Q : Int32 → Mem → Prop} (H : At G (d + 1) 83 4 [(0, .ref o), (1, .ref a1), (2, .int (0 : Int32)), (3, .int (0 : Int32))] [] M (qI Q)) : CI G (d + 1) 83 [.ref o, .ref a1] M Q := by
  refine Cl.ofM (Nat.le_of_ble_eq_true rfl) rfl ?_
  refine vcc ok83 0 [4] ?_
  exact H

theorem c_X8_agreeing_4 {G : GT} {d : Nat} {M : Mem} {o : Nat} (O : ObAt 8 M o) {a1 : Nat} (Pa1 : mK M a1 = 6) {l2 : Int32} {l3 : Int32} {Q : Int32 → Mem → Prop} (H : ((vi M o 6) ≤ l3 → Q l2 M) ∧ (¬ (vi M o 6) ≤ l3 → CI G d 82 [.ref o, .int l3, .int (16 : Int32), .ref a1] M (fun v2 M1 => (ObAt 8 M1 o ∧ mK M1 a1 = 6) ∧ ((v2 = 0 → At G (d + 1) 83 4 [(0, .ref o), (1, .ref a1), (2, .int l2), (3, .int (l3 + (1 : Int32)))] [] M1 (qI Q)) ∧ (¬ v2 = 0 → At G (d + 1) 83 4 [(0, .ref o), (1, .ref a1), (2, .int (l2 + (1 : Int32))), (3, .int (l3 + (1 : Int32)))] [] M1 (qI Q)))))) : At G (d + 1) 83 4 [(0, .ref o), (1, .ref a1), (2, .int l2), (3, .int l3)] [] M (qI Q) := by
  refine vcc ok83 4 [] ?_
  refine And.intro O.1 ?_
  refine And.intro (fun c => ?_) (fun c => ?_)
  · replace H := H.1 c
    exact ⟨fun h => absurd h (by decide), _, rfl, H⟩
  · replace H := H.2 c
    refine And.intro (Nat.le_of_ble_eq_true rfl) ?_
    refine And.intro (Nat.le_of_ble_eq_true rfl) (And.intro O.1 ?_)
    refine Cl.mono H (fun r M1 h => ?_)
    obtain ⟨v2, rfl, H⟩ := h
    obtain ⟨⟨O, Pa1⟩, H⟩ := H
    refine And.intro (fun c => ?_) (fun c => ?_)
    · replace H := H.1 c
      exact H
    · replace H := H.2 c
      exact H

theorem c_X8_toldBeside {G : GT} {d : Nat} {M : Mem} {o : Nat} (O : ObAt 8 M o) {a1 : Int32} {a2 : Int32} {a3 : Int32} {a4 : Int32} {Q : Int32 → Mem → Prop} (H : At G (d + 1) 84 6 [(0, .ref o), (1, .int a1), (2, .int a2), (3, .int a3), (4, .int a4), (5, .int (0 : Int32)), (6, .int (0 : Int32))] [] M (qI Q)) : CI G (d + 1) 84 [.ref o, .int a1, .int a2, .int a3, .int a4] M Q := by
  refine Cl.ofM (Nat.le_of_ble_eq_true rfl) rfl ?_
  refine vcc ok84 0 [6] ?_
  exact H

theorem c_X8_toldBeside_6 {G : GT} {d : Nat} {M : Mem} {o : Nat} (O : ObAt 8 M o) {l1 : Int32} {l2 : Int32} {l3 : Int32} {l4 : Int32} {l5 : Int32} {l6 : Int32} {Q : Int32 → Mem → Prop} (H : ((16 : Int32) ≤ l6 → Q l5 M) ∧ (¬ (16 : Int32) ≤ l6 → CR G d 80 [.ref o, .int l1, .int l6] M (fun o11 M1 => ObAt 8 M1 o ∧ ((∀ r2, o11 = some r2 → (l3 = (6 : Int32) → CI G d 82 [.ref o, .int l1, .int l6, .ref r2] M1 (fun v4 M3 => ObAt 8 M3 o ∧ ((v4 = 0 → CI G d 82 [.ref o, .int l2, .int (16 : Int32), .ref r2] M3 (fun v6 M5 => ObAt 8 M5 o ∧ ((¬ v6 = l4 → At G (d + 1) 84 6 [(0, .ref o), (1, .int l1), (2, .int l2), (3, .int l3), (4, .int l4), (5, .int l5), (6, .int (l6 + (1 : Int32)))] [] M5 (qI Q)) ∧ (v6 = l4 → At G (d + 1) 84 6 [(0, .ref o), (1, .int l1), (2, .int l2), (3, .int l3), (4, .int l4), (5, .int (l5 + (1 : Int32))), (6, .int (l6 + (1 : Int32)))] [] M5 (qI Q))))) ∧ (¬ v4 = 0 → At G (d + 1) 84 6 [(0, .ref o), (1, .int l1), (2, .int l2), (3, .int l3), (4, .int l4), (5, .int l5), (6, .int (l6 + (1 : Int32)))] [] M3 (qI Q))))) ∧ (¬ l3 = (6 : Int32) → mK M1 r2 = 6 ∧ ((¬ (vi M1 r2 0) = l3 → At G (d + 1) 84 6 [(0, .ref o), (1, .int l1), (2, .int l2), (3, .int l3), (4, .int l4), (5, .int l5), (6, .int (l6 + (1 : Int32)))] [] M1 (qI Q)) ∧ ((vi M1 r2 0) = l3 → CI G d 82 [.ref o, .int l1, .int l6, .ref r2] M1 (fun v8 M7 => ObAt 8 M7 o ∧ ((v8 = 0 → CI G d 82 [.ref o, .int l2, .int (16 : Int32), .ref r2] M7 (fun v10 M9 => ObAt 8 M9 o ∧ ((¬ v10 = l4 → At G (d + 1) 84 6 [(0, .ref o), (1, .int l1), (2, .int l2), (3, .int l3), (4, .int l4), (5, .int l5), (6, .int (l6 + (1 : Int32)))] [] M9 (qI Q)) ∧ (v10 = l4 → At G (d + 1) 84 6 [(0, .ref o), (1, .int l1), (2, .int l2), (3, .int l3), (4, .int l4), (5, .int (l5 + (1 : Int32))), (6, .int (l6 + (1 : Int32)))] [] M9 (qI Q))))) ∧ (¬ v8 = 0 → At G (d + 1) 84 6 [(0, .ref o), (1, .int l1), (2, .int l2), (3, .int l3), (4, .int l4), (5, .int l5), (6, .int (l6 + (1 : Int32)))] [] M7 (qI Q)))))))) ∧ (o11 = none → At G (d + 1) 84 6 [(0, .ref o), (1, .int l1), (2, .int l2), (3, .int l3), (4, .int l4), (5, .int l5), (6, .int (l6 + (1 : Int32)))] [] M1 (qI Q)))))) : At G (d + 1) 84 6 [(0, .ref o), (1, .int l1), (2, .int l2), (3, .int l3), (4, .int l4), (5, .int l5), (6, .int l6)] [] M (qI Q) := by
  refine vcc ok84 4 [] ?_
  refine And.intro (fun c => ?_) (fun c => ?_)
  · replace H := H.1 c
    exact ⟨fun h => absurd h (by decide), _, rfl, H⟩
  · replace H := H.2 c
    refine And.intro (Nat.le_of_ble_eq_true rfl) ?_
    refine And.intro (Nat.le_of_ble_eq_true rfl) (And.intro O.1 ?_)
    refine Cl.mono H (fun r M1 h => ?_)
    obtain ⟨o11, rfl, H⟩ := h
    obtain ⟨O, H⟩ := H
    rcases o11 with _ | r2
    · replace H := H.2 rfl
      exact At.keep [0, 1, 2, 3, 4, 5, 6] H
    · replace H := H.1 _ rfl
      refine And.intro (fun c => ?_) (fun c => ?_)
      · replace H := H.1 c
        refine And.intro (Nat.le_of_ble_eq_true rfl) ?_
        refine And.intro (Nat.le_of_ble_eq_true rfl) (And.intro O.1 ?_)
        refine Cl.mono H (fun r M3 h => ?_)
        obtain ⟨v4, rfl, H⟩ := h
        obtain ⟨O, H⟩ := H
        refine And.intro (fun c => ?_) (fun c => ?_)
        · replace H := H.1 c
          refine And.intro (Nat.le_of_ble_eq_true rfl) ?_
          refine And.intro (Nat.le_of_ble_eq_true rfl) (And.intro O.1 ?_)
          refine Cl.mono H (fun r M5 h => ?_)
          obtain ⟨v6, rfl, H⟩ := h
          obtain ⟨O, H⟩ := H
          refine And.intro (fun c => ?_) (fun c => ?_)
          · replace H := H.1 c
            exact At.keep [0, 1, 2, 3, 4, 5, 6] H
          · replace H := H.2 c
            exact At.keep [0, 1, 2, 3, 4, 5, 6] H
        · replace H := H.2 c
          exact At.keep [0, 1, 2, 3, 4, 5, 6] H
      · replace H := H.2 c
        refine And.intro H.1 ?_
        replace H := H.2
        refine And.intro (fun c => ?_) (fun c => ?_)
        · replace H := H.1 c
          exact At.keep [0, 1, 2, 3, 4, 5, 6] H
        · replace H := H.2 c
          refine And.intro (Nat.le_of_ble_eq_true rfl) ?_
          refine And.intro (Nat.le_of_ble_eq_true rfl) (And.intro O.1 ?_)
          refine Cl.mono H (fun r M7 h => ?_)
          obtain ⟨v8, rfl, H⟩ := h
          obtain ⟨O, H⟩ := H
          refine And.intro (fun c => ?_) (fun c => ?_)
          · replace H := H.1 c
            refine And.intro (Nat.le_of_ble_eq_true rfl) ?_
            refine And.intro (Nat.le_of_ble_eq_true rfl) (And.intro O.1 ?_)
            refine Cl.mono H (fun r M9 h => ?_)
            obtain ⟨v10, rfl, H⟩ := h
            obtain ⟨O, H⟩ := H
            refine And.intro (fun c => ?_) (fun c => ?_)
            · replace H := H.1 c
              exact At.keep [0, 1, 2, 3, 4, 5, 6] H
            · replace H := H.2 c
              exact At.keep [0, 1, 2, 3, 4, 5, 6] H
          · replace H := H.2 c
            exact At.keep [0, 1, 2, 3, 4, 5, 6] H

theorem c_X8_toldByOthers {G : GT} {d : Nat} {M : Mem} {o : Nat} (O : ObAt 8 M o) {a1 : Int32} {a2 : Int32} {Q : Int32 → Mem → Prop} (H : At G (d + 1) 85 5 [(0, .ref o), (1, .int a1), (2, .int a2), (3, .int (0 : Int32)), (4, .int (0 : Int32))] [] M (qI Q)) : CI G (d + 1) 85 [.ref o, .int a1, .int a2] M Q := by
  refine Cl.ofM (Nat.le_of_ble_eq_true rfl) rfl ?_
  refine vcc ok85 0 [5] ?_
  exact H

theorem c_X8_toldByOthers_5 {G : GT} {d : Nat} {M : Mem} {o : Nat} (O : ObAt 8 M o) {l1 : Int32} {l2 : Int32} {l3 : Int32} {l4 : Int32} {Q : Int32 → Mem → Prop} (H : ((64 : Int32) ≤ l4 → Q l3 M) ∧ (¬ (64 : Int32) ≤ l4 → vp_in l4 64 ∧ ((∀ r1, (vr M (o + 5) (l4).toNatClampNeg) = some r1 → ¬ (16 : Int32) = 0 ∧ (((l4 / (16 : Int32)) = l1 → At G (d + 1) 85 5 [(0, .ref o), (1, .int l1), (2, .int l2), (3, .int l3), (4, .int (l4 + (1 : Int32)))] [] M (qI Q)) ∧ (¬ (l4 / (16 : Int32)) = l1 → CI G d 86 [.ref o, .int l4, .int l1, .ref r1] M (fun v3 M2 => ObAt 8 M2 o ∧ ((v3 = 0 → (l2 = 0 → At G (d + 1) 85 5 [(0, .ref o), (1, .int l1), (2, .int l2), (3, .int (l3 + (1 : Int32))), (4, .int (l4 + (1 : Int32)))] [] M2 (qI Q)) ∧ (¬ l2 = 0 → CI G d 82 [.ref o, .int l1, .int (16 : Int32), .ref r1] M2 (fun v5 M4 => ObAt 8 M4 o ∧ ((v5 = 0 → At G (d + 1) 85 5 [(0, .ref o), (1, .int l1), (2, .int l2), (3, .int l3), (4, .int (l4 + (1 : Int32)))] [] M4 (qI Q)) ∧ (¬ v5 = 0 → At G (d + 1) 85 5 [(0, .ref o), (1, .int l1), (2, .int l2), (3, .int (l3 + (1 : Int32))), (4, .int (l4 + (1 : Int32)))] [] M4 (qI Q)))))) ∧ (¬ v3 = 0 → At G (d + 1) 85 5 [(0, .ref o), (1, .int l1), (2, .int l2), (3, .int l3), (4, .int (l4 + (1 : Int32)))] [] M2 (qI Q))))))) ∧ ((vr M (o + 5) (l4).toNatClampNeg) = none → ¬ (16 : Int32) = 0 ∧ (At G (d + 1) 85 5 [(0, .ref o), (1, .int l1), (2, .int l2), (3, .int l3), (4, .int (l4 + (1 : Int32)))] [] M (qI Q)))))) : At G (d + 1) 85 5 [(0, .ref o), (1, .int l1), (2, .int l2), (3, .int l3), (4, .int l4)] [] M (qI Q) := by
  refine vcc ok85 4 [] ?_
  refine And.intro (fun c => ?_) (fun c => ?_)
  · replace H := H.1 c
    exact ⟨fun h => absurd h (by decide), _, rfl, H⟩
  · replace H := H.2 c
    refine And.intro O.1 ?_
    refine Or.inl ⟨_, (ob8_r7 O), ?_⟩
    refine ⟨(k18 (ob8_k7 O)), vp_cst (ob8_l7 O) H.1, ?_⟩
    replace H := H.2
    refine wRef_i (fun r1 hr => ?_) (fun hr => ?_)
    · replace H := H.1 _ hr
      refine And.intro H.1 ?_
      replace H := H.2
      refine And.intro (fun c => ?_) (fun c => ?_)
      · replace H := H.1 c
        exact At.keep [0, 1, 2, 3, 4] H
      · replace H := H.2 c
        refine And.intro (Nat.le_of_ble_eq_true rfl) ?_
        refine And.intro (Nat.le_of_ble_eq_true rfl) (And.intro O.1 ?_)
        refine Cl.mono H (fun r M2 h => ?_)
        obtain ⟨v3, rfl, H⟩ := h
        obtain ⟨O, H⟩ := H
        refine And.intro (fun c => ?_) (fun c => ?_)
        · replace H := H.1 c
          refine And.intro (fun c => ?_) (fun c => ?_)
          · replace H := H.1 c
            exact At.keep [0, 1, 2, 3, 4] H
          · replace H := H.2 c
            refine And.intro (Nat.le_of_ble_eq_true rfl) ?_
            refine And.intro (Nat.le_of_ble_eq_true rfl) (And.intro O.1 ?_)
            refine Cl.mono H (fun r M4 h => ?_)
            obtain ⟨v5, rfl, H⟩ := h
            obtain ⟨O, H⟩ := H
            refine And.intro (fun c => ?_) (fun c => ?_)
            · replace H := H.1 c
              exact At.keep [0, 1, 2, 3, 4] H
            · replace H := H.2 c
              exact At.keep [0, 1, 2, 3, 4] H
        · replace H := H.2 c
          exact At.keep [0, 1, 2, 3, 4] H
    · replace H := H.2 hr
      refine And.intro H.1 ?_
      replace H := H.2
      exact At.keep [0, 1, 2, 3, 4] H

theorem c_X8_toldEarlier {G : GT} {d : Nat} {M : Mem} {o : Nat} (O : ObAt 8 M o) {a3 : Nat} (Pa3 : mK M a3 = 6) {a1 : Int32} {a2 : Int32} {Q : Int32 → Mem → Prop} (H : At G (d + 1) 86 3 [(0, .ref o), (1, .int a1), (2, .int a2), (3, .ref a3), (4, .int (0 : Int32))] [] M (qI Q)) : CI G (d + 1) 86 [.ref o, .int a1, .int a2, .ref a3] M Q := by
  refine Cl.ofM (Nat.le_of_ble_eq_true rfl) rfl ?_
  refine vcc ok86 0 [3] ?_
  exact H

theorem c_X8_toldEarlier_3 {G : GT} {d : Nat} {M : Mem} {o : Nat} (O : ObAt 8 M o) {a3 : Nat} (Pa3 : mK M a3 = 6) {l1 : Int32} {l2 : Int32} {l4 : Int32} {Q : Int32 → Mem → Prop} (H : (l1 ≤ l4 → ((0 : Int32) = 0 ∨ (0 : Int32) = 1) ∧ Q (0 : Int32) M) ∧ (¬ l1 ≤ l4 → ((64 : Int32) ≤ l4 → ((0 : Int32) = 0 ∨ (0 : Int32) = 1) ∧ Q (0 : Int32) M) ∧ (¬ (64 : Int32) ≤ l4 → vp_in l4 64 ∧ ((∀ r1, (vr M (o + 5) (l4).toNatClampNeg) = some r1 → ¬ (16 : Int32) = 0 ∧ (((l4 / (16 : Int32)) = l2 → At G (d + 1) 86 3 [(0, .ref o), (1, .int l1), (2, .int l2), (3, .ref a3), (4, .int (l4 + (1 : Int32)))] [] M (qI Q)) ∧ (¬ (l4 / (16 : Int32)) = l2 → mK M r1 = 6 ∧ CI G d 48 [.ref r1, .ref a3] M (fun v3 M2 => (ObAt 8 M2 o ∧ mK M2 a3 = 6) ∧ ((v3 = 0 → At G (d + 1) 86 3 [(0, .ref o), (1, .int l1), (2, .int l2), (3, .ref a3), (4, .int (l4 + (1 : Int32)))] [] M2 (qI Q)) ∧ (¬ v3 = 0 → ((1 : Int32) = 0 ∨ (1 : Int32) = 1) ∧ Q (1 : Int32) M2)))))) ∧ ((vr M (o + 5) (l4).toNatClampNeg) = none → At G (d + 1) 86 3 [(0, .ref o), (1, .int l1), (2, .int l2), (3, .ref a3), (4, .int (l4 + (1 : Int32)))] [] M (qI Q)))))) : At G (d + 1) 86 3 [(0, .ref o), (1, .int l1), (2, .int l2), (3, .ref a3), (4, .int l4)] [] M (qI Q) := by
  refine vcc ok86 2 [] ?_
  refine And.intro (fun c => ?_) (fun c => ?_)
  · replace H := H.1 c
    exact ⟨fun _ => H.1, _, rfl, H.2⟩
  · replace H := H.2 c
    refine And.intro (fun c => ?_) (fun c => ?_)
    · replace H := H.1 c
      exact ⟨fun _ => H.1, _, rfl, H.2⟩
    · replace H := H.2 c
      refine And.intro O.1 ?_
      refine Or.inl ⟨_, (ob8_r7 O), ?_⟩
      refine ⟨(k18 (ob8_k7 O)), vp_cst (ob8_l7 O) H.1, ?_⟩
      replace H := H.2
      refine wRef_i (fun r1 hr => ?_) (fun hr => ?_)
      · replace H := H.1 _ hr
        refine And.intro H.1 ?_
        replace H := H.2
        refine And.intro (fun c => ?_) (fun c => ?_)
        · replace H := H.1 c
          exact At.keep [0, 1, 2, 3, 4] H
        · replace H := H.2 c
          refine And.intro (Nat.le_of_ble_eq_true rfl) ?_
          refine And.intro (Nat.le_of_ble_eq_true rfl) (And.intro H.1 ?_)
          replace H := H.2
          refine Cl.mono H (fun r M2 h => ?_)
          obtain ⟨v3, rfl, H⟩ := h
          obtain ⟨⟨O, Pa3⟩, H⟩ := H
          refine And.intro (fun c => ?_) (fun c => ?_)
          · replace H := H.1 c
            exact At.keep [0, 1, 2, 3, 4] H
          · replace H := H.2 c
            exact ⟨fun _ => H.1, _, rfl, H.2⟩
      · replace H := H.2 hr
        exact At.keep [0, 1, 2, 3, 4] H
