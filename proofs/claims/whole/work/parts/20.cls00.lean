/-! THE CLASS, block by block: by program (wip/tools/clsall.py) -/
theorem c_X0_compose {G : GT} {d : Nat} {M : Mem} {o : Nat} (O : ObAt 0 M o) {a1 : Nat} (Pa1 : ObAt 8 M a1) {a2 : Nat} {a3 : Int32} {Q : Mem → Prop} (H : CV G d 2 [.ref o, .int (vi M a1 1)] M (fun M1 => (ObAt 0 M1 o ∧ ObAt 8 M1 a1) ∧ ((14 ≤ mK M1 a2 ∧ mK M1 a2 ≤ 21) ∧ (CV G d 3 [.ref o, .ref a2, .int (if (if (64 : Int32) < (nI (mA M1 a2)) then (64 : Int32) else (nI (mA M1 a2))) < a3 then (if (64 : Int32) < (nI (mA M1 a2)) then (64 : Int32) else (nI (mA M1 a2))) else a3)] M1 (fun M2 => (ObAt 0 M2 o ∧ ObAt 8 M2 a1) ∧ (At G (d + 1) 1 31 [(0, .ref o), (1, .ref a1), (2, .ref a2), (4, .int (if (if (64 : Int32) < (nI (mA M1 a2)) then (64 : Int32) else (nI (mA M1 a2))) < a3 then (if (64 : Int32) < (nI (mA M1 a2)) then (64 : Int32) else (nI (mA M1 a2))) else a3)), (5, .int (0 : Int32))] [] M2 (qV Q))))))) : CV G (d + 1) 1 [.ref o, .ref a1, .ref a2, .int a3] M Q := by
  refine Cl.ofM (Nat.le_of_ble_eq_true rfl) rfl ?_
  refine vcc ok1 0 [31, 72] ?_
  refine And.intro Pa1.1 ?_
  refine And.intro (Nat.le_of_ble_eq_true rfl) ?_
  refine And.intro (Nat.le_of_ble_eq_true rfl) (And.intro O.1 ?_)
  refine Cl.mono H (fun r M1 h => ?_)
  obtain ⟨rfl, H⟩ := h
  obtain ⟨⟨O, Pa1⟩, H⟩ := H
  refine Or.inl ⟨H.1, ?_⟩
  replace H := H.2
  refine And.intro (Nat.le_of_ble_eq_true rfl) ?_
  refine And.intro (Nat.le_of_ble_eq_true rfl) ?_
  refine And.intro (Nat.le_of_ble_eq_true rfl) ?_
  refine And.intro (Nat.le_of_ble_eq_true rfl) (And.intro O.1 ?_)
  refine Cl.mono H (fun r M2 h => ?_)
  obtain ⟨rfl, H⟩ := h
  obtain ⟨⟨O, Pa1⟩, H⟩ := H
  exact At.keep [0, 1, 2, 4, 5] H

theorem c_X0_compose_31 {G : GT} {d : Nat} {M : Mem} {o : Nat} (O : ObAt 0 M o) {a1 : Nat} (Pa1 : ObAt 8 M a1) {a2 : Nat} {l4 : Int32} {l5 : Int32} {Q : Mem → Prop} (H : (l4 ≤ l5 → ∀ M3, M3 = seti M o 1 (0 : Int32) → At G (d + 1) 1 72 [(0, .ref o), (1, .ref a1), (5, .int (0 : Int32)), (6, .int (0 : Int32))] [] M3 (qV Q)) ∧ (¬ l4 ≤ l5 → (18 ≤ mK M a2 ∧ mK M a2 ≤ 21) ∧ vp_in l5 (mA M a2) ∧ ((∀ r4, (vr M a2 (l5).toNatClampNeg) = some r4 → CV G d 7 [.ref o, .ref r4] M (fun M5 => (ObAt 0 M5 o ∧ ObAt 8 M5 a1) ∧ (At G (d + 1) 1 31 [(0, .ref o), (1, .ref a1), (2, .ref a2), (4, .int l4), (5, .int (l5 + (1 : Int32)))] [] M5 (qV Q)))) ∧ ((vr M a2 (l5).toNatClampNeg) = none → At G (d + 1) 1 31 [(0, .ref o), (1, .ref a1), (2, .ref a2), (4, .int l4), (5, .int (l5 + (1 : Int32)))] [] M (qV Q))))) : At G (d + 1) 1 31 [(0, .ref o), (1, .ref a1), (2, .ref a2), (4, .int l4), (5, .int l5)] [] M (qV Q) := by
  refine vcc ok1 17 [72] ?_
  refine And.intro (fun c => ?_) (fun c => ?_)
  · replace H := H.1 c
    refine And.intro O.1 ?_
    refine And.intro (Or.inl rfl) (And.intro (fun h => absurd h (by decide)) ?_)
    replace H := H _ rfl
    exact At.keep [0, 1, 5, 6] H
  · replace H := H.2 c
    refine ⟨H.1, H.2.1, ?_⟩
    replace H := H.2.2
    refine wRef_i (fun r4 hr => ?_) (fun hr => ?_)
    · replace H := H.1 _ hr
      refine And.intro (Nat.le_of_ble_eq_true rfl) ?_
      refine And.intro (Nat.le_of_ble_eq_true rfl) (And.intro O.1 ?_)
      refine Cl.mono H (fun r M5 h => ?_)
      obtain ⟨rfl, H⟩ := h
      obtain ⟨⟨O, Pa1⟩, H⟩ := H
      exact At.keep [0, 1, 2, 4, 5] H
    · replace H := H.2 hr
      exact At.keep [0, 1, 2, 4, 5] H

theorem c_X0_compose_72 {G : GT} {d : Nat} {M : Mem} {o : Nat} (O : ObAt 0 M o) {a1 : Nat} (Pa1 : ObAt 8 M a1) {a2 : Nat} {l5 : Int32} {l6 : Int32} {Q : Mem → Prop} (H : ((401 : Int32) ≤ l6 → Q M) ∧ (¬ (401 : Int32) ≤ l6 → (l5 < 0 → Q M) ∧ (¬ l5 < 0 → ((401 : Int32) ≤ l5 → Q M) ∧ (¬ (401 : Int32) ≤ l5 → ¬ (2 : Int32) = 0 ∧ ((¬ (l5 - l5 / (2 : Int32) * (2 : Int32)) = 0 → ¬ (2 : Int32) = 0 ∧ (vp_in (l5 / (2 : Int32)) 200 ∧ (¬ (2 : Int32) = 0 ∧ (vp_in (l5 / (2 : Int32)) 200 ∧ (CV G d 9 [.ref o, .int (vi M (a1 + 1) ((l5 / (2 : Int32))).toNatClampNeg), .int (vi M (o + 4) ((l5 / (2 : Int32))).toNatClampNeg)] M (fun M6 => (ObAt 0 M6 o ∧ ObAt 8 M6 a1) ∧ (vp_in l5 401 ∧ (At G (d + 1) 1 72 [(0, .ref o), (1, .ref a1), (5, .int (vi M6 (o + 2) (l5).toNatClampNeg)), (6, .int (l6 + (1 : Int32)))] [] M6 (qV Q))))))))) ∧ ((l5 - l5 / (2 : Int32) * (2 : Int32)) = 0 → ¬ (2 : Int32) = 0 ∧ (vp_in (l5 / (2 : Int32)) 201 ∧ ((∀ r7, (vr M (o + 5) ((l5 / (2 : Int32))).toNatClampNeg) = some r7 → CV G d 8 [.ref o, .ref r7] M (fun M8 => (ObAt 0 M8 o ∧ ObAt 8 M8 a1) ∧ (vp_in l5 401 ∧ (At G (d + 1) 1 72 [(0, .ref o), (1, .ref a1), (5, .int (vi M8 (o + 2) (l5).toNatClampNeg)), (6, .int (l6 + (1 : Int32)))] [] M8 (qV Q))))) ∧ ((vr M (o + 5) ((l5 / (2 : Int32))).toNatClampNeg) = none → CV G d 8 [.ref o, .null] M (fun M9 => (ObAt 0 M9 o ∧ ObAt 8 M9 a1) ∧ (vp_in l5 401 ∧ (At G (d + 1) 1 72 [(0, .ref o), (1, .ref a1), (5, .int (vi M9 (o + 2) (l5).toNatClampNeg)), (6, .int (l6 + (1 : Int32)))] [] M9 (qV Q))))))))))))) : At G (d + 1) 1 72 [(0, .ref o), (1, .ref a1), (5, .int l5), (6, .int l6)] [] M (qV Q) := by
  refine vcc ok1 38 [31] ?_
  refine And.intro (fun c => ?_) (fun c => ?_)
  · replace H := H.1 c
    exact ⟨rfl, H⟩
  · replace H := H.2 c
    refine And.intro (fun c => ?_) (fun c => ?_)
    · replace H := H.1 c
      exact ⟨rfl, H⟩
    · replace H := H.2 c
      refine And.intro (fun c => ?_) (fun c => ?_)
      · replace H := H.1 c
        exact ⟨rfl, H⟩
      · replace H := H.2 c
        refine And.intro H.1 ?_
        replace H := H.2
        refine And.intro (fun c => ?_) (fun c => ?_)
        · replace H := H.1 c
          refine And.intro Pa1.1 ?_
          refine Or.inl ⟨_, (ob8_r0 Pa1), ?_⟩
          refine And.intro H.1 ?_
          replace H := H.2
          refine Or.inl ⟨(ob8_k0 Pa1), vp_cst (ob8_l0 Pa1) H.1, ?_⟩
          replace H := H.2
          refine And.intro O.1 ?_
          refine Or.inl ⟨_, (ob0_r4 O), ?_⟩
          refine And.intro H.1 ?_
          replace H := H.2
          refine Or.inl ⟨(ob0_k4 O), vp_cst (ob0_l4 O) H.1, ?_⟩
          replace H := H.2
          refine And.intro (Nat.le_of_ble_eq_true rfl) ?_
          refine And.intro (Nat.le_of_ble_eq_true rfl) (And.intro O.1 ?_)
          refine Cl.mono H (fun r M6 h => ?_)
          obtain ⟨rfl, H⟩ := h
          obtain ⟨⟨O, Pa1⟩, H⟩ := H
          refine And.intro O.1 ?_
          refine Or.inl ⟨_, (ob0_r2 O), ?_⟩
          refine Or.inl ⟨(ob0_k2 O), vp_cst (ob0_l2 O) H.1, ?_⟩
          replace H := H.2
          exact H
        · replace H := H.2 c
          refine And.intro O.1 ?_
          refine Or.inl ⟨_, (ob0_r5 O), ?_⟩
          refine And.intro H.1 ?_
          replace H := H.2
          refine ⟨(k18 (ob0_k5 O)), vp_cst (ob0_l5 O) H.1, ?_⟩
          replace H := H.2
          refine wRef_i (fun r7 hr => ?_) (fun hr => ?_)
          · replace H := H.1 _ hr
            refine And.intro (Nat.le_of_ble_eq_true rfl) ?_
            refine And.intro (Nat.le_of_ble_eq_true rfl) (And.intro O.1 ?_)
            refine Cl.mono H (fun r M8 h => ?_)
            obtain ⟨rfl, H⟩ := h
            obtain ⟨⟨O, Pa1⟩, H⟩ := H
            refine And.intro O.1 ?_
            refine Or.inl ⟨_, (ob0_r2 O), ?_⟩
            refine Or.inl ⟨(ob0_k2 O), vp_cst (ob0_l2 O) H.1, ?_⟩
            replace H := H.2
            exact H
          · replace H := H.2 hr
            refine And.intro (Nat.le_of_ble_eq_true rfl) ?_
            refine And.intro (Nat.le_of_ble_eq_true rfl) (And.intro O.1 ?_)
            refine Cl.mono H (fun r M9 h => ?_)
            obtain ⟨rfl, H⟩ := h
            obtain ⟨⟨O, Pa1⟩, H⟩ := H
            refine And.intro O.1 ?_
            refine Or.inl ⟨_, (ob0_r2 O), ?_⟩
            refine Or.inl ⟨(ob0_k2 O), vp_cst (ob0_l2 O) H.1, ?_⟩
            replace H := H.2
            exact H

theorem c_X0_hang {G : GT} {d : Nat} {M : Mem} {o : Nat} (O : ObAt 0 M o) {a1 : Int32} {Q : Mem → Prop} (H : At G (d + 1) 2 6 [(0, .ref o), (1, .int a1), (2, .int ((2 : Int32) * a1)), (3, .int (0 : Int32))] [] M (qV Q)) : CV G (d + 1) 2 [.ref o, .int a1] M Q := by
  refine Cl.ofM (Nat.le_of_ble_eq_true rfl) rfl ?_
  refine vcc ok2 0 [6, 53, 80] ?_
  exact H

theorem c_X0_hang_6 {G : GT} {d : Nat} {M : Mem} {o : Nat} (O : ObAt 0 M o) {l1 : Int32} {l2 : Int32} {l3 : Int32} {Q : Mem → Prop} (H : (l2 < l3 → At G (d + 1) 2 53 [(0, .ref o), (1, .int l1), (3, .int (0 : Int32))] [] M (qV Q)) ∧ (¬ l2 < l3 → ((401 : Int32) ≤ l3 → At G (d + 1) 2 53 [(0, .ref o), (1, .int l1), (3, .int (0 : Int32))] [] M (qV Q)) ∧ (¬ (401 : Int32) ≤ l3 → (l2 ≤ l3 → vp_in l3 401 ∧ (∀ M1, M1 = seti M (o + 2) (l3).toNatClampNeg (-1 : Int32) → vp_in l3 401 ∧ (∀ M2, M2 = seti M1 (o + 3) (l3).toNatClampNeg (l3 - (1 : Int32)) → At G (d + 1) 2 6 [(0, .ref o), (1, .int l1), (2, .int l2), (3, .int (l3 + (1 : Int32)))] [] M2 (qV Q)))) ∧ (¬ l2 ≤ l3 → vp_in l3 401 ∧ (∀ M3, M3 = seti M (o + 2) (l3).toNatClampNeg (l3 + (1 : Int32)) → vp_in l3 401 ∧ (∀ M4, M4 = seti M3 (o + 3) (l3).toNatClampNeg (l3 - (1 : Int32)) → At G (d + 1) 2 6 [(0, .ref o), (1, .int l1), (2, .int l2), (3, .int (l3 + (1 : Int32)))] [] M4 (qV Q))))))) : At G (d + 1) 2 6 [(0, .ref o), (1, .int l1), (2, .int l2), (3, .int l3)] [] M (qV Q) := by
  refine vcc ok2 6 [53, 80] ?_
  refine And.intro (fun c => ?_) (fun c => ?_)
  · replace H := H.1 c
    exact At.keep [0, 1, 3] H
  · replace H := H.2 c
    refine And.intro (fun c => ?_) (fun c => ?_)
    · replace H := H.1 c
      exact At.keep [0, 1, 3] H
    · replace H := H.2 c
      refine And.intro O.1 ?_
      refine Or.inl ⟨_, (ob0_r2 O), ?_⟩
      refine And.intro (fun c => ?_) (fun c => ?_)
      · replace H := H.1 c
        refine ⟨(ob0_k2 O), vp_cst (ob0_l2 O) H.1, ?_⟩
        replace H := H.2
        replace H := H _ rfl
        refine And.intro O.1 ?_
        refine Or.inl ⟨_, (ob0_r3 O), ?_⟩
        refine ⟨(ob0_k3 O), vp_cst (ob0_l3 O) H.1, ?_⟩
        replace H := H.2
        replace H := H _ rfl
        exact H
      · replace H := H.2 c
        refine ⟨(ob0_k2 O), vp_cst (ob0_l2 O) H.1, ?_⟩
        replace H := H.2
        replace H := H _ rfl
        refine And.intro O.1 ?_
        refine Or.inl ⟨_, (ob0_r3 O), ?_⟩
        refine ⟨(ob0_k3 O), vp_cst (ob0_l3 O) H.1, ?_⟩
        replace H := H.2
        replace H := H _ rfl
        exact H

theorem c_X0_hang_53 {G : GT} {d : Nat} {M : Mem} {o : Nat} (O : ObAt 0 M o) {l1 : Int32} {l3 : Int32} {Q : Mem → Prop} (H : (l1 < l3 → At G (d + 1) 2 80 [(0, .ref o), (1, .int l1), (3, .int (0 : Int32))] [] M (qV Q)) ∧ (¬ l1 < l3 → ((200 : Int32) < l3 → At G (d + 1) 2 80 [(0, .ref o), (1, .int l1), (3, .int (0 : Int32))] [] M (qV Q)) ∧ (¬ (200 : Int32) < l3 → vp_in l3 201 ∧ (∀ M5, M5 = setr M (o + 5) (l3).toNatClampNeg none → At G (d + 1) 2 53 [(0, .ref o), (1, .int l1), (3, .int (l3 + (1 : Int32)))] [] M5 (qV Q))))) : At G (d + 1) 2 53 [(0, .ref o), (1, .int l1), (3, .int l3)] [] M (qV Q) := by
  refine vcc ok2 35 [6, 80] ?_
  refine And.intro (fun c => ?_) (fun c => ?_)
  · replace H := H.1 c
    exact H
  · replace H := H.2 c
    refine And.intro (fun c => ?_) (fun c => ?_)
    · replace H := H.1 c
      exact H
    · replace H := H.2 c
      refine And.intro O.1 ?_
      refine Or.inl ⟨_, (ob0_r5 O), ?_⟩
      refine ⟨(k18 (ob0_k5 O)), vp_cst (ob0_l5 O) H.1, ?_⟩
      replace H := H.2
      replace H := H _ rfl
      exact H

theorem c_X0_hang_80 {G : GT} {d : Nat} {M : Mem} {o : Nat} (O : ObAt 0 M o) {l1 : Int32} {l3 : Int32} {Q : Mem → Prop} (H : (l1 ≤ l3 → Q M) ∧ (¬ l1 ≤ l3 → ((200 : Int32) ≤ l3 → Q M) ∧ (¬ (200 : Int32) ≤ l3 → vp_in l3 200 ∧ (∀ M6, M6 = seti M (o + 4) (l3).toNatClampNeg (-1 : Int32) → At G (d + 1) 2 80 [(0, .ref o), (1, .int l1), (3, .int (l3 + (1 : Int32)))] [] M6 (qV Q))))) : At G (d + 1) 2 80 [(0, .ref o), (1, .int l1), (3, .int l3)] [] M (qV Q) := by
  refine vcc ok2 50 [6, 53] ?_
  refine And.intro (fun c => ?_) (fun c => ?_)
  · replace H := H.1 c
    exact ⟨rfl, H⟩
  · replace H := H.2 c
    refine And.intro (fun c => ?_) (fun c => ?_)
    · replace H := H.1 c
      exact ⟨rfl, H⟩
    · replace H := H.2 c
      refine And.intro O.1 ?_
      refine Or.inl ⟨_, (ob0_r4 O), ?_⟩
      refine ⟨(ob0_k4 O), vp_cst (ob0_l4 O) H.1, ?_⟩
      replace H := H.2
      replace H := H _ rfl
      exact H

theorem c_X0_doMoves {G : GT} {d : Nat} {M : Mem} {o : Nat} (O : ObAt 0 M o) {a1 : Nat} {a2 : Int32} {Q : Mem → Prop} (H : CV G d 272 [.ref (o + 6), .int (0 : Int32)] M (fun M1 => ObAt 0 M1 o ∧ (At G (d + 1) 3 10 [(0, .ref o), (1, .ref a1), (2, .int a2), (3, .int (0 : Int32))] [] M1 (qV Q)))) : CV G (d + 1) 3 [.ref o, .ref a1, .int a2] M Q := by
  refine Cl.ofM (Nat.le_of_ble_eq_true rfl) rfl ?_
  refine vcc ok3 0 [10, 38] ?_
  refine And.intro O.1 ?_
  refine Or.inl ⟨_, (ob0_r6 O), ?_⟩
  refine And.intro (Nat.le_of_ble_eq_true rfl) ?_
  refine And.intro (Nat.le_of_ble_eq_true rfl) ?_
  refine Cl.mono H (fun r M1 h => ?_)
  obtain ⟨rfl, H⟩ := h
  obtain ⟨O, H⟩ := H
  exact H

theorem c_X0_doMoves_10 {G : GT} {d : Nat} {M : Mem} {o : Nat} (O : ObAt 0 M o) {a1 : Nat} {l2 : Int32} {l3 : Int32} {Q : Mem → Prop} (H : (l2 ≤ l3 → Q M) ∧ (¬ l2 ≤ l3 → CR G d 4 [.ref o, .ref a1, .int l2] M (fun o5 M2 => ObAt 0 M2 o ∧ ((∀ r3, o5 = some r3 → CV G d 5 [.ref o, .ref r3] M2 (fun M4 => ObAt 0 M4 o ∧ (At G (d + 1) 3 38 [(0, .ref o), (1, .ref a1), (2, .int l2), (3, .int l3), (4, .ref r3), (5, .int (0 : Int32))] [] M4 (qV Q)))) ∧ (o5 = none → Q M2))))) : At G (d + 1) 3 10 [(0, .ref o), (1, .ref a1), (2, .int l2), (3, .int l3)] [] M (qV Q) := by
  refine vcc ok3 6 [38] ?_
  refine And.intro (fun c => ?_) (fun c => ?_)
  · replace H := H.1 c
    exact ⟨rfl, H⟩
  · replace H := H.2 c
    refine And.intro (Nat.le_of_ble_eq_true rfl) ?_
    refine And.intro (Nat.le_of_ble_eq_true rfl) (And.intro O.1 ?_)
    refine Cl.mono H (fun r M2 h => ?_)
    obtain ⟨o5, rfl, H⟩ := h
    obtain ⟨O, H⟩ := H
    rcases o5 with _ | r3
    · replace H := H.2 rfl
      exact ⟨rfl, H⟩
    · replace H := H.1 _ rfl
      refine And.intro (Nat.le_of_ble_eq_true rfl) ?_
      refine And.intro (Nat.le_of_ble_eq_true rfl) (And.intro O.1 ?_)
      refine Cl.mono H (fun r M4 h => ?_)
      obtain ⟨rfl, H⟩ := h
      obtain ⟨O, H⟩ := H
      exact H

theorem c_X0_doMoves_38 {G : GT} {d : Nat} {M : Mem} {o : Nat} (O : ObAt 0 M o) {a1 : Nat} {l2 : Int32} {l3 : Int32} {l4 : Nat} {l5 : Int32} {Q : Mem → Prop} (H : (l2 ≤ l5 → At G (d + 1) 3 10 [(0, .ref o), (1, .ref a1), (2, .int l2), (3, .int (l3 + (1 : Int32)))] [] M (qV Q)) ∧ (¬ l2 ≤ l5 → ((64 : Int32) ≤ l5 → At G (d + 1) 3 10 [(0, .ref o), (1, .ref a1), (2, .int l2), (3, .int (l3 + (1 : Int32)))] [] M (qV Q)) ∧ (¬ (64 : Int32) ≤ l5 → (14 ≤ mK M a1 ∧ mK M a1 ≤ 21) ∧ (((nI (mA M a1)) ≤ l5 → At G (d + 1) 3 10 [(0, .ref o), (1, .ref a1), (2, .int l2), (3, .int (l3 + (1 : Int32)))] [] M (qV Q)) ∧ (¬ (nI (mA M a1)) ≤ l5 → (18 ≤ mK M a1 ∧ mK M a1 ≤ 21) ∧ vp_in l5 (mA M a1) ∧ ((∀ r6, (vr M a1 (l5).toNatClampNeg) = some r6 → mK M r6 = 6 ∧ CI G d 48 [.ref r6, .ref l4] M (fun v8 M7 => ObAt 0 M7 o ∧ ((v8 = 0 → At G (d + 1) 3 38 [(0, .ref o), (1, .ref a1), (2, .int l2), (3, .int l3), (4, .ref l4), (5, .int (l5 + (1 : Int32)))] [] M7 (qV Q)) ∧ (¬ v8 = 0 → vp_in l5 64 ∧ (∀ M9, M9 = seti M7 (o + 6) (l5).toNatClampNeg (1 : Int32) → At G (d + 1) 3 38 [(0, .ref o), (1, .ref a1), (2, .int l2), (3, .int l3), (4, .ref l4), (5, .int (l5 + (1 : Int32)))] [] M9 (qV Q)))))) ∧ ((vr M a1 (l5).toNatClampNeg) = none → At G (d + 1) 3 38 [(0, .ref o), (1, .ref a1), (2, .int l2), (3, .int l3), (4, .ref l4), (5, .int (l5 + (1 : Int32)))] [] M (qV Q)))))))) : At G (d + 1) 3 38 [(0, .ref o), (1, .ref a1), (2, .int l2), (3, .int l3), (4, .ref l4), (5, .int l5)] [] M (qV Q) := by
  refine vcc ok3 22 [10] ?_
  refine And.intro (fun c => ?_) (fun c => ?_)
  · replace H := H.1 c
    exact At.keep [0, 1, 2, 3] H
  · replace H := H.2 c
    refine And.intro (fun c => ?_) (fun c => ?_)
    · replace H := H.1 c
      exact At.keep [0, 1, 2, 3] H
    · replace H := H.2 c
      refine Or.inl ⟨H.1, ?_⟩
      replace H := H.2
      refine And.intro (fun c => ?_) (fun c => ?_)
      · replace H := H.1 c
        exact At.keep [0, 1, 2, 3] H
      · replace H := H.2 c
        refine ⟨H.1, H.2.1, ?_⟩
        replace H := H.2.2
        refine wRef_i (fun r6 hr => ?_) (fun hr => ?_)
        · replace H := H.1 _ hr
          refine And.intro (Nat.le_of_ble_eq_true rfl) ?_
          refine And.intro (Nat.le_of_ble_eq_true rfl) (And.intro H.1 ?_)
          replace H := H.2
          refine Cl.mono H (fun r M7 h => ?_)
          obtain ⟨v8, rfl, H⟩ := h
          obtain ⟨O, H⟩ := H
          refine And.intro (fun c => ?_) (fun c => ?_)
          · replace H := H.1 c
            exact At.keep [0, 1, 2, 3, 4, 5] H
          · replace H := H.2 c
            refine And.intro O.1 ?_
            refine Or.inl ⟨_, (ob0_r6 O), ?_⟩
            refine ⟨(ob0_k6 O), vp_cst (ob0_l6 O) H.1, ?_⟩
            replace H := H.2
            replace H := H _ rfl
            exact At.keep [0, 1, 2, 3, 4, 5] H
        · replace H := H.2 hr
          exact At.keep [0, 1, 2, 3, 4, 5] H

theorem c_X0_widestMove {G : GT} {d : Nat} {M : Mem} {o : Nat} (O : ObAt 0 M o) {a1 : Nat} {a2 : Int32} {Q : Option Nat → Mem → Prop} (H : At G (d + 1) 4 5 [(0, .ref o), (1, .ref a1), (2, .int a2), (3, .null), (4, .int (0 : Int32))] [] M (qR Q)) : CR G (d + 1) 4 [.ref o, .ref a1, .int a2] M Q := by
  refine Cl.ofM (Nat.le_of_ble_eq_true rfl) rfl ?_
  refine vcc ok4 0 [5] ?_
  exact H

theorem c_X0_widestMove_5n3 {G : GT} {d : Nat} {M : Mem} {o : Nat} (O : ObAt 0 M o) {a1 : Nat} {l2 : Int32} {l4 : Int32} {Q : Option Nat → Mem → Prop} (H : (l2 ≤ l4 → Q none M) ∧ (¬ l2 ≤ l4 → ((64 : Int32) ≤ l4 → Q none M) ∧ (¬ (64 : Int32) ≤ l4 → (14 ≤ mK M a1 ∧ mK M a1 ≤ 21) ∧ (((nI (mA M a1)) ≤ l4 → Q none M) ∧ (¬ (nI (mA M a1)) ≤ l4 → (18 ≤ mK M a1 ∧ mK M a1 ≤ 21) ∧ vp_in l4 (mA M a1) ∧ ((∀ r1, (vr M a1 (l4).toNatClampNeg) = some r1 → mK M r1 = 6 ∧ ((¬ (vi M r1 0) = (4 : Int32) → At G (d + 1) 4 5 [(0, .ref o), (1, .ref a1), (2, .int l2), (3, .null), (4, .int (l4 + (1 : Int32)))] [] M (qR Q)) ∧ ((vi M r1 0) = (4 : Int32) → vp_in l4 64 ∧ (((vi M (o + 6) (l4).toNatClampNeg) = 0 → At G (d + 1) 4 5 [(0, .ref o), (1, .ref a1), (2, .int l2), (3, .ref r1), (4, .int (l4 + (1 : Int32)))] [] M (qR Q)) ∧ (¬ (vi M (o + 6) (l4).toNatClampNeg) = 0 → At G (d + 1) 4 5 [(0, .ref o), (1, .ref a1), (2, .int l2), (3, .null), (4, .int (l4 + (1 : Int32)))] [] M (qR Q)))))) ∧ ((vr M a1 (l4).toNatClampNeg) = none → At G (d + 1) 4 5 [(0, .ref o), (1, .ref a1), (2, .int l2), (3, .null), (4, .int (l4 + (1 : Int32)))] [] M (qR Q)))))))) : At G (d + 1) 4 5 [(0, .ref o), (1, .ref a1), (2, .int l2), (3, .null), (4, .int l4)] [] M (qR Q) := by
  refine vcc ok4 4 [] ?_
  refine And.intro (fun c => ?_) (fun c => ?_)
  · replace H := H.1 c
    exact ⟨none, rfl, H⟩
  · replace H := H.2 c
    refine And.intro (fun c => ?_) (fun c => ?_)
    · replace H := H.1 c
      exact ⟨none, rfl, H⟩
    · replace H := H.2 c
      refine Or.inl ⟨H.1, ?_⟩
      replace H := H.2
      refine And.intro (fun c => ?_) (fun c => ?_)
      · replace H := H.1 c
        exact ⟨none, rfl, H⟩
      · replace H := H.2 c
        refine ⟨H.1, H.2.1, ?_⟩
        replace H := H.2.2
        refine wRef_i (fun r1 hr => ?_) (fun hr => ?_)
        · replace H := H.1 _ hr
          refine And.intro H.1 ?_
          replace H := H.2
          refine And.intro (fun c => ?_) (fun c => ?_)
          · replace H := H.1 c
            exact At.keep [0, 1, 2, 3, 4] H
          · replace H := H.2 c
            refine And.intro O.1 ?_
            refine Or.inl ⟨_, (ob0_r6 O), ?_⟩
            refine Or.inl ⟨(ob0_k6 O), vp_cst (ob0_l6 O) H.1, ?_⟩
            replace H := H.2
            refine And.intro (fun c => ?_) (fun c => ?_)
            · replace H := H.1 c
              exact At.keep [0, 1, 2, 3, 4] H
            · replace H := H.2 c
              exact At.keep [0, 1, 2, 3, 4] H
        · replace H := H.2 hr
          exact At.keep [0, 1, 2, 3, 4] H

theorem c_X0_widestMove_5 {G : GT} {d : Nat} {M : Mem} {o : Nat} (O : ObAt 0 M o) {a1 : Nat} {l2 : Int32} {l3 : Nat} {l4 : Int32} {Q : Option Nat → Mem → Prop} (H : (l2 ≤ l4 → Q (some l3) M) ∧ (¬ l2 ≤ l4 → ((64 : Int32) ≤ l4 → Q (some l3) M) ∧ (¬ (64 : Int32) ≤ l4 → (14 ≤ mK M a1 ∧ mK M a1 ≤ 21) ∧ (((nI (mA M a1)) ≤ l4 → Q (some l3) M) ∧ (¬ (nI (mA M a1)) ≤ l4 → (18 ≤ mK M a1 ∧ mK M a1 ≤ 21) ∧ vp_in l4 (mA M a1) ∧ ((∀ r2, (vr M a1 (l4).toNatClampNeg) = some r2 → mK M r2 = 6 ∧ ((¬ (vi M r2 0) = (4 : Int32) → At G (d + 1) 4 5 [(0, .ref o), (1, .ref a1), (2, .int l2), (3, .ref l3), (4, .int (l4 + (1 : Int32)))] [] M (qR Q)) ∧ ((vi M r2 0) = (4 : Int32) → vp_in l4 64 ∧ (((vi M (o + 6) (l4).toNatClampNeg) = 0 → mK M r2 = 6 ∧ (mK M r2 = 6 ∧ (mK M l3 = 6 ∧ (mK M l3 = 6 ∧ ((((vi M r2 7) - (vi M r2 6)) ≤ ((vi M l3 7) - (vi M l3 6)) → At G (d + 1) 4 5 [(0, .ref o), (1, .ref a1), (2, .int l2), (3, .ref l3), (4, .int (l4 + (1 : Int32)))] [] M (qR Q)) ∧ (¬ ((vi M r2 7) - (vi M r2 6)) ≤ ((vi M l3 7) - (vi M l3 6)) → At G (d + 1) 4 5 [(0, .ref o), (1, .ref a1), (2, .int l2), (3, .ref r2), (4, .int (l4 + (1 : Int32)))] [] M (qR Q))))))) ∧ (¬ (vi M (o + 6) (l4).toNatClampNeg) = 0 → At G (d + 1) 4 5 [(0, .ref o), (1, .ref a1), (2, .int l2), (3, .ref l3), (4, .int (l4 + (1 : Int32)))] [] M (qR Q)))))) ∧ ((vr M a1 (l4).toNatClampNeg) = none → At G (d + 1) 4 5 [(0, .ref o), (1, .ref a1), (2, .int l2), (3, .ref l3), (4, .int (l4 + (1 : Int32)))] [] M (qR Q)))))))) : At G (d + 1) 4 5 [(0, .ref o), (1, .ref a1), (2, .int l2), (3, .ref l3), (4, .int l4)] [] M (qR Q) := by
  refine vcc ok4 4 [] ?_
  refine And.intro (fun c => ?_) (fun c => ?_)
  · replace H := H.1 c
    exact ⟨some _, rfl, H⟩
  · replace H := H.2 c
    refine And.intro (fun c => ?_) (fun c => ?_)
    · replace H := H.1 c
      exact ⟨some _, rfl, H⟩
    · replace H := H.2 c
      refine Or.inl ⟨H.1, ?_⟩
      replace H := H.2
      refine And.intro (fun c => ?_) (fun c => ?_)
      · replace H := H.1 c
        exact ⟨some _, rfl, H⟩
      · replace H := H.2 c
        refine ⟨H.1, H.2.1, ?_⟩
        replace H := H.2.2
        refine wRef_i (fun r2 hr => ?_) (fun hr => ?_)
        · replace H := H.1 _ hr
          refine And.intro H.1 ?_
          replace H := H.2
          refine And.intro (fun c => ?_) (fun c => ?_)
          · replace H := H.1 c
            exact At.keep [0, 1, 2, 3, 4] H
          · replace H := H.2 c
            refine And.intro O.1 ?_
            refine Or.inl ⟨_, (ob0_r6 O), ?_⟩
            refine Or.inl ⟨(ob0_k6 O), vp_cst (ob0_l6 O) H.1, ?_⟩
            replace H := H.2
            refine And.intro (fun c => ?_) (fun c => ?_)
            · replace H := H.1 c
              refine And.intro H.1 ?_
              replace H := H.2
              refine And.intro H.1 ?_
              replace H := H.2
              refine And.intro H.1 ?_
              replace H := H.2
              refine And.intro H.1 ?_
              replace H := H.2
              refine And.intro (fun c => ?_) (fun c => ?_)
              · replace H := H.1 c
                exact At.keep [0, 1, 2, 3, 4] H
              · replace H := H.2 c
                exact At.keep [0, 1, 2, 3, 4] H
            · replace H := H.2 c
              exact At.keep [0, 1, 2, 3, 4] H
        · replace H := H.2 hr
          exact At.keep [0, 1, 2, 3, 4] H

theorem c_X0_shift {G : GT} {d : Nat} {M : Mem} {o : Nat} (O : ObAt 0 M o) {a1 : Nat} (Pa1 : mK M a1 = 6)  {Q : Mem → Prop} (H : ((((2 : Int32) * (vi M a1 1)) + (1 : Int32)) < 0 → Q M) ∧ (¬ (((2 : Int32) * (vi M a1 1)) + (1 : Int32)) < 0 → ((((2 : Int32) * (vi M a1 2)) - (1 : Int32)) < (((2 : Int32) * (vi M a1 1)) + (1 : Int32)) → Q M) ∧ (¬ (((2 : Int32) * (vi M a1 2)) - (1 : Int32)) < (((2 : Int32) * (vi M a1 1)) + (1 : Int32)) → ((401 : Int32) ≤ (((2 : Int32) * (vi M a1 2)) - (1 : Int32)) → Q M) ∧ (¬ (401 : Int32) ≤ (((2 : Int32) * (vi M a1 2)) - (1 : Int32)) → (((2 : Int32) * (vi M a1 3)) < 0 → Q M) ∧ (¬ ((2 : Int32) * (vi M a1 3)) < 0 → (((2 : Int32) * (vi M a1 3)) < (401 : Int32) → vp_in (((2 : Int32) * (vi M a1 1)) + (1 : Int32)) 401 ∧ (vp_in (((2 : Int32) * (vi M a1 2)) - (1 : Int32)) 401 ∧ (CV G d 6 [.ref o, .int (vi M (o + 3) ((((2 : Int32) * (vi M a1 1)) + (1 : Int32))).toNatClampNeg), .int (vi M (o + 2) ((((2 : Int32) * (vi M a1 2)) - (1 : Int32))).toNatClampNeg)] M (fun M1 => (ObAt 0 M1 o ∧ mK M1 a1 = 6) ∧ (vp_in ((2 : Int32) * (vi M a1 3)) 401 ∧ (CV G d 6 [.ref o, .int (((2 : Int32) * (vi M a1 2)) - (1 : Int32)), .int (vi M1 (o + 2) (((2 : Int32) * (vi M a1 3))).toNatClampNeg)] M1 (fun M2 => (ObAt 0 M2 o ∧ mK M2 a1 = 6) ∧ (CV G d 6 [.ref o, .int ((2 : Int32) * (vi M a1 3)), .int (((2 : Int32) * (vi M a1 1)) + (1 : Int32))] M2 (fun M3 => (ObAt 0 M3 o ∧ mK M3 a1 = 6) ∧ (Q M3)))))))))) ∧ (¬ ((2 : Int32) * (vi M a1 3)) < (401 : Int32) → Q M)))))) : CV G (d + 1) 5 [.ref o, .ref a1] M Q := by
  refine Cl.ofM (Nat.le_of_ble_eq_true rfl) rfl ?_
  refine vcc ok5 0 [] ?_
  refine And.intro Pa1 ?_
  refine And.intro Pa1 ?_
  refine And.intro Pa1 ?_
  refine And.intro (fun c => ?_) (fun c => ?_)
  · replace H := H.1 c
    exact ⟨rfl, H⟩
  · replace H := H.2 c
    refine And.intro (fun c => ?_) (fun c => ?_)
    · replace H := H.1 c
      exact ⟨rfl, H⟩
    · replace H := H.2 c
      refine And.intro (fun c => ?_) (fun c => ?_)
      · replace H := H.1 c
        exact ⟨rfl, H⟩
      · replace H := H.2 c
        refine And.intro (fun c => ?_) (fun c => ?_)
        · replace H := H.1 c
          exact ⟨rfl, H⟩
        · replace H := H.2 c
          refine And.intro (fun c => ?_) (fun c => ?_)
          · replace H := H.1 c
            refine And.intro O.1 ?_
            refine Or.inl ⟨_, (ob0_r3 O), ?_⟩
            refine Or.inl ⟨(ob0_k3 O), vp_cst (ob0_l3 O) H.1, ?_⟩
            replace H := H.2
            refine And.intro O.1 ?_
            refine Or.inl ⟨_, (ob0_r2 O), ?_⟩
            refine Or.inl ⟨(ob0_k2 O), vp_cst (ob0_l2 O) H.1, ?_⟩
            replace H := H.2
            refine And.intro (Nat.le_of_ble_eq_true rfl) ?_
            refine And.intro (Nat.le_of_ble_eq_true rfl) (And.intro O.1 ?_)
            refine Cl.mono H (fun r M1 h => ?_)
            obtain ⟨rfl, H⟩ := h
            obtain ⟨⟨O, Pa1⟩, H⟩ := H
            refine And.intro O.1 ?_
            refine Or.inl ⟨_, (ob0_r2 O), ?_⟩
            refine Or.inl ⟨(ob0_k2 O), vp_cst (ob0_l2 O) H.1, ?_⟩
            replace H := H.2
            refine And.intro (Nat.le_of_ble_eq_true rfl) ?_
            refine And.intro (Nat.le_of_ble_eq_true rfl) (And.intro O.1 ?_)
            refine Cl.mono H (fun r M2 h => ?_)
            obtain ⟨rfl, H⟩ := h
            obtain ⟨⟨O, Pa1⟩, H⟩ := H
            refine And.intro (Nat.le_of_ble_eq_true rfl) ?_
            refine And.intro (Nat.le_of_ble_eq_true rfl) (And.intro O.1 ?_)
            refine Cl.mono H (fun r M3 h => ?_)
            obtain ⟨rfl, H⟩ := h
            obtain ⟨⟨O, Pa1⟩, H⟩ := H
            exact ⟨rfl, H⟩
          · replace H := H.2 c
            exact ⟨rfl, H⟩

theorem c_X0_hook {G : GT} {d : Nat} {M : Mem} {o : Nat} (O : ObAt 0 M o) {a1 : Int32} {a2 : Int32} {Q : Mem → Prop} (H : (a1 < 0 → (a2 < 0 → Q M) ∧ (¬ a2 < 0 → ((401 : Int32) ≤ a2 → Q M) ∧ (¬ (401 : Int32) ≤ a2 → vp_in a2 401 ∧ (∀ M1, M1 = seti M (o + 3) (a2).toNatClampNeg a1 → Q M1)))) ∧ (¬ a1 < 0 → ((401 : Int32) ≤ a1 → (a2 < 0 → Q M) ∧ (¬ a2 < 0 → ((401 : Int32) ≤ a2 → Q M) ∧ (¬ (401 : Int32) ≤ a2 → vp_in a2 401 ∧ (∀ M2, M2 = seti M (o + 3) (a2).toNatClampNeg a1 → Q M2)))) ∧ (¬ (401 : Int32) ≤ a1 → vp_in a1 401 ∧ (∀ M3, M3 = seti M (o + 2) (a1).toNatClampNeg a2 → (a2 < 0 → Q M3) ∧ (¬ a2 < 0 → ((401 : Int32) ≤ a2 → Q M3) ∧ (¬ (401 : Int32) ≤ a2 → vp_in a2 401 ∧ (∀ M4, M4 = seti M3 (o + 3) (a2).toNatClampNeg a1 → Q M4))))))) : CV G (d + 1) 6 [.ref o, .int a1, .int a2] M Q := by
  refine Cl.ofM (Nat.le_of_ble_eq_true rfl) rfl ?_
  refine vcc ok6 0 [] ?_
  refine And.intro (fun c => ?_) (fun c => ?_)
  · replace H := H.1 c
    refine And.intro (fun c => ?_) (fun c => ?_)
    · replace H := H.1 c
      exact ⟨rfl, H⟩
    · replace H := H.2 c
      refine And.intro (fun c => ?_) (fun c => ?_)
      · replace H := H.1 c
        exact ⟨rfl, H⟩
      · replace H := H.2 c
        refine And.intro O.1 ?_
        refine Or.inl ⟨_, (ob0_r3 O), ?_⟩
        refine ⟨(ob0_k3 O), vp_cst (ob0_l3 O) H.1, ?_⟩
        replace H := H.2
        replace H := H _ rfl
        exact ⟨rfl, H⟩
  · replace H := H.2 c
    refine And.intro (fun c => ?_) (fun c => ?_)
    · replace H := H.1 c
      refine And.intro (fun c => ?_) (fun c => ?_)
      · replace H := H.1 c
        exact ⟨rfl, H⟩
      · replace H := H.2 c
        refine And.intro (fun c => ?_) (fun c => ?_)
        · replace H := H.1 c
          exact ⟨rfl, H⟩
        · replace H := H.2 c
          refine And.intro O.1 ?_
          refine Or.inl ⟨_, (ob0_r3 O), ?_⟩
          refine ⟨(ob0_k3 O), vp_cst (ob0_l3 O) H.1, ?_⟩
          replace H := H.2
          replace H := H _ rfl
          exact ⟨rfl, H⟩
    · replace H := H.2 c
      refine And.intro O.1 ?_
      refine Or.inl ⟨_, (ob0_r2 O), ?_⟩
      refine ⟨(ob0_k2 O), vp_cst (ob0_l2 O) H.1, ?_⟩
      replace H := H.2
      replace H := H _ rfl
      refine And.intro (fun c => ?_) (fun c => ?_)
      · replace H := H.1 c
        exact ⟨rfl, H⟩
      · replace H := H.2 c
        refine And.intro (fun c => ?_) (fun c => ?_)
        · replace H := H.1 c
          exact ⟨rfl, H⟩
        · replace H := H.2 c
          refine And.intro O.1 ?_
          refine Or.inl ⟨_, (ob0_r3 O), ?_⟩
          refine ⟨(ob0_k3 O), vp_cst (ob0_l3 O) H.1, ?_⟩
          replace H := H.2
          replace H := H _ rfl
          exact ⟨rfl, H⟩

theorem c_X0_note {G : GT} {d : Nat} {M : Mem} {o : Nat} (O : ObAt 0 M o) {a1 : Nat} (Pa1 : mK M a1 = 6)  {Q : Mem → Prop} (H : (¬ (vi M a1 0) = 0 → ((vi M a1 0) = (4 : Int32) → Q M) ∧ (¬ (vi M a1 0) = (4 : Int32) → (¬ (vi M a1 0) = (5 : Int32) → At G (d + 1) 7 57 [(0, .ref o), (1, .ref a1), (2, .int (vi M a1 1))] [] M (qV Q)) ∧ ((vi M a1 0) = (5 : Int32) → Q M))) ∧ ((vi M a1 0) = 0 → ((vi M a1 1) < 0 → Q M) ∧ (¬ (vi M a1 1) < 0 → ((200 : Int32) < (vi M a1 1) → Q M) ∧ (¬ (200 : Int32) < (vi M a1 1) → vp_in (vi M a1 1) 201 ∧ (mK M a1 = elN (mK M (o + 5)) + 1 ∧ (∀ M1, M1 = setr M (o + 5) ((vi M a1 1)).toNatClampNeg (some a1) → Q M1)))))) : CV G (d + 1) 7 [.ref o, .ref a1] M Q := by
  refine Cl.ofM (Nat.le_of_ble_eq_true rfl) rfl ?_
  refine vcc ok7 0 [57] ?_
  refine And.intro Pa1 ?_
  refine And.intro (fun c => ?_) (fun c => ?_)
  · replace H := H.1 c
    refine And.intro Pa1 ?_
    refine And.intro (fun c => ?_) (fun c => ?_)
    · replace H := H.1 c
      exact ⟨rfl, H⟩
    · replace H := H.2 c
      refine And.intro Pa1 ?_
      refine And.intro (fun c => ?_) (fun c => ?_)
      · replace H := H.1 c
        refine And.intro Pa1 ?_
        exact H
      · replace H := H.2 c
        exact ⟨rfl, H⟩
  · replace H := H.2 c
    refine And.intro Pa1 ?_
    refine And.intro (fun c => ?_) (fun c => ?_)
    · replace H := H.1 c
      exact ⟨rfl, H⟩
    · replace H := H.2 c
      refine And.intro Pa1 ?_
      refine And.intro (fun c => ?_) (fun c => ?_)
      · replace H := H.1 c
        exact ⟨rfl, H⟩
      · replace H := H.2 c
        refine And.intro O.1 ?_
        refine Or.inl ⟨_, (ob0_r5 O), ?_⟩
        refine And.intro Pa1 ?_
        refine ⟨(k18 (ob0_k5 O)), vp_cst (ob0_l5 O) H.1, ?_⟩
        replace H := H.2
        refine And.intro H.1 ?_
        replace H := H.2
        replace H := H _ rfl
        exact ⟨rfl, H⟩

theorem c_X0_note_57 {G : GT} {d : Nat} {M : Mem} {o : Nat} (O : ObAt 0 M o) {a1 : Nat} (Pa1 : mK M a1 = 6) {l2 : Int32} {Q : Mem → Prop} (H : (l2 < 0 → Q M) ∧ (¬ l2 < 0 → ((vi M a1 2) ≤ l2 → Q M) ∧ (¬ (vi M a1 2) ≤ l2 → ((200 : Int32) ≤ l2 → Q M) ∧ (¬ (200 : Int32) ≤ l2 → vp_in l2 200 ∧ (∀ M2, M2 = seti M (o + 4) (l2).toNatClampNeg (vi M a1 0) → At G (d + 1) 7 57 [(0, .ref o), (1, .ref a1), (2, .int (l2 + (1 : Int32)))] [] M2 (qV Q)))))) : At G (d + 1) 7 57 [(0, .ref o), (1, .ref a1), (2, .int l2)] [] M (qV Q) := by
  refine vcc ok7 29 [] ?_
  refine And.intro (fun c => ?_) (fun c => ?_)
  · replace H := H.1 c
    exact ⟨rfl, H⟩
  · replace H := H.2 c
    refine And.intro Pa1 ?_
    refine And.intro (fun c => ?_) (fun c => ?_)
    · replace H := H.1 c
      exact ⟨rfl, H⟩
    · replace H := H.2 c
      refine And.intro (fun c => ?_) (fun c => ?_)
      · replace H := H.1 c
        exact ⟨rfl, H⟩
      · replace H := H.2 c
        refine And.intro O.1 ?_
        refine Or.inl ⟨_, (ob0_r4 O), ?_⟩
        refine And.intro Pa1 ?_
        refine ⟨(ob0_k4 O), vp_cst (ob0_l4 O) H.1, ?_⟩
        replace H := H.2
        replace H := H _ rfl
        exact H

theorem c_X0_write {G : GT} {d : Nat} {M : Mem} {o : Nat} (O : ObAt 0 M o) {a1 : Nat} (Pa1 : mK M a1 = 6)  {Q : Mem → Prop} (H : (∀ r1, vr M a1 5 = some r1 → At G (d + 1) 8 14 [(0, .ref o), (1, .ref a1), (2, .int (0 : Int32))] [] M (qV Q)) ∧ (vr M a1 5 = none → Q M)) : CV G (d + 1) 8 [.ref o, .ref a1] M Q := by
  refine Cl.ofM (Nat.le_of_ble_eq_true rfl) rfl ?_
  refine vcc ok8 0 [14] ?_
  refine And.intro Pa1 ?_
  refine wRef_i (fun r1 hr => ?_) (fun hr => ?_)
  · replace H := H.1 _ hr
    exact H
  · replace H := H.2 hr
    exact ⟨rfl, H⟩

theorem c_X0_write_14 {G : GT} {d : Nat} {M : Mem} {o : Nat} (O : ObAt 0 M o) {a1 : Nat} (Pa1 : mK M a1 = 6) {l2 : Int32} {Q : Mem → Prop} (H : (∀ r2, vr M a1 5 = some r2 → (14 ≤ mK M r2 ∧ mK M r2 ≤ 21) ∧ (((nI (mA M r2)) ≤ l2 → Q M) ∧ (¬ (nI (mA M r2)) ≤ l2 → (∀ r3, vr M a1 5 = some r3 → mK M r3 = 15 ∧ vp_in l2 (mA M r3) ∧ (CV G d 9 [.ref o, .int (vi M r3 (l2).toNatClampNeg), .int (-1 : Int32)] M (fun M4 => (ObAt 0 M4 o ∧ mK M4 a1 = 6) ∧ (At G (d + 1) 8 14 [(0, .ref o), (1, .ref a1), (2, .int (l2 + (1 : Int32)))] [] M4 (qV Q))))) ∧ (vr M a1 5 = none → False)))) ∧ (vr M a1 5 = none → False)) : At G (d + 1) 8 14 [(0, .ref o), (1, .ref a1), (2, .int l2)] [] M (qV Q) := by
  refine vcc ok8 8 [] ?_
  refine And.intro Pa1 ?_
  refine wRef_i (fun r2 hr => ?_) (fun hr => ?_)
  · replace H := H.1 _ hr
    refine Or.inl ⟨H.1, ?_⟩
    replace H := H.2
    refine And.intro (fun c => ?_) (fun c => ?_)
    · replace H := H.1 c
      exact ⟨rfl, H⟩
    · replace H := H.2 c
      refine And.intro Pa1 ?_
      refine wRef_i (fun r3 hr => ?_) (fun hr => ?_)
      · replace H := H.1 _ hr
        refine Or.inl ⟨H.1, H.2.1, ?_⟩
        replace H := H.2.2
        refine And.intro (Nat.le_of_ble_eq_true rfl) ?_
        refine And.intro (Nat.le_of_ble_eq_true rfl) (And.intro O.1 ?_)
        refine Cl.mono H (fun r M4 h => ?_)
        obtain ⟨rfl, H⟩ := h
        obtain ⟨⟨O, Pa1⟩, H⟩ := H
        exact H
      · replace H := H.2 hr
        exact H.elim
  · replace H := H.2 hr
    exact H.elim

theorem c_X0_writeByte {G : GT} {d : Nat} {M : Mem} {o : Nat} (O : ObAt 0 M o) {a1 : Int32} {a2 : Int32} {Q : Mem → Prop} (H : (a2 = (1 : Int32) → At G (d + 1) 9 22 [] [] M (qV Q)) ∧ (¬ a2 = (1 : Int32) → ((vi M o 1) < 0 → At G (d + 1) 9 22 [] [] M (qV Q)) ∧ (¬ (vi M o 1) < 0 → ((vi M o 1) < (400 : Int32) → (¬ a2 = (2 : Int32) → At G (d + 1) 9 35 [(0, .ref o), (1, .int a1), (2, .int a2)] [] M (qV Q)) ∧ (a2 = (2 : Int32) → CI G d 149 [.int a1] M (fun v2 M1 => ObAt 0 M1 o ∧ ((¬ v2 = 0 → At G (d + 1) 9 47 [(0, .ref o), (1, .int a1)] [] M1 (qV Q)) ∧ (v2 = 0 → At G (d + 1) 9 35 [(0, .ref o), (1, .int a1), (2, .int a2)] [] M1 (qV Q)))))) ∧ (¬ (vi M o 1) < (400 : Int32) → At G (d + 1) 9 22 [] [] M (qV Q))))) : CV G (d + 1) 9 [.ref o, .int a1, .int a2] M Q := by
  refine Cl.ofM (Nat.le_of_ble_eq_true rfl) rfl ?_
  refine vcc ok9 0 [22, 35, 47, 51, 52, 73] ?_
  refine And.intro (fun c => ?_) (fun c => ?_)
  · replace H := H.1 c
    exact At.keep [] H
  · replace H := H.2 c
    refine And.intro O.1 ?_
    refine And.intro (fun c => ?_) (fun c => ?_)
    · replace H := H.1 c
      exact At.keep [] H
    · replace H := H.2 c
      refine And.intro O.1 ?_
      refine And.intro (fun c => ?_) (fun c => ?_)
      · replace H := H.1 c
        refine And.intro (fun c => ?_) (fun c => ?_)
        · replace H := H.1 c
          exact H
        · replace H := H.2 c
          refine And.intro (Nat.le_of_ble_eq_true rfl) ?_
          refine And.intro (Nat.le_of_ble_eq_true rfl) ?_
          refine Cl.mono H (fun r M1 h => ?_)
          obtain ⟨v2, rfl, H⟩ := h
          obtain ⟨O, H⟩ := H
          refine And.intro (fun c => ?_) (fun c => ?_)
          · replace H := H.1 c
            exact At.keep [0, 1] H
          · replace H := H.2 c
            exact H
      · replace H := H.2 c
        exact At.keep [] H

theorem c_X0_writeByte_22 {G : GT} {d : Nat} {M : Mem} {o : Nat} (O : ObAt 0 M o)  {Q : Mem → Prop} (H : Q M) : At G (d + 1) 9 22 [] [] M (qV Q) := by
  refine vcc ok9 10 [35, 47, 51, 52, 73] ?_
  exact ⟨rfl, H⟩

theorem c_X0_writeByte_35 {G : GT} {d : Nat} {M : Mem} {o : Nat} (O : ObAt 0 M o) {l1 : Int32} {l2 : Int32} {Q : Mem → Prop} (H : (¬ l2 = (3 : Int32) → At G (d + 1) 9 51 [(0, .ref o), (1, .int l1)] [] M (qV Q)) ∧ (l2 = (3 : Int32) → CI G d 150 [.int l1] M (fun v4 M3 => ObAt 0 M3 o ∧ ((v4 = 0 → At G (d + 1) 9 51 [(0, .ref o), (1, .int l1)] [] M3 (qV Q)) ∧ (¬ v4 = 0 → At G (d + 1) 9 47 [(0, .ref o), (1, .int l1)] [] M3 (qV Q)))))) : At G (d + 1) 9 35 [(0, .ref o), (1, .int l1), (2, .int l2)] [] M (qV Q) := by
  refine vcc ok9 17 [22, 47, 51, 52, 73] ?_
  refine And.intro (fun c => ?_) (fun c => ?_)
  · replace H := H.1 c
    exact At.keep [0, 1] H
  · replace H := H.2 c
    refine And.intro (Nat.le_of_ble_eq_true rfl) ?_
    refine And.intro (Nat.le_of_ble_eq_true rfl) ?_
    refine Cl.mono H (fun r M3 h => ?_)
    obtain ⟨v4, rfl, H⟩ := h
    obtain ⟨O, H⟩ := H
    refine And.intro (fun c => ?_) (fun c => ?_)
    · replace H := H.1 c
      exact At.keep [0, 1] H
    · replace H := H.2 c
      exact At.keep [0, 1] H

theorem c_X0_writeByte_47 {G : GT} {d : Nat} {M : Mem} {o : Nat} (O : ObAt 0 M o) {l1 : Int32} {Q : Mem → Prop} (H : At G (d + 1) 9 52 [(0, .ref o), (1, .int l1)] [.int (1 : Int32)] M (qV Q)) : At G (d + 1) 9 47 [(0, .ref o), (1, .int l1)] [] M (qV Q) := by
  refine vcc ok9 23 [22, 35, 51, 52, 73] ?_
  exact H

theorem c_X0_writeByte_51 {G : GT} {d : Nat} {M : Mem} {o : Nat} (O : ObAt 0 M o) {l1 : Int32} {Q : Mem → Prop} (H : At G (d + 1) 9 52 [(0, .ref o), (1, .int l1)] [.int (0 : Int32)] M (qV Q)) : At G (d + 1) 9 51 [(0, .ref o), (1, .int l1)] [] M (qV Q) := by
  refine vcc ok9 25 [22, 35, 47, 52, 73] ?_
  exact H

theorem c_X0_writeByte_52 {G : GT} {d : Nat} {M : Mem} {o : Nat} (O : ObAt 0 M o) {l1 : Int32} {t0 : Int32} {Q : Mem → Prop} (H : (t0 = 0 → At G (d + 1) 9 73 [(0, .ref o)] [.int l1, .int (vi M o 1), .ref (o + 1)] M (qV Q)) ∧ (¬ t0 = 0 → At G (d + 1) 9 73 [(0, .ref o)] [.int (l1 ^^^ (32 : Int32)), .int (vi M o 1), .ref (o + 1)] M (qV Q))) : At G (d + 1) 9 52 [(0, .ref o), (1, .int l1)] [.int t0] M (qV Q) := by
  refine vcc ok9 26 [22, 35, 47, 51, 73] ?_
  refine And.intro O.1 ?_
  refine Or.inl ⟨_, (ob0_r0 O), ?_⟩
  refine And.intro O.1 ?_
  refine And.intro (fun c => ?_) (fun c => ?_)
  · replace H := H.1 c
    exact At.keep [0] H
  · replace H := H.2 c
    exact At.keep [0] H

theorem c_X0_writeByte_73 {G : GT} {d : Nat} {M : Mem} {o : Nat} (O : ObAt 0 M o) {t0 : Int32} {t1 : Int32} {t2 : Nat} {Q : Mem → Prop} (H : mK M t2 = 15 ∧ vp_in t1 (mA M t2) ∧ (∀ M5, M5 = seti M t2 (t1).toNatClampNeg t0 → ∀ M6, M6 = seti M5 o 1 ((vi M5 o 1) + (1 : Int32)) → Q M6)) : At G (d + 1) 9 73 [(0, .ref o)] [.int t0, .int t1, .ref t2] M (qV Q) := by
  refine vcc ok9 38 [22, 35, 47, 51, 52] ?_
  refine ⟨H.1, H.2.1, ?_⟩
  replace H := H.2.2
  replace H := H _ rfl
  refine And.intro O.1 ?_
  refine And.intro O.1 ?_
  refine And.intro (Or.inl rfl) (And.intro (fun h => absurd h (by decide)) ?_)
  replace H := H _ rfl
  exact ⟨rfl, H⟩

theorem c_X0_fewestSet {G : GT} {d : Nat} {M : Mem} {o : Nat} (O : ObAt 0 M o) {a1 : Nat} (Pa1 : ObAt 8 M a1)  {Q : Int32 → Mem → Prop} (H : CI G d 11 [.ref o, .ref a1] M (fun v2 M1 => (ObAt 0 M1 o ∧ ObAt 8 M1 a1) ∧ (At G (d + 1) 10 13 [(0, .ref o), (1, .ref a1), (2, .int v2), (3, .int ((1 : Int32) <<< (v2 &&& 31))), (4, .int (0 : Int32))] [] M1 (qI Q)))) : CI G (d + 1) 10 [.ref o, .ref a1] M Q := by
  refine Cl.ofM (Nat.le_of_ble_eq_true rfl) rfl ?_
  refine vcc ok10 0 [13, 22] ?_
  refine And.intro (Nat.le_of_ble_eq_true rfl) ?_
  refine And.intro (Nat.le_of_ble_eq_true rfl) (And.intro O.1 ?_)
  refine Cl.mono H (fun r M1 h => ?_)
  obtain ⟨v2, rfl, H⟩ := h
  obtain ⟨⟨O, Pa1⟩, H⟩ := H
  exact H

theorem c_X0_fewestSet_13 {G : GT} {d : Nat} {M : Mem} {o : Nat} (O : ObAt 0 M o) {a1 : Nat} (Pa1 : ObAt 8 M a1) {l2 : Int32} {l3 : Int32} {l4 : Int32} {Q : Int32 → Mem → Prop} (H : (l2 < l4 → Q (-2 : Int32) M) ∧ (¬ l2 < l4 → At G (d + 1) 10 22 [(0, .ref o), (1, .ref a1), (2, .int l2), (3, .int l3), (4, .int l4), (5, .int (0 : Int32))] [] M (qI Q))) : At G (d + 1) 10 13 [(0, .ref o), (1, .ref a1), (2, .int l2), (3, .int l3), (4, .int l4)] [] M (qI Q) := by
  refine vcc ok10 10 [22] ?_
  refine And.intro (fun c => ?_) (fun c => ?_)
  · replace H := H.1 c
    exact ⟨fun h => absurd h (by decide), _, rfl, H⟩
  · replace H := H.2 c
    exact H

theorem c_X0_fewestSet_22 {G : GT} {d : Nat} {M : Mem} {o : Nat} (O : ObAt 0 M o) {a1 : Nat} (Pa1 : ObAt 8 M a1) {l2 : Int32} {l3 : Int32} {l4 : Int32} {l5 : Int32} {Q : Int32 → Mem → Prop} (H : (l3 ≤ l5 → At G (d + 1) 10 13 [(0, .ref o), (1, .ref a1), (2, .int l2), (3, .int l3), (4, .int (l4 + (1 : Int32)))] [] M (qI Q)) ∧ (¬ l3 ≤ l5 → CI G d 274 [.int l5] M (fun v4 M3 => (ObAt 0 M3 o ∧ ObAt 8 M3 a1) ∧ ((¬ v4 = l4 → At G (d + 1) 10 22 [(0, .ref o), (1, .ref a1), (2, .int l2), (3, .int l3), (4, .int l4), (5, .int (l5 + (1 : Int32)))] [] M3 (qI Q)) ∧ (v4 = l4 → CI G d 12 [.ref o, .int l5, .int l2] M3 (fun v6 M5 => (ObAt 0 M5 o ∧ ObAt 8 M5 a1) ∧ ((v6 = 0 → At G (d + 1) 10 22 [(0, .ref o), (1, .ref a1), (2, .int l2), (3, .int l3), (4, .int l4), (5, .int (l5 + (1 : Int32)))] [] M5 (qI Q)) ∧ (¬ v6 = 0 → CI G d 13 [.ref o, .ref a1, .int l5, .int l2] M5 (fun v8 M7 => (ObAt 0 M7 o ∧ ObAt 8 M7 a1) ∧ ((v8 = 0 → At G (d + 1) 10 22 [(0, .ref o), (1, .ref a1), (2, .int l2), (3, .int l3), (4, .int l4), (5, .int (l5 + (1 : Int32)))] [] M7 (qI Q)) ∧ (¬ v8 = 0 → Q l5 M7))))))))))) : At G (d + 1) 10 22 [(0, .ref o), (1, .ref a1), (2, .int l2), (3, .int l3), (4, .int l4), (5, .int l5)] [] M (qI Q) := by
  refine vcc ok10 15 [13] ?_
  refine And.intro (fun c => ?_) (fun c => ?_)
  · replace H := H.1 c
    exact At.keep [0, 1, 2, 3, 4] H
  · replace H := H.2 c
    refine And.intro (Nat.le_of_ble_eq_true rfl) ?_
    refine And.intro (Nat.le_of_ble_eq_true rfl) ?_
    refine Cl.mono H (fun r M3 h => ?_)
    obtain ⟨v4, rfl, H⟩ := h
    obtain ⟨⟨O, Pa1⟩, H⟩ := H
    refine And.intro (fun c => ?_) (fun c => ?_)
    · replace H := H.1 c
      exact H
    · replace H := H.2 c
      refine And.intro (Nat.le_of_ble_eq_true rfl) ?_
      refine And.intro (Nat.le_of_ble_eq_true rfl) (And.intro O.1 ?_)
      refine Cl.mono H (fun r M5 h => ?_)
      obtain ⟨v6, rfl, H⟩ := h
      obtain ⟨⟨O, Pa1⟩, H⟩ := H
      refine And.intro (fun c => ?_) (fun c => ?_)
      · replace H := H.1 c
        exact H
      · replace H := H.2 c
        refine And.intro (Nat.le_of_ble_eq_true rfl) ?_
        refine And.intro (Nat.le_of_ble_eq_true rfl) (And.intro O.1 ?_)
        refine Cl.mono H (fun r M7 h => ?_)
        obtain ⟨v8, rfl, H⟩ := h
        obtain ⟨⟨O, Pa1⟩, H⟩ := H
        refine And.intro (fun c => ?_) (fun c => ?_)
        · replace H := H.1 c
          exact H
        · replace H := H.2 c
          exact ⟨fun h => absurd h (by decide), _, rfl, H⟩

theorem c_X0_gatherAll {G : GT} {d : Nat} {M : Mem} {o : Nat} (O : ObAt 0 M o) {a1 : Nat} (Pa1 : ObAt 8 M a1)  {Q : Int32 → Mem → Prop} (H : At G (d + 1) 11 4 [(0, .ref o), (1, .ref a1), (2, .int (0 : Int32)), (3, .int (0 : Int32))] [] M (qI Q)) : CI G (d + 1) 11 [.ref o, .ref a1] M Q := by
  refine Cl.ofM (Nat.le_of_ble_eq_true rfl) rfl ?_
  refine vcc ok11 0 [4, 55, 83] ?_
  exact H

theorem c_X0_gatherAll_4 {G : GT} {d : Nat} {M : Mem} {o : Nat} (O : ObAt 0 M o) {a1 : Nat} (Pa1 : ObAt 8 M a1) {l2 : Int32} {l3 : Int32} {Q : Int32 → Mem → Prop} (H : ((64 : Int32) ≤ l3 → At G (d + 1) 11 55 [(0, .ref o), (1, .ref a1), (2, .int l2), (3, .int (0 : Int32))] [] M (qI Q)) ∧ (¬ (64 : Int32) ≤ l3 → vp_in l3 64 ∧ ((∀ r1, (vr M (a1 + 5) (l3).toNatClampNeg) = some r1 → ((12 : Int32) ≤ l2 → At G (d + 1) 11 4 [(0, .ref o), (1, .ref a1), (2, .int l2), (3, .int (l3 + (1 : Int32)))] [] M (qI Q)) ∧ (¬ (12 : Int32) ≤ l2 → vp_in l2 12 ∧ (mK M r1 = elN (mK M (o + 7)) + 1 ∧ (∀ M2, M2 = setr M (o + 7) (l2).toNatClampNeg (some r1) → vp_in l2 12 ∧ (∀ M3, M3 = seti M2 (o + 8) (l2).toNatClampNeg l3 → At G (d + 1) 11 4 [(0, .ref o), (1, .ref a1), (2, .int (l2 + (1 : Int32))), (3, .int (l3 + (1 : Int32)))] [] M3 (qI Q)))))) ∧ ((vr M (a1 + 5) (l3).toNatClampNeg) = none → At G (d + 1) 11 4 [(0, .ref o), (1, .ref a1), (2, .int l2), (3, .int (l3 + (1 : Int32)))] [] M (qI Q))))) : At G (d + 1) 11 4 [(0, .ref o), (1, .ref a1), (2, .int l2), (3, .int l3)] [] M (qI Q) := by
  refine vcc ok11 4 [55, 83] ?_
  refine And.intro (fun c => ?_) (fun c => ?_)
  · replace H := H.1 c
    exact H
  · replace H := H.2 c
    refine And.intro Pa1.1 ?_
    refine Or.inl ⟨_, (ob8_r7 Pa1), ?_⟩
    refine ⟨(k18 (ob8_k7 Pa1)), vp_cst (ob8_l7 Pa1) H.1, ?_⟩
    replace H := H.2
    refine wRef_i (fun r1 hr => ?_) (fun hr => ?_)
    · replace H := H.1 _ hr
      refine And.intro (fun c => ?_) (fun c => ?_)
      · replace H := H.1 c
        exact At.keep [0, 1, 2, 3] H
      · replace H := H.2 c
        refine And.intro O.1 ?_
        refine Or.inl ⟨_, (ob0_r7 O), ?_⟩
        refine ⟨(k18 (ob0_k7 O)), vp_cst (ob0_l7 O) H.1, ?_⟩
        replace H := H.2
        refine And.intro H.1 ?_
        replace H := H.2
        replace H := H _ rfl
        refine And.intro (O.1 :) ?_
        refine Or.inl ⟨_, (ob0_r8 (ob_setr O (k18 (ob0_k7 O)))), ?_⟩
        refine ⟨((ob0_k8 O) :), vp_cst ((ob0_l8 O) :) H.1, ?_⟩
        replace H := H.2
        replace H := H _ rfl
        exact At.keep [0, 1, 2, 3] H
    · replace H := H.2 hr
      exact At.keep [0, 1, 2, 3] H

theorem c_X0_gatherAll_55 {G : GT} {d : Nat} {M : Mem} {o : Nat} (O : ObAt 0 M o) {a1 : Nat} (Pa1 : ObAt 8 M a1) {l2 : Int32} {l3 : Int32} {Q : Int32 → Mem → Prop} (H : (l2 ≤ l3 → Q l2 M) ∧ (¬ l2 ≤ l3 → vp_in l3 12 ∧ (vp_in (vi M (o + 8) (l3).toNatClampNeg) 64 ∧ (vp_in l3 12 ∧ (∀ M4, M4 = seti M (o + 10) (l3).toNatClampNeg (0 : Int32) → At G (d + 1) 11 83 [(0, .ref o), (1, .ref a1), (2, .int l2), (3, .int l3), (4, .long (vl M (a1 + 8) ((vi M (o + 8) (l3).toNatClampNeg)).toNatClampNeg)), (6, .int (0 : Int32))] [] M4 (qI Q)))))) : At G (d + 1) 11 55 [(0, .ref o), (1, .ref a1), (2, .int l2), (3, .int l3)] [] M (qI Q) := by
  refine vcc ok11 32 [4, 83] ?_
  refine And.intro (fun c => ?_) (fun c => ?_)
  · replace H := H.1 c
    exact ⟨fun h => absurd h (by decide), _, rfl, H⟩
  · replace H := H.2 c
    refine And.intro Pa1.1 ?_
    refine Or.inl ⟨_, (ob8_r10 Pa1), ?_⟩
    refine And.intro O.1 ?_
    refine Or.inl ⟨_, (ob0_r8 O), ?_⟩
    refine Or.inl ⟨(ob0_k8 O), vp_cst (ob0_l8 O) H.1, ?_⟩
    replace H := H.2
    refine ⟨(ob8_k10 Pa1), vp_cst (ob8_l10 Pa1) H.1, ?_⟩
    replace H := H.2
    refine And.intro O.1 ?_
    refine Or.inl ⟨_, (ob0_r10 O), ?_⟩
    refine ⟨(ob0_k10 O), vp_cst (ob0_l10 O) H.1, ?_⟩
    replace H := H.2
    replace H := H _ rfl
    exact H

theorem c_X0_gatherAll_83 {G : GT} {d : Nat} {M : Mem} {o : Nat} (O : ObAt 0 M o) {a1 : Nat} (Pa1 : ObAt 8 M a1) {l2 : Int32} {l3 : Int32} {l4 : Int64} {l6 : Int32} {Q : Int32 → Mem → Prop} (H : (l2 ≤ l6 → At G (d + 1) 11 55 [(0, .ref o), (1, .ref a1), (2, .int l2), (3, .int (l3 + (1 : Int32)))] [] M (qI Q)) ∧ (¬ l2 ≤ l6 → vp_in l3 12 ∧ (vp_in l6 12 ∧ (vp_in l3 12 ∧ (∀ M5, M5 = seti M (o + 10) (l3).toNatClampNeg ((vi M (o + 10) (l3).toNatClampNeg) ||| ((((((l4).toUInt64 >>> (((vi M (o + 8) (l6).toNatClampNeg)).toInt64.toUInt64 &&& Int64.toUInt64 63)).toInt64) &&& (1 : Int64))).toInt32 <<< (l6 &&& 31))) → At G (d + 1) 11 83 [(0, .ref o), (1, .ref a1), (2, .int l2), (3, .int l3), (4, .long l4), (6, .int (l6 + (1 : Int32)))] [] M5 (qI Q)))))) : At G (d + 1) 11 83 [(0, .ref o), (1, .ref a1), (2, .int l2), (3, .int l3), (4, .long l4), (6, .int l6)] [] M (qI Q) := by
  refine vcc ok11 50 [4, 55] ?_
  refine And.intro (fun c => ?_) (fun c => ?_)
  · replace H := H.1 c
    exact At.keep [0, 1, 2, 3] H
  · replace H := H.2 c
    refine And.intro O.1 ?_
    refine Or.inl ⟨_, (ob0_r10 O), ?_⟩
    refine Or.inl ⟨(ob0_k10 O), vp_cst (ob0_l10 O) H.1, ?_⟩
    replace H := H.2
    refine And.intro O.1 ?_
    refine Or.inl ⟨_, (ob0_r8 O), ?_⟩
    refine Or.inl ⟨(ob0_k8 O), vp_cst (ob0_l8 O) H.1, ?_⟩
    replace H := H.2
    refine ⟨(ob0_k10 O), vp_cst (ob0_l10 O) H.1, ?_⟩
    replace H := H.2
    replace H := H _ rfl
    exact H

theorem c_X0_isFree {G : GT} {d : Nat} {M : Mem} {o : Nat} (O : ObAt 0 M o) {a1 : Int32} {a2 : Int32} {Q : Int32 → Mem → Prop} (H : At G (d + 1) 12 2 [(0, .ref o), (1, .int a1), (2, .int a2), (3, .int (0 : Int32))] [] M (qI Q)) : CI G (d + 1) 12 [.ref o, .int a1, .int a2] M Q := by
  refine Cl.ofM (Nat.le_of_ble_eq_true rfl) rfl ?_
  refine vcc ok12 0 [2] ?_
  exact H

theorem c_X0_isFree_2 {G : GT} {d : Nat} {M : Mem} {o : Nat} (O : ObAt 0 M o) {l1 : Int32} {l2 : Int32} {l3 : Int32} {Q : Int32 → Mem → Prop} (H : (l2 ≤ l3 → ((1 : Int32) = 0 ∨ (1 : Int32) = 1) ∧ Q (1 : Int32) M) ∧ (¬ l2 ≤ l3 → ((12 : Int32) ≤ l3 → ((1 : Int32) = 0 ∨ (1 : Int32) = 1) ∧ Q (1 : Int32) M) ∧ (¬ (12 : Int32) ≤ l3 → (((l1 >>> (l3 &&& 31)) &&& (1 : Int32)) = 0 → At G (d + 1) 12 2 [(0, .ref o), (1, .int l1), (2, .int l2), (3, .int (l3 + (1 : Int32)))] [] M (qI Q)) ∧ (¬ ((l1 >>> (l3 &&& 31)) &&& (1 : Int32)) = 0 → vp_in l3 12 ∧ ((((vi M (o + 10) (l3).toNatClampNeg) &&& l1) = 0 → At G (d + 1) 12 2 [(0, .ref o), (1, .int l1), (2, .int l2), (3, .int (l3 + (1 : Int32)))] [] M (qI Q)) ∧ (¬ ((vi M (o + 10) (l3).toNatClampNeg) &&& l1) = 0 → ((0 : Int32) = 0 ∨ (0 : Int32) = 1) ∧ Q (0 : Int32) M)))))) : At G (d + 1) 12 2 [(0, .ref o), (1, .int l1), (2, .int l2), (3, .int l3)] [] M (qI Q) := by
  refine vcc ok12 2 [] ?_
  refine And.intro (fun c => ?_) (fun c => ?_)
  · replace H := H.1 c
    exact ⟨fun _ => H.1, _, rfl, H.2⟩
  · replace H := H.2 c
    refine And.intro (fun c => ?_) (fun c => ?_)
    · replace H := H.1 c
      exact ⟨fun _ => H.1, _, rfl, H.2⟩
    · replace H := H.2 c
      refine And.intro (fun c => ?_) (fun c => ?_)
      · replace H := H.1 c
        exact H
      · replace H := H.2 c
        refine And.intro O.1 ?_
        refine Or.inl ⟨_, (ob0_r10 O), ?_⟩
        refine Or.inl ⟨(ob0_k10 O), vp_cst (ob0_l10 O) H.1, ?_⟩
        replace H := H.2
        refine And.intro (fun c => ?_) (fun c => ?_)
        · replace H := H.1 c
          exact H
        · replace H := H.2 c
          exact ⟨fun _ => H.1, _, rfl, H.2⟩

theorem c_X0_makesWish {G : GT} {d : Nat} {M : Mem} {o : Nat} (O : ObAt 0 M o) {a1 : Nat} (Pa1 : ObAt 8 M a1) {a2 : Int32} {a3 : Int32} {Q : Int32 → Mem → Prop} (H : At G (d + 1) 13 6 [(0, .ref o), (1, .ref a1), (2, .int a2), (3, .int a3), (4, .int (0 : Int32)), (5, .int (0 : Int32))] [] M (qI Q)) : CI G (d + 1) 13 [.ref o, .ref a1, .int a2, .int a3] M Q := by
  refine Cl.ofM (Nat.le_of_ble_eq_true rfl) rfl ?_
  refine vcc ok13 0 [6, 85] ?_
  exact H

theorem c_X0_makesWish_6 {G : GT} {d : Nat} {M : Mem} {o : Nat} (O : ObAt 0 M o) {a1 : Nat} (Pa1 : ObAt 8 M a1) {l2 : Int32} {l3 : Int32} {l4 : Int32} {l5 : Int32} {Q : Int32 → Mem → Prop} (H : (l3 ≤ l5 → CV G d 1 [.ref o, .ref a1, .ref (o + 9), .int l4] M (fun M1 => (ObAt 0 M1 o ∧ ObAt 8 M1 a1) ∧ (((vi M1 o 1) = (vi M1 a1 3) → At G (d + 1) 13 85 [(0, .ref o), (1, .ref a1), (5, .int (0 : Int32))] [] M1 (qI Q)) ∧ (¬ (vi M1 o 1) = (vi M1 a1 3) → ((0 : Int32) = 0 ∨ (0 : Int32) = 1) ∧ Q (0 : Int32) M1)))) ∧ (¬ l3 ≤ l5 → ((12 : Int32) ≤ l5 → CV G d 1 [.ref o, .ref a1, .ref (o + 9), .int l4] M (fun M2 => (ObAt 0 M2 o ∧ ObAt 8 M2 a1) ∧ (((vi M2 o 1) = (vi M2 a1 3) → At G (d + 1) 13 85 [(0, .ref o), (1, .ref a1), (5, .int (0 : Int32))] [] M2 (qI Q)) ∧ (¬ (vi M2 o 1) = (vi M2 a1 3) → ((0 : Int32) = 0 ∨ (0 : Int32) = 1) ∧ Q (0 : Int32) M2)))) ∧ (¬ (12 : Int32) ≤ l5 → (((l2 >>> (l5 &&& 31)) &&& (1 : Int32)) = 0 → At G (d + 1) 13 6 [(0, .ref o), (1, .ref a1), (2, .int l2), (3, .int l3), (4, .int l4), (5, .int (l5 + (1 : Int32)))] [] M (qI Q)) ∧ (¬ ((l2 >>> (l5 &&& 31)) &&& (1 : Int32)) = 0 → ((12 : Int32) ≤ l4 → At G (d + 1) 13 6 [(0, .ref o), (1, .ref a1), (2, .int l2), (3, .int l3), (4, .int l4), (5, .int (l5 + (1 : Int32)))] [] M (qI Q)) ∧ (¬ (12 : Int32) ≤ l4 → vp_in l5 12 ∧ ((∀ r3, (vr M (o + 7) (l5).toNatClampNeg) = some r3 → vp_in l4 12 ∧ (mK M r3 = elN (mK M (o + 9)) + 1 ∧ (∀ M4, M4 = setr M (o + 9) (l4).toNatClampNeg (some r3) → At G (d + 1) 13 6 [(0, .ref o), (1, .ref a1), (2, .int l2), (3, .int l3), (4, .int (l4 + (1 : Int32))), (5, .int (l5 + (1 : Int32)))] [] M4 (qI Q)))) ∧ ((vr M (o + 7) (l5).toNatClampNeg) = none → vp_in l4 12 ∧ (∀ M5, M5 = setr M (o + 9) (l4).toNatClampNeg none → At G (d + 1) 13 6 [(0, .ref o), (1, .ref a1), (2, .int l2), (3, .int l3), (4, .int (l4 + (1 : Int32))), (5, .int (l5 + (1 : Int32)))] [] M5 (qI Q))))))))) : At G (d + 1) 13 6 [(0, .ref o), (1, .ref a1), (2, .int l2), (3, .int l3), (4, .int l4), (5, .int l5)] [] M (qI Q) := by
  refine vcc ok13 4 [85] ?_
  refine And.intro (fun c => ?_) (fun c => ?_)
  · replace H := H.1 c
    refine And.intro O.1 ?_
    refine Or.inl ⟨_, (ob0_r9 O), ?_⟩
    refine And.intro (Nat.le_of_ble_eq_true rfl) ?_
    refine And.intro (Nat.le_of_ble_eq_true rfl) (And.intro O.1 ?_)
    refine Cl.mono H (fun r M1 h => ?_)
    obtain ⟨rfl, H⟩ := h
    obtain ⟨⟨O, Pa1⟩, H⟩ := H
    refine And.intro O.1 ?_
    refine And.intro Pa1.1 ?_
    refine And.intro (fun c => ?_) (fun c => ?_)
    · replace H := H.1 c
      exact At.keep [0, 1, 5] H
    · replace H := H.2 c
      exact ⟨fun _ => H.1, _, rfl, H.2⟩
  · replace H := H.2 c
    refine And.intro (fun c => ?_) (fun c => ?_)
    · replace H := H.1 c
      refine And.intro O.1 ?_
      refine Or.inl ⟨_, (ob0_r9 O), ?_⟩
      refine And.intro (Nat.le_of_ble_eq_true rfl) ?_
      refine And.intro (Nat.le_of_ble_eq_true rfl) (And.intro O.1 ?_)
      refine Cl.mono H (fun r M2 h => ?_)
      obtain ⟨rfl, H⟩ := h
      obtain ⟨⟨O, Pa1⟩, H⟩ := H
      refine And.intro O.1 ?_
      refine And.intro Pa1.1 ?_
      refine And.intro (fun c => ?_) (fun c => ?_)
      · replace H := H.1 c
        exact At.keep [0, 1, 5] H
      · replace H := H.2 c
        exact ⟨fun _ => H.1, _, rfl, H.2⟩
    · replace H := H.2 c
      refine And.intro (fun c => ?_) (fun c => ?_)
      · replace H := H.1 c
        exact H
      · replace H := H.2 c
        refine And.intro (fun c => ?_) (fun c => ?_)
        · replace H := H.1 c
          exact H
        · replace H := H.2 c
          refine And.intro O.1 ?_
          refine Or.inl ⟨_, (ob0_r9 O), ?_⟩
          refine And.intro O.1 ?_
          refine Or.inl ⟨_, (ob0_r7 O), ?_⟩
          refine ⟨(k18 (ob0_k7 O)), vp_cst (ob0_l7 O) H.1, ?_⟩
          replace H := H.2
          refine wRef_i (fun r3 hr => ?_) (fun hr => ?_)
          · replace H := H.1 _ hr
            refine ⟨(k18 (ob0_k9 O)), vp_cst (ob0_l9 O) H.1, ?_⟩
            replace H := H.2
            refine And.intro H.1 ?_
            replace H := H.2
            replace H := H _ rfl
            exact H
          · replace H := H.2 hr
            refine ⟨(k18 (ob0_k9 O)), vp_cst (ob0_l9 O) H.1, ?_⟩
            replace H := H.2
            replace H := H _ rfl
            exact H

theorem c_X0_makesWish_85 {G : GT} {d : Nat} {M : Mem} {o : Nat} (O : ObAt 0 M o) {a1 : Nat} (Pa1 : ObAt 8 M a1) {l5 : Int32} {Q : Int32 → Mem → Prop} (H : ((vi M o 1) ≤ l5 → ((1 : Int32) = 0 ∨ (1 : Int32) = 1) ∧ Q (1 : Int32) M) ∧ (¬ (vi M o 1) ≤ l5 → ((200 : Int32) ≤ l5 → ((1 : Int32) = 0 ∨ (1 : Int32) = 1) ∧ Q (1 : Int32) M) ∧ (¬ (200 : Int32) ≤ l5 → vp_in l5 400 ∧ (vp_in l5 200 ∧ (((vi M (o + 1) (l5).toNatClampNeg) = (vi M (a1 + 2) (l5).toNatClampNeg) → At G (d + 1) 13 85 [(0, .ref o), (1, .ref a1), (5, .int (l5 + (1 : Int32)))] [] M (qI Q)) ∧ (¬ (vi M (o + 1) (l5).toNatClampNeg) = (vi M (a1 + 2) (l5).toNatClampNeg) → ((0 : Int32) = 0 ∨ (0 : Int32) = 1) ∧ Q (0 : Int32) M)))))) : At G (d + 1) 13 85 [(0, .ref o), (1, .ref a1), (5, .int l5)] [] M (qI Q) := by
  refine vcc ok13 45 [6] ?_
  refine And.intro O.1 ?_
  refine And.intro (fun c => ?_) (fun c => ?_)
  · replace H := H.1 c
    exact ⟨fun _ => H.1, _, rfl, H.2⟩
  · replace H := H.2 c
    refine And.intro (fun c => ?_) (fun c => ?_)
    · replace H := H.1 c
      exact ⟨fun _ => H.1, _, rfl, H.2⟩
    · replace H := H.2 c
      refine And.intro O.1 ?_
      refine Or.inl ⟨_, (ob0_r0 O), ?_⟩
      refine Or.inl ⟨(ob0_k0 O), vp_cst (ob0_l0 O) H.1, ?_⟩
      replace H := H.2
      refine And.intro Pa1.1 ?_
      refine Or.inl ⟨_, (ob8_r2 Pa1), ?_⟩
      refine Or.inl ⟨(ob8_k2 Pa1), vp_cst (ob8_l2 Pa1) H.1, ?_⟩
      replace H := H.2
      refine And.intro (fun c => ?_) (fun c => ?_)
      · replace H := H.1 c
        exact H
      · replace H := H.2 c
        exact ⟨fun _ => H.1, _, rfl, H.2⟩
