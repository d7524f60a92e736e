/-! THE CLASS, block by block: by program (wip/tools/clsall.py) -/
theorem c_X3_handOver {G : GT} {d : Nat} {M : Mem} {o t l : Nat} (O : LrAt M o t l) (F : frM M)  {Q : Option Nat → Mem → Prop} (H : ∀ M1, M1 = mnew M 3 7 → CV G d 20 [.ref (mN M)] M1 (fun M2 => (LrAt M2 o t l ∧ frM M2) ∧ (∀ M3, M3 = setr M2 o 1 (some (mN M)) → Q (some l) M3))) : CR G (d + 1) 31 [.ref o] M Q := by
  refine Cl.ofM (Nat.le_of_ble_eq_true rfl) rfl ?_
  refine vcc ok31 0 [] ?_
  refine And.intro O.1 ?_
  refine Or.inl ⟨_, O.2.2.2.1, ?_⟩
  replace H := H _ rfl
  refine And.intro (Nat.le_of_ble_eq_true rfl) ?_
  refine And.intro (Nat.le_of_ble_eq_true rfl) ?_
  refine Cl.mono H (fun r M2 h => ?_)
  obtain ⟨rfl, H⟩ := h
  obtain ⟨⟨O, F⟩, H⟩ := H
  refine And.intro O.1 ?_
  refine And.intro rfl ?_
  replace H := H _ rfl
  exact ⟨some _, rfl, H⟩

theorem c_X3_readLaw {G : GT} {d : Nat} {M : Mem} {o t l : Nat} (O : LrAt M o t l)  {Q : Mem → Prop} (H : CV G d 90 [.ref t] M (fun M1 => LrAt M1 o t l ∧ (CV G d 21 [.ref l] M1 (fun M2 => LrAt M2 o t l ∧ (∀ M3, M3 = seti M2 o 2 (0 : Int32) → At G (d + 1) 32 21 [(0, .ref o), (1, .int (0 : Int32))] [] M3 (qV Q)))))) : CV G (d + 1) 32 [.ref o] M Q := by
  refine Cl.ofM (Nat.le_of_ble_eq_true rfl) rfl ?_
  refine vcc ok32 0 [21, 67, 82, 112, 162, 168] ?_
  refine And.intro O.1 ?_
  refine Or.inl ⟨_, O.2.1, ?_⟩
  refine And.intro (Nat.le_of_ble_eq_true rfl) ?_
  refine And.intro (Nat.le_of_ble_eq_true rfl) (And.intro O.2.2.1.1 ?_)
  refine Cl.mono H (fun r M1 h => ?_)
  obtain ⟨rfl, H⟩ := h
  obtain ⟨O, H⟩ := H
  refine And.intro O.1 ?_
  refine Or.inl ⟨_, O.2.2.2.1, ?_⟩
  refine And.intro (Nat.le_of_ble_eq_true rfl) ?_
  refine And.intro (Nat.le_of_ble_eq_true rfl) (And.intro O.2.2.2.2.1 ?_)
  refine Cl.mono H (fun r M2 h => ?_)
  obtain ⟨rfl, H⟩ := h
  obtain ⟨O, H⟩ := H
  refine And.intro O.1 ?_
  refine And.intro (Or.inl rfl) (And.intro (fun h => absurd h (by decide)) ?_)
  replace H := H _ rfl
  exact H

theorem c_X3_readLaw_21 {G : GT} {d : Nat} {M : Mem} {o t l : Nat} (O : LrAt M o t l) {l1 : Int32} {Q : Mem → Prop} (H : ((12 : Int32) < l1 → At G (d + 1) 32 168 [] [] M (qV Q)) ∧ (¬ (12 : Int32) < l1 → (¬ (vi M t 3) = 0 → At G (d + 1) 32 168 [] [] M (qV Q)) ∧ ((vi M t 3) = 0 → CI G d 95 [.ref t, .ref (gk G 1)] M (fun v5 M4 => LrAt M4 o t l ∧ ((¬ v5 = (-1 : Int32) → At G (d + 1) 32 67 [(0, .ref o), (1, .int l1), (2, .int (vi M t 2))] [] M4 (qV Q)) ∧ (v5 = (-1 : Int32) → CV G d 91 [.ref t, .int (vi M t 2), .int (0 : Int32)] M4 (fun M6 => LrAt M6 o t l ∧ (At G (d + 1) 32 67 [(0, .ref o), (1, .int l1), (2, .int (vi M t 2))] [] M6 (qV Q))))))))) : At G (d + 1) 32 21 [(0, .ref o), (1, .int l1)] [] M (qV Q) := by
  refine vcc ok32 11 [67, 82, 112, 162, 168] ?_
  refine And.intro (fun c => ?_) (fun c => ?_)
  · replace H := H.1 c
    exact At.keep [] H
  · replace H := H.2 c
    refine And.intro O.1 ?_
    refine Or.inl ⟨_, O.2.1, ?_⟩
    refine And.intro O.2.2.1.1 ?_
    refine And.intro (fun c => ?_) (fun c => ?_)
    · replace H := H.1 c
      exact At.keep [] H
    · replace H := H.2 c
      refine And.intro O.1 ?_
      refine Or.inl ⟨_, O.2.1, ?_⟩
      refine And.intro O.2.2.1.1 ?_
      refine And.intro O.1 ?_
      refine Or.inl ⟨_, O.2.1, ?_⟩
      refine And.intro (Nat.le_of_ble_eq_true rfl) ?_
      refine And.intro (Nat.le_of_ble_eq_true rfl) (And.intro O.2.2.1.1 ?_)
      refine Cl.mono H (fun r M4 h => ?_)
      obtain ⟨v5, rfl, H⟩ := h
      obtain ⟨O, H⟩ := H
      refine And.intro (fun c => ?_) (fun c => ?_)
      · replace H := H.1 c
        exact H
      · replace H := H.2 c
        refine And.intro O.1 ?_
        refine Or.inl ⟨_, O.2.1, ?_⟩
        refine And.intro (Nat.le_of_ble_eq_true rfl) ?_
        refine And.intro (Nat.le_of_ble_eq_true rfl) (And.intro O.2.2.1.1 ?_)
        refine Cl.mono H (fun r M6 h => ?_)
        obtain ⟨rfl, H⟩ := h
        obtain ⟨O, H⟩ := H
        exact H

theorem c_X3_readLaw_67 {G : GT} {d : Nat} {M : Mem} {o t l : Nat} (O : LrAt M o t l) {l1 : Int32} {l2 : Int32} {Q : Mem → Prop} (H : (l1 < (12 : Int32) → At G (d + 1) 32 82 [(0, .ref o), (1, .int l1)] [] M (qV Q)) ∧ (¬ l1 < (12 : Int32) → CV G d 91 [.ref t, .int l2, .int (4 : Int32)] M (fun M7 => LrAt M7 o t l ∧ (At G (d + 1) 32 82 [(0, .ref o), (1, .int l1)] [] M7 (qV Q))))) : At G (d + 1) 32 67 [(0, .ref o), (1, .int l1), (2, .int l2)] [] M (qV Q) := by
  refine vcc ok32 33 [21, 82, 112, 162, 168] ?_
  refine And.intro (fun c => ?_) (fun c => ?_)
  · replace H := H.1 c
    exact At.keep [0, 1] H
  · replace H := H.2 c
    refine And.intro O.1 ?_
    refine Or.inl ⟨_, O.2.1, ?_⟩
    refine And.intro (Nat.le_of_ble_eq_true rfl) ?_
    refine And.intro (Nat.le_of_ble_eq_true rfl) (And.intro O.2.2.1.1 ?_)
    refine Cl.mono H (fun r M7 h => ?_)
    obtain ⟨rfl, H⟩ := h
    obtain ⟨O, H⟩ := H
    exact At.keep [0, 1] H

theorem c_X3_readLaw_82 {G : GT} {d : Nat} {M : Mem} {o t l : Nat} (O : LrAt M o t l) {l1 : Int32} {Q : Mem → Prop} (H : CV G d 36 [.ref o] M (fun M8 => LrAt M8 o t l ∧ (CV G d 23 [.ref l, .int l1] M8 (fun M9 => LrAt M9 o t l ∧ (CI G d 95 [.ref t, .ref (gk G 3)] M9 (fun v11 M10 => LrAt M10 o t l ∧ ((v11 = (-1 : Int32) → At G (d + 1) 32 112 [(0, .ref o), (1, .int l1)] [] M10 (qV Q)) ∧ (¬ v11 = (-1 : Int32) → CV G d 33 [.ref o, .int (0 : Int32)] M10 (fun M12 => LrAt M12 o t l ∧ (At G (d + 1) 32 112 [(0, .ref o), (1, .int l1)] [] M12 (qV Q))))))))))) : At G (d + 1) 32 82 [(0, .ref o), (1, .int l1)] [] M (qV Q) := by
  refine vcc ok32 41 [21, 67, 112, 162, 168] ?_
  refine And.intro (Nat.le_of_ble_eq_true rfl) ?_
  refine And.intro (Nat.le_of_ble_eq_true rfl) (And.intro O.1 ?_)
  refine Cl.mono H (fun r M8 h => ?_)
  obtain ⟨rfl, H⟩ := h
  obtain ⟨O, H⟩ := H
  refine And.intro O.1 ?_
  refine Or.inl ⟨_, O.2.2.2.1, ?_⟩
  refine And.intro (Nat.le_of_ble_eq_true rfl) ?_
  refine And.intro (Nat.le_of_ble_eq_true rfl) (And.intro O.2.2.2.2.1 ?_)
  refine Cl.mono H (fun r M9 h => ?_)
  obtain ⟨rfl, H⟩ := h
  obtain ⟨O, H⟩ := H
  refine And.intro O.1 ?_
  refine Or.inl ⟨_, O.2.1, ?_⟩
  refine And.intro (Nat.le_of_ble_eq_true rfl) ?_
  refine And.intro (Nat.le_of_ble_eq_true rfl) (And.intro O.2.2.1.1 ?_)
  refine Cl.mono H (fun r M10 h => ?_)
  obtain ⟨v11, rfl, H⟩ := h
  obtain ⟨O, H⟩ := H
  refine And.intro (fun c => ?_) (fun c => ?_)
  · replace H := H.1 c
    exact H
  · replace H := H.2 c
    refine And.intro (Nat.le_of_ble_eq_true rfl) ?_
    refine And.intro (Nat.le_of_ble_eq_true rfl) (And.intro O.1 ?_)
    refine Cl.mono H (fun r M12 h => ?_)
    obtain ⟨rfl, H⟩ := h
    obtain ⟨O, H⟩ := H
    exact H

theorem c_X3_readLaw_112 {G : GT} {d : Nat} {M : Mem} {o t l : Nat} (O : LrAt M o t l) {l1 : Int32} {Q : Mem → Prop} (H : CV G d 24 [.ref l, .int l1] M (fun M13 => LrAt M13 o t l ∧ (CI G d 92 [.ref t] M13 (fun v15 M14 => LrAt M14 o t l ∧ ((¬ v15 = (-1 : Int32) → CI G d 94 [.ref t, .int (59 : Int32), .int (59 : Int32)] M14 (fun v17 M16 => LrAt M16 o t l ∧ ((¬ v17 = (-1 : Int32) → At G (d + 1) 32 162 [(0, .ref o), (1, .int l1)] [] M16 (qV Q)) ∧ (v17 = (-1 : Int32) → CV G d 91 [.ref t, .int (vi M16 t 2), .int (0 : Int32)] M16 (fun M18 => LrAt M18 o t l ∧ (At G (d + 1) 32 162 [(0, .ref o), (1, .int l1)] [] M18 (qV Q))))))) ∧ (v15 = (-1 : Int32) → Q M14)))))) : At G (d + 1) 32 112 [(0, .ref o), (1, .int l1)] [] M (qV Q) := by
  refine vcc ok32 56 [21, 67, 82, 162, 168] ?_
  refine And.intro O.1 ?_
  refine Or.inl ⟨_, O.2.2.2.1, ?_⟩
  refine And.intro (Nat.le_of_ble_eq_true rfl) ?_
  refine And.intro (Nat.le_of_ble_eq_true rfl) (And.intro O.2.2.2.2.1 ?_)
  refine Cl.mono H (fun r M13 h => ?_)
  obtain ⟨rfl, H⟩ := h
  obtain ⟨O, H⟩ := H
  refine And.intro O.1 ?_
  refine Or.inl ⟨_, O.2.1, ?_⟩
  refine And.intro (Nat.le_of_ble_eq_true rfl) ?_
  refine And.intro (Nat.le_of_ble_eq_true rfl) (And.intro O.2.2.1.1 ?_)
  refine Cl.mono H (fun r M14 h => ?_)
  obtain ⟨v15, rfl, H⟩ := h
  obtain ⟨O, H⟩ := H
  refine And.intro (fun c => ?_) (fun c => ?_)
  · replace H := H.1 c
    refine And.intro O.1 ?_
    refine Or.inl ⟨_, O.2.1, ?_⟩
    refine And.intro (Nat.le_of_ble_eq_true rfl) ?_
    refine And.intro (Nat.le_of_ble_eq_true rfl) (And.intro O.2.2.1.1 ?_)
    refine Cl.mono H (fun r M16 h => ?_)
    obtain ⟨v17, rfl, H⟩ := h
    obtain ⟨O, H⟩ := H
    refine And.intro (fun c => ?_) (fun c => ?_)
    · replace H := H.1 c
      exact H
    · replace H := H.2 c
      refine And.intro O.1 ?_
      refine Or.inl ⟨_, O.2.1, ?_⟩
      refine And.intro O.1 ?_
      refine Or.inl ⟨_, O.2.1, ?_⟩
      refine And.intro O.2.2.1.1 ?_
      refine And.intro (Nat.le_of_ble_eq_true rfl) ?_
      refine And.intro (Nat.le_of_ble_eq_true rfl) (And.intro O.2.2.1.1 ?_)
      refine Cl.mono H (fun r M18 h => ?_)
      obtain ⟨rfl, H⟩ := h
      obtain ⟨O, H⟩ := H
      exact H
  · replace H := H.2 c
    exact ⟨rfl, H⟩

theorem c_X3_readLaw_162 {G : GT} {d : Nat} {M : Mem} {o t l : Nat} (O : LrAt M o t l) {l1 : Int32} {Q : Mem → Prop} (H : At G (d + 1) 32 21 [(0, .ref o), (1, .int (l1 + (1 : Int32)))] [] M (qV Q)) : At G (d + 1) 32 162 [(0, .ref o), (1, .int l1)] [] M (qV Q) := by
  refine vcc ok32 80 [21, 67, 82, 112, 168] ?_
  exact H

theorem c_X3_readLaw_168 {G : GT} {d : Nat} {M : Mem} {o t l : Nat} (O : LrAt M o t l)  {Q : Mem → Prop} (H : Q M) : At G (d + 1) 32 168 [] [] M (qV Q) := by
  refine vcc ok32 82 [21, 67, 82, 112, 162] ?_
  exact ⟨rfl, H⟩

theorem c_X3_readTest {G : GT} {d : Nat} {M : Mem} {o t l : Nat} (O : LrAt M o t l) {a1 : Int32} {Q : Mem → Prop} (H : At G (d + 1) 33 2 [(0, .ref o), (1, .int a1), (2, .int (0 : Int32))] [] M (qV Q)) : CV G (d + 1) 33 [.ref o, .int a1] M Q := by
  refine Cl.ofM (Nat.le_of_ble_eq_true rfl) rfl ?_
  refine vcc ok33 0 [2, 16] ?_
  exact H

theorem c_X3_readTest_2 {G : GT} {d : Nat} {M : Mem} {o t l : Nat} (O : LrAt M o t l) {l1 : Int32} {l2 : Int32} {Q : Mem → Prop} (H : ((400 : Int32) ≤ l2 → Q M) ∧ (¬ (400 : Int32) ≤ l2 → CV G d 34 [.ref o, .int l1] M (fun M1 => LrAt M1 o t l ∧ (At G (d + 1) 33 16 [(0, .ref o), (1, .int l1), (2, .int l2), (3, .int (0 : Int32))] [] M1 (qV Q))))) : At G (d + 1) 33 2 [(0, .ref o), (1, .int l1), (2, .int l2)] [] M (qV Q) := by
  refine vcc ok33 2 [16] ?_
  refine And.intro (fun c => ?_) (fun c => ?_)
  · replace H := H.1 c
    exact ⟨rfl, H⟩
  · replace H := H.2 c
    refine And.intro (Nat.le_of_ble_eq_true rfl) ?_
    refine And.intro (Nat.le_of_ble_eq_true rfl) (And.intro O.1 ?_)
    refine Cl.mono H (fun r M1 h => ?_)
    obtain ⟨rfl, H⟩ := h
    obtain ⟨O, H⟩ := H
    exact H

theorem c_X3_readTest_16 {G : GT} {d : Nat} {M : Mem} {o t l : Nat} (O : LrAt M o t l) {l1 : Int32} {l2 : Int32} {l3 : Int32} {Q : Mem → Prop} (H : ((400 : Int32) ≤ l3 → (l2 ≤ 0 → CI G d 95 [.ref t, .ref (gk G 6)] M (fun v3 M2 => LrAt M2 o t l ∧ ((¬ v3 = (-1 : Int32) → At G (d + 1) 33 2 [(0, .ref o), (1, .int l1), (2, .int (l2 + (1 : Int32)))] [] M2 (qV Q)) ∧ (v3 = (-1 : Int32) → Q M2)))) ∧ (¬ l2 ≤ 0 → CV G d 22 [.ref l, .int (200010 : Int32)] M (fun M4 => LrAt M4 o t l ∧ (CI G d 95 [.ref t, .ref (gk G 6)] M4 (fun v6 M5 => LrAt M5 o t l ∧ ((¬ v6 = (-1 : Int32) → At G (d + 1) 33 2 [(0, .ref o), (1, .int l1), (2, .int (l2 + (1 : Int32)))] [] M5 (qV Q)) ∧ (v6 = (-1 : Int32) → Q M5))))))) ∧ (¬ (400 : Int32) ≤ l3 → CI G d 95 [.ref t, .ref (gk G 5)] M (fun v8 M7 => LrAt M7 o t l ∧ ((v8 = (-1 : Int32) → (l2 ≤ 0 → CI G d 95 [.ref t, .ref (gk G 6)] M7 (fun v10 M9 => LrAt M9 o t l ∧ ((¬ v10 = (-1 : Int32) → At G (d + 1) 33 2 [(0, .ref o), (1, .int l1), (2, .int (l2 + (1 : Int32)))] [] M9 (qV Q)) ∧ (v10 = (-1 : Int32) → Q M9)))) ∧ (¬ l2 ≤ 0 → CV G d 22 [.ref l, .int (200010 : Int32)] M7 (fun M11 => LrAt M11 o t l ∧ (CI G d 95 [.ref t, .ref (gk G 6)] M11 (fun v13 M12 => LrAt M12 o t l ∧ ((¬ v13 = (-1 : Int32) → At G (d + 1) 33 2 [(0, .ref o), (1, .int l1), (2, .int (l2 + (1 : Int32)))] [] M12 (qV Q)) ∧ (v13 = (-1 : Int32) → Q M12))))))) ∧ (¬ v8 = (-1 : Int32) → CV G d 34 [.ref o, .int l1] M7 (fun M14 => LrAt M14 o t l ∧ (CV G d 22 [.ref l, .int (200009 : Int32)] M14 (fun M15 => LrAt M15 o t l ∧ (At G (d + 1) 33 16 [(0, .ref o), (1, .int l1), (2, .int l2), (3, .int (l3 + (1 : Int32)))] [] M15 (qV Q)))))))))) : At G (d + 1) 33 16 [(0, .ref o), (1, .int l1), (2, .int l2), (3, .int l3)] [] M (qV Q) := by
  refine vcc ok33 10 [2] ?_
  refine And.intro (fun c => ?_) (fun c => ?_)
  · replace H := H.1 c
    refine And.intro (fun c => ?_) (fun c => ?_)
    · replace H := H.1 c
      refine And.intro O.1 ?_
      refine Or.inl ⟨_, O.2.1, ?_⟩
      refine And.intro (Nat.le_of_ble_eq_true rfl) ?_
      refine And.intro (Nat.le_of_ble_eq_true rfl) (And.intro O.2.2.1.1 ?_)
      refine Cl.mono H (fun r M2 h => ?_)
      obtain ⟨v3, rfl, H⟩ := h
      obtain ⟨O, H⟩ := H
      refine And.intro (fun c => ?_) (fun c => ?_)
      · replace H := H.1 c
        exact At.keep [0, 1, 2] H
      · replace H := H.2 c
        exact ⟨rfl, H⟩
    · replace H := H.2 c
      refine And.intro O.1 ?_
      refine Or.inl ⟨_, O.2.2.2.1, ?_⟩
      refine And.intro (Nat.le_of_ble_eq_true rfl) ?_
      refine And.intro (Nat.le_of_ble_eq_true rfl) (And.intro O.2.2.2.2.1 ?_)
      refine Cl.mono H (fun r M4 h => ?_)
      obtain ⟨rfl, H⟩ := h
      obtain ⟨O, H⟩ := H
      refine And.intro O.1 ?_
      refine Or.inl ⟨_, O.2.1, ?_⟩
      refine And.intro (Nat.le_of_ble_eq_true rfl) ?_
      refine And.intro (Nat.le_of_ble_eq_true rfl) (And.intro O.2.2.1.1 ?_)
      refine Cl.mono H (fun r M5 h => ?_)
      obtain ⟨v6, rfl, H⟩ := h
      obtain ⟨O, H⟩ := H
      refine And.intro (fun c => ?_) (fun c => ?_)
      · replace H := H.1 c
        exact At.keep [0, 1, 2] H
      · replace H := H.2 c
        exact ⟨rfl, H⟩
  · replace H := H.2 c
    refine And.intro O.1 ?_
    refine Or.inl ⟨_, O.2.1, ?_⟩
    refine And.intro (Nat.le_of_ble_eq_true rfl) ?_
    refine And.intro (Nat.le_of_ble_eq_true rfl) (And.intro O.2.2.1.1 ?_)
    refine Cl.mono H (fun r M7 h => ?_)
    obtain ⟨v8, rfl, H⟩ := h
    obtain ⟨O, H⟩ := H
    refine And.intro (fun c => ?_) (fun c => ?_)
    · replace H := H.1 c
      refine And.intro (fun c => ?_) (fun c => ?_)
      · replace H := H.1 c
        refine And.intro O.1 ?_
        refine Or.inl ⟨_, O.2.1, ?_⟩
        refine And.intro (Nat.le_of_ble_eq_true rfl) ?_
        refine And.intro (Nat.le_of_ble_eq_true rfl) (And.intro O.2.2.1.1 ?_)
        refine Cl.mono H (fun r M9 h => ?_)
        obtain ⟨v10, rfl, H⟩ := h
        obtain ⟨O, H⟩ := H
        refine And.intro (fun c => ?_) (fun c => ?_)
        · replace H := H.1 c
          exact At.keep [0, 1, 2] H
        · replace H := H.2 c
          exact ⟨rfl, H⟩
      · replace H := H.2 c
        refine And.intro O.1 ?_
        refine Or.inl ⟨_, O.2.2.2.1, ?_⟩
        refine And.intro (Nat.le_of_ble_eq_true rfl) ?_
        refine And.intro (Nat.le_of_ble_eq_true rfl) (And.intro O.2.2.2.2.1 ?_)
        refine Cl.mono H (fun r M11 h => ?_)
        obtain ⟨rfl, H⟩ := h
        obtain ⟨O, H⟩ := H
        refine And.intro O.1 ?_
        refine Or.inl ⟨_, O.2.1, ?_⟩
        refine And.intro (Nat.le_of_ble_eq_true rfl) ?_
        refine And.intro (Nat.le_of_ble_eq_true rfl) (And.intro O.2.2.1.1 ?_)
        refine Cl.mono H (fun r M12 h => ?_)
        obtain ⟨v13, rfl, H⟩ := h
        obtain ⟨O, H⟩ := H
        refine And.intro (fun c => ?_) (fun c => ?_)
        · replace H := H.1 c
          exact At.keep [0, 1, 2] H
        · replace H := H.2 c
          exact ⟨rfl, H⟩
    · replace H := H.2 c
      refine And.intro (Nat.le_of_ble_eq_true rfl) ?_
      refine And.intro (Nat.le_of_ble_eq_true rfl) (And.intro O.1 ?_)
      refine Cl.mono H (fun r M14 h => ?_)
      obtain ⟨rfl, H⟩ := h
      obtain ⟨O, H⟩ := H
      refine And.intro O.1 ?_
      refine Or.inl ⟨_, O.2.2.2.1, ?_⟩
      refine And.intro (Nat.le_of_ble_eq_true rfl) ?_
      refine And.intro (Nat.le_of_ble_eq_true rfl) (And.intro O.2.2.2.2.1 ?_)
      refine Cl.mono H (fun r M15 h => ?_)
      obtain ⟨rfl, H⟩ := h
      obtain ⟨O, H⟩ := H
      exact H

theorem c_X3_readFact {G : GT} {d : Nat} {M : Mem} {o t l : Nat} (O : LrAt M o t l) {a1 : Int32} {Q : Mem → Prop} (H : CI G d 94 [.ref t, .int (91 : Int32), .int (91 : Int32)] M (fun v2 M1 => LrAt M1 o t l ∧ ((v2 = (-1 : Int32) → At G (d + 1) 34 28 [(0, .ref o), (1, .int a1), (2, .int (vi M t 2))] [.int (0 : Int32)] M1 (qV Q)) ∧ (¬ v2 = (-1 : Int32) → At G (d + 1) 34 28 [(0, .ref o), (1, .int a1), (2, .int (vi M t 2))] [.int (1 : Int32)] M1 (qV Q))))) : CV G (d + 1) 34 [.ref o, .int a1] M Q := by
  refine Cl.ofM (Nat.le_of_ble_eq_true rfl) rfl ?_
  refine vcc ok34 0 [28, 50, 51, 62, 80, 171] ?_
  refine And.intro O.1 ?_
  refine Or.inl ⟨_, O.2.1, ?_⟩
  refine And.intro O.2.2.1.1 ?_
  refine And.intro O.1 ?_
  refine Or.inl ⟨_, O.2.1, ?_⟩
  refine And.intro (Nat.le_of_ble_eq_true rfl) ?_
  refine And.intro (Nat.le_of_ble_eq_true rfl) (And.intro O.2.2.1.1 ?_)
  refine Cl.mono H (fun r M1 h => ?_)
  obtain ⟨v2, rfl, H⟩ := h
  obtain ⟨O, H⟩ := H
  refine And.intro (fun c => ?_) (fun c => ?_)
  · replace H := H.1 c
    exact H
  · replace H := H.2 c
    exact H

theorem c_X3_readFact_28 {G : GT} {d : Nat} {M : Mem} {o t l : Nat} (O : LrAt M o t l) {l1 : Int32} {l2 : Int32} {t0 : Int32} {Q : Mem → Prop} (H : (¬ t0 = 0 → At G (d + 1) 34 50 [(0, .ref o), (1, .int l1), (2, .int l2), (3, .int t0)] [] M (qV Q)) ∧ (t0 = 0 → CI G d 95 [.ref t, .ref (gk G 4)] M (fun v4 M3 => LrAt M3 o t l ∧ ((v4 = (-1 : Int32) → At G (d + 1) 34 50 [(0, .ref o), (1, .int l1), (2, .int l2), (3, .int t0)] [] M3 (qV Q)) ∧ (¬ v4 = (-1 : Int32) → At G (d + 1) 34 51 [(0, .ref o), (1, .int l1), (2, .int l2), (3, .int t0)] [.int (1 : Int32)] M3 (qV Q)))))) : At G (d + 1) 34 28 [(0, .ref o), (1, .int l1), (2, .int l2)] [.int t0] M (qV Q) := by
  refine vcc ok34 14 [50, 51, 62, 80, 171] ?_
  refine And.intro (fun c => ?_) (fun c => ?_)
  · replace H := H.1 c
    exact H
  · replace H := H.2 c
    refine And.intro O.1 ?_
    refine Or.inl ⟨_, O.2.1, ?_⟩
    refine And.intro (Nat.le_of_ble_eq_true rfl) ?_
    refine And.intro (Nat.le_of_ble_eq_true rfl) (And.intro O.2.2.1.1 ?_)
    refine Cl.mono H (fun r M3 h => ?_)
    obtain ⟨v4, rfl, H⟩ := h
    obtain ⟨O, H⟩ := H
    refine And.intro (fun c => ?_) (fun c => ?_)
    · replace H := H.1 c
      exact H
    · replace H := H.2 c
      exact H

theorem c_X3_readFact_50 {G : GT} {d : Nat} {M : Mem} {o t l : Nat} (O : LrAt M o t l) {l1 : Int32} {l2 : Int32} {l3 : Int32} {Q : Mem → Prop} (H : At G (d + 1) 34 51 [(0, .ref o), (1, .int l1), (2, .int l2), (3, .int l3)] [.int (0 : Int32)] M (qV Q)) : At G (d + 1) 34 50 [(0, .ref o), (1, .int l1), (2, .int l2), (3, .int l3)] [] M (qV Q) := by
  refine vcc ok34 25 [28, 51, 62, 80, 171] ?_
  exact H

theorem c_X3_readFact_51 {G : GT} {d : Nat} {M : Mem} {o t l : Nat} (O : LrAt M o t l) {l1 : Int32} {l2 : Int32} {l3 : Int32} {t0 : Int32} {Q : Mem → Prop} (H : (¬ l3 = 0 → At G (d + 1) 34 62 [(0, .ref o), (1, .int l1), (2, .int l2), (3, .int l3), (4, .int t0)] [] M (qV Q)) ∧ (l3 = 0 → (t0 = 0 → At G (d + 1) 34 80 [(0, .ref o), (1, .int l1), (3, .int l3), (4, .int t0)] [] M (qV Q)) ∧ (¬ t0 = 0 → At G (d + 1) 34 62 [(0, .ref o), (1, .int l1), (2, .int l2), (3, .int l3), (4, .int t0)] [] M (qV Q)))) : At G (d + 1) 34 51 [(0, .ref o), (1, .int l1), (2, .int l2), (3, .int l3)] [.int t0] M (qV Q) := by
  refine vcc ok34 26 [28, 50, 62, 80, 171] ?_
  refine And.intro (fun c => ?_) (fun c => ?_)
  · replace H := H.1 c
    exact H
  · replace H := H.2 c
    refine And.intro (fun c => ?_) (fun c => ?_)
    · replace H := H.1 c
      exact At.keep [0, 1, 3, 4] H
    · replace H := H.2 c
      exact H

theorem c_X3_readFact_62 {G : GT} {d : Nat} {M : Mem} {o t l : Nat} (O : LrAt M o t l) {l1 : Int32} {l2 : Int32} {l3 : Int32} {l4 : Int32} {Q : Mem → Prop} (H : (l1 < (10 : Int32) → At G (d + 1) 34 80 [(0, .ref o), (1, .int l1), (3, .int l3), (4, .int l4)] [] M (qV Q)) ∧ (¬ l1 < (10 : Int32) → CV G d 91 [.ref t, .int l2, .int (2 : Int32)] M (fun M5 => LrAt M5 o t l ∧ (At G (d + 1) 34 171 [] [] M5 (qV Q))))) : At G (d + 1) 34 62 [(0, .ref o), (1, .int l1), (2, .int l2), (3, .int l3), (4, .int l4)] [] M (qV Q) := by
  refine vcc ok34 31 [28, 50, 51, 80, 171] ?_
  refine And.intro (fun c => ?_) (fun c => ?_)
  · replace H := H.1 c
    exact At.keep [0, 1, 3, 4] H
  · replace H := H.2 c
    refine And.intro O.1 ?_
    refine Or.inl ⟨_, O.2.1, ?_⟩
    refine And.intro (Nat.le_of_ble_eq_true rfl) ?_
    refine And.intro (Nat.le_of_ble_eq_true rfl) (And.intro O.2.2.1.1 ?_)
    refine Cl.mono H (fun r M5 h => ?_)
    obtain ⟨rfl, H⟩ := h
    obtain ⟨O, H⟩ := H
    exact At.keep [] H

theorem c_X3_readFact_80 {G : GT} {d : Nat} {M : Mem} {o t l : Nat} (O : LrAt M o t l) {l1 : Int32} {l3 : Int32} {l4 : Int32} {Q : Mem → Prop} (H : (l3 = 0 → (l4 = 0 → CV G d 36 [.ref o] M (fun M6 => LrAt M6 o t l ∧ (CI G d 35 [.ref o] M6 (fun v8 M7 => LrAt M7 o t l ∧ (CV G d 36 [.ref o] M7 (fun M9 => LrAt M9 o t l ∧ (CV G d 22 [.ref l, .int v8] M9 (fun M10 => LrAt M10 o t l ∧ (At G (d + 1) 34 171 [] [] M10 (qV Q)))))))))) ∧ (¬ l4 = 0 → CV G d 34 [.ref o, .int (l1 + (1 : Int32))] M (fun M11 => LrAt M11 o t l ∧ (CV G d 22 [.ref l, .int (200011 : Int32)] M11 (fun M12 => LrAt M12 o t l ∧ (At G (d + 1) 34 171 [] [] M12 (qV Q))))))) ∧ (¬ l3 = 0 → CV G d 33 [.ref o, .int (l1 + (1 : Int32))] M (fun M13 => LrAt M13 o t l ∧ (CI G d 94 [.ref t, .int (93 : Int32), .int (93 : Int32)] M13 (fun v15 M14 => LrAt M14 o t l ∧ ((¬ v15 = (-1 : Int32) → At G (d + 1) 34 171 [] [] M14 (qV Q)) ∧ (v15 = (-1 : Int32) → CV G d 91 [.ref t, .int (vi M14 t 2), .int (0 : Int32)] M14 (fun M16 => LrAt M16 o t l ∧ (At G (d + 1) 34 171 [] [] M16 (qV Q)))))))))) : At G (d + 1) 34 80 [(0, .ref o), (1, .int l1), (3, .int l3), (4, .int l4)] [] M (qV Q) := by
  refine vcc ok34 40 [28, 50, 51, 62, 171] ?_
  refine And.intro (fun c => ?_) (fun c => ?_)
  · replace H := H.1 c
    refine And.intro (fun c => ?_) (fun c => ?_)
    · replace H := H.1 c
      refine And.intro (Nat.le_of_ble_eq_true rfl) ?_
      refine And.intro (Nat.le_of_ble_eq_true rfl) (And.intro O.1 ?_)
      refine Cl.mono H (fun r M6 h => ?_)
      obtain ⟨rfl, H⟩ := h
      obtain ⟨O, H⟩ := H
      refine And.intro (Nat.le_of_ble_eq_true rfl) ?_
      refine And.intro (Nat.le_of_ble_eq_true rfl) (And.intro O.1 ?_)
      refine Cl.mono H (fun r M7 h => ?_)
      obtain ⟨v8, rfl, H⟩ := h
      obtain ⟨O, H⟩ := H
      refine And.intro (Nat.le_of_ble_eq_true rfl) ?_
      refine And.intro (Nat.le_of_ble_eq_true rfl) (And.intro O.1 ?_)
      refine Cl.mono H (fun r M9 h => ?_)
      obtain ⟨rfl, H⟩ := h
      obtain ⟨O, H⟩ := H
      refine And.intro O.1 ?_
      refine Or.inl ⟨_, O.2.2.2.1, ?_⟩
      refine And.intro (Nat.le_of_ble_eq_true rfl) ?_
      refine And.intro (Nat.le_of_ble_eq_true rfl) (And.intro O.2.2.2.2.1 ?_)
      refine Cl.mono H (fun r M10 h => ?_)
      obtain ⟨rfl, H⟩ := h
      obtain ⟨O, H⟩ := H
      exact At.keep [] H
    · replace H := H.2 c
      refine And.intro (Nat.le_of_ble_eq_true rfl) ?_
      refine And.intro (Nat.le_of_ble_eq_true rfl) (And.intro O.1 ?_)
      refine Cl.mono H (fun r M11 h => ?_)
      obtain ⟨rfl, H⟩ := h
      obtain ⟨O, H⟩ := H
      refine And.intro O.1 ?_
      refine Or.inl ⟨_, O.2.2.2.1, ?_⟩
      refine And.intro (Nat.le_of_ble_eq_true rfl) ?_
      refine And.intro (Nat.le_of_ble_eq_true rfl) (And.intro O.2.2.2.2.1 ?_)
      refine Cl.mono H (fun r M12 h => ?_)
      obtain ⟨rfl, H⟩ := h
      obtain ⟨O, H⟩ := H
      exact At.keep [] H
  · replace H := H.2 c
    refine And.intro (Nat.le_of_ble_eq_true rfl) ?_
    refine And.intro (Nat.le_of_ble_eq_true rfl) (And.intro O.1 ?_)
    refine Cl.mono H (fun r M13 h => ?_)
    obtain ⟨rfl, H⟩ := h
    obtain ⟨O, H⟩ := H
    refine And.intro O.1 ?_
    refine Or.inl ⟨_, O.2.1, ?_⟩
    refine And.intro (Nat.le_of_ble_eq_true rfl) ?_
    refine And.intro (Nat.le_of_ble_eq_true rfl) (And.intro O.2.2.1.1 ?_)
    refine Cl.mono H (fun r M14 h => ?_)
    obtain ⟨v15, rfl, H⟩ := h
    obtain ⟨O, H⟩ := H
    refine And.intro (fun c => ?_) (fun c => ?_)
    · replace H := H.1 c
      exact At.keep [] H
    · replace H := H.2 c
      refine And.intro O.1 ?_
      refine Or.inl ⟨_, O.2.1, ?_⟩
      refine And.intro O.1 ?_
      refine Or.inl ⟨_, O.2.1, ?_⟩
      refine And.intro O.2.2.1.1 ?_
      refine And.intro (Nat.le_of_ble_eq_true rfl) ?_
      refine And.intro (Nat.le_of_ble_eq_true rfl) (And.intro O.2.2.1.1 ?_)
      refine Cl.mono H (fun r M16 h => ?_)
      obtain ⟨rfl, H⟩ := h
      obtain ⟨O, H⟩ := H
      exact At.keep [] H

theorem c_X3_readFact_171 {G : GT} {d : Nat} {M : Mem} {o t l : Nat} (O : LrAt M o t l)  {Q : Mem → Prop} (H : Q M) : At G (d + 1) 34 171 [] [] M (qV Q) := by
  refine vcc ok34 85 [28, 50, 51, 62, 80] ?_
  exact ⟨rfl, H⟩

theorem c_X3_readSign {G : GT} {d : Nat} {M : Mem} {o t l : Nat} (O : LrAt M o t l)  {Q : Int32 → Mem → Prop} (H : CI G d 92 [.ref t] M (fun v2 M1 => LrAt M1 o t l ∧ ((v2 = (60 : Int32) → At G (d + 1) 35 45 [(0, .ref o), (1, .int (vi M t 2)), (2, .int v2)] [] M1 (qI Q)) ∧ (¬ v2 = (60 : Int32) → (v2 = (61 : Int32) → At G (d + 1) 35 45 [(0, .ref o), (1, .int (vi M t 2)), (2, .int v2)] [] M1 (qI Q)) ∧ (¬ v2 = (61 : Int32) → (v2 = (62 : Int32) → At G (d + 1) 35 45 [(0, .ref o), (1, .int (vi M t 2)), (2, .int v2)] [] M1 (qI Q)) ∧ (¬ v2 = (62 : Int32) → CV G d 91 [.ref t, .int (vi M t 2), .int (0 : Int32)] M1 (fun M3 => LrAt M3 o t l ∧ (Q (-1 : Int32) M3)))))))) : CI G (d + 1) 35 [.ref o] M Q := by
  refine Cl.ofM (Nat.le_of_ble_eq_true rfl) rfl ?_
  refine vcc ok35 0 [45, 85, 86, 100, 129, 141] ?_
  refine And.intro O.1 ?_
  refine Or.inl ⟨_, O.2.1, ?_⟩
  refine And.intro O.2.2.1.1 ?_
  refine And.intro O.1 ?_
  refine Or.inl ⟨_, O.2.1, ?_⟩
  refine And.intro (Nat.le_of_ble_eq_true rfl) ?_
  refine And.intro (Nat.le_of_ble_eq_true rfl) (And.intro O.2.2.1.1 ?_)
  refine Cl.mono H (fun r M1 h => ?_)
  obtain ⟨v2, rfl, H⟩ := h
  obtain ⟨O, H⟩ := H
  refine And.intro (fun c => ?_) (fun c => ?_)
  · replace H := H.1 c
    exact H
  · replace H := H.2 c
    refine And.intro (fun c => ?_) (fun c => ?_)
    · replace H := H.1 c
      exact H
    · replace H := H.2 c
      refine And.intro (fun c => ?_) (fun c => ?_)
      · replace H := H.1 c
        exact H
      · replace H := H.2 c
        refine And.intro O.1 ?_
        refine Or.inl ⟨_, O.2.1, ?_⟩
        refine And.intro (Nat.le_of_ble_eq_true rfl) ?_
        refine And.intro (Nat.le_of_ble_eq_true rfl) (And.intro O.2.2.1.1 ?_)
        refine Cl.mono H (fun r M3 h => ?_)
        obtain ⟨rfl, H⟩ := h
        obtain ⟨O, H⟩ := H
        exact ⟨fun h => absurd h (by decide), _, rfl, H⟩

theorem c_X3_readSign_45 {G : GT} {d : Nat} {M : Mem} {o t l : Nat} (O : LrAt M o t l) {l1 : Int32} {l2 : Int32} {Q : Int32 → Mem → Prop} (H : CV G d 38 [.ref o, .int l1] M (fun M4 => LrAt M4 o t l ∧ (∀ M5, M5 = seti M4 t 2 ((vi M4 t 2) + (1 : Int32)) → (l2 = (61 : Int32) → At G (d + 1) 35 85 [(0, .ref o), (2, .int l2)] [] M5 (qI Q)) ∧ (¬ l2 = (61 : Int32) → CI G d 92 [.ref t] M5 (fun v7 M6 => LrAt M6 o t l ∧ ((¬ v7 = (61 : Int32) → At G (d + 1) 35 85 [(0, .ref o), (2, .int l2)] [] M6 (qI Q)) ∧ (v7 = (61 : Int32) → At G (d + 1) 35 86 [(0, .ref o), (2, .int l2)] [.int (1 : Int32)] M6 (qI Q)))))))) : At G (d + 1) 35 45 [(0, .ref o), (1, .int l1), (2, .int l2)] [] M (qI Q) := by
  refine vcc ok35 24 [85, 86, 100, 129, 141] ?_
  refine And.intro (Nat.le_of_ble_eq_true rfl) ?_
  refine And.intro (Nat.le_of_ble_eq_true rfl) (And.intro O.1 ?_)
  refine Cl.mono H (fun r M4 h => ?_)
  obtain ⟨rfl, H⟩ := h
  obtain ⟨O, H⟩ := H
  refine And.intro O.1 ?_
  refine Or.inl ⟨_, O.2.1, ?_⟩
  refine And.intro O.2.2.1.1 ?_
  refine And.intro O.2.2.1.1 ?_
  refine And.intro (Or.inl rfl) (And.intro (fun h => absurd h (by decide)) ?_)
  replace H := H _ rfl
  refine And.intro (fun c => ?_) (fun c => ?_)
  · replace H := H.1 c
    exact At.keep [0, 2] H
  · replace H := H.2 c
    refine And.intro O.1 ?_
    refine Or.inl ⟨_, O.2.1, ?_⟩
    refine And.intro (Nat.le_of_ble_eq_true rfl) ?_
    refine And.intro (Nat.le_of_ble_eq_true rfl) (And.intro O.2.2.1.1 ?_)
    refine Cl.mono H (fun r M6 h => ?_)
    obtain ⟨v7, rfl, H⟩ := h
    obtain ⟨O, H⟩ := H
    refine And.intro (fun c => ?_) (fun c => ?_)
    · replace H := H.1 c
      exact At.keep [0, 2] H
    · replace H := H.2 c
      exact At.keep [0, 2] H

theorem c_X3_readSign_85 {G : GT} {d : Nat} {M : Mem} {o t l : Nat} (O : LrAt M o t l) {l2 : Int32} {Q : Int32 → Mem → Prop} (H : At G (d + 1) 35 86 [(0, .ref o), (2, .int l2)] [.int (0 : Int32)] M (qI Q)) : At G (d + 1) 35 85 [(0, .ref o), (2, .int l2)] [] M (qI Q) := by
  refine vcc ok35 44 [45, 86, 100, 129, 141] ?_
  exact H

theorem c_X3_readSign_86 {G : GT} {d : Nat} {M : Mem} {o t l : Nat} (O : LrAt M o t l) {l2 : Int32} {t0 : Int32} {Q : Int32 → Mem → Prop} (H : (t0 = 0 → At G (d + 1) 35 100 [(2, .int l2), (3, .int t0)] [.int (0 : Int32), .ref t] M (qI Q)) ∧ (¬ t0 = 0 → At G (d + 1) 35 100 [(2, .int l2), (3, .int t0)] [.int (1 : Int32), .ref t] M (qI Q))) : At G (d + 1) 35 86 [(0, .ref o), (2, .int l2)] [.int t0] M (qI Q) := by
  refine vcc ok35 45 [45, 85, 100, 129, 141] ?_
  refine And.intro O.1 ?_
  refine Or.inl ⟨_, O.2.1, ?_⟩
  refine And.intro (fun c => ?_) (fun c => ?_)
  · replace H := H.1 c
    exact At.keep [2, 3] H
  · replace H := H.2 c
    exact At.keep [2, 3] H

theorem c_X3_readSign_100 {G : GT} {d : Nat} {M : Mem} {o t l : Nat} (O : LrAt M o t l) {l2 : Int32} {l3 : Int32} {t0 : Int32} {t1 : Nat} {Q : Int32 → Mem → Prop} (H : mK M t1 = 10 ∧ CV G d 93 [.ref t1, .int t0] M (fun M8 => LrAt M8 o t l ∧ ((¬ l2 = (61 : Int32) → (¬ l2 = (60 : Int32) → (l3 = 0 → At G (d + 1) 35 141 [] [.int (200008 : Int32)] M8 (qI Q)) ∧ (¬ l3 = 0 → At G (d + 1) 35 141 [] [.int (200007 : Int32)] M8 (qI Q))) ∧ (l2 = (60 : Int32) → (l3 = 0 → At G (d + 1) 35 129 [] [.int (200004 : Int32)] M8 (qI Q)) ∧ (¬ l3 = 0 → At G (d + 1) 35 129 [] [.int (200005 : Int32)] M8 (qI Q)))) ∧ (l2 = (61 : Int32) → Q (200006 : Int32) M8)))) : At G (d + 1) 35 100 [(2, .int l2), (3, .int l3)] [.int t0, .ref t1] M (qI Q) := by
  refine vcc ok35 53 [45, 85, 86, 129, 141] ?_
  refine And.intro (Nat.le_of_ble_eq_true rfl) ?_
  refine And.intro (Nat.le_of_ble_eq_true rfl) (And.intro H.1 ?_)
  replace H := H.2
  refine Cl.mono H (fun r M8 h => ?_)
  obtain ⟨rfl, H⟩ := h
  obtain ⟨O, H⟩ := H
  refine And.intro (fun c => ?_) (fun c => ?_)
  · replace H := H.1 c
    refine And.intro (fun c => ?_) (fun c => ?_)
    · replace H := H.1 c
      refine And.intro (fun c => ?_) (fun c => ?_)
      · replace H := H.1 c
        exact At.keep [] H
      · replace H := H.2 c
        exact At.keep [] H
    · replace H := H.2 c
      refine And.intro (fun c => ?_) (fun c => ?_)
      · replace H := H.1 c
        exact At.keep [] H
      · replace H := H.2 c
        exact At.keep [] H
  · replace H := H.2 c
    exact ⟨fun h => absurd h (by decide), _, rfl, H⟩

theorem c_X3_readSign_129 {G : GT} {d : Nat} {M : Mem} {o t l : Nat} (O : LrAt M o t l) {t0 : Int32} {Q : Int32 → Mem → Prop} (H : Q t0 M) : At G (d + 1) 35 129 [] [.int t0] M (qI Q) := by
  refine vcc ok35 67 [45, 85, 86, 100, 141] ?_
  exact ⟨fun h => absurd h (by decide), _, rfl, H⟩

theorem c_X3_readSign_141 {G : GT} {d : Nat} {M : Mem} {o t l : Nat} (O : LrAt M o t l) {t0 : Int32} {Q : Int32 → Mem → Prop} (H : Q t0 M) : At G (d + 1) 35 141 [] [.int t0] M (qI Q) := by
  refine vcc ok35 73 [45, 85, 86, 100, 129] ?_
  exact ⟨fun h => absurd h (by decide), _, rfl, H⟩

theorem c_X3_readSum {G : GT} {d : Nat} {M : Mem} {o t l : Nat} (O : LrAt M o t l)  {Q : Mem → Prop} (H : At G (d + 1) 36 4 [(0, .ref o), (1, .int (-1 : Int32)), (2, .int (0 : Int32))] [] M (qV Q)) : CV G (d + 1) 36 [.ref o] M Q := by
  refine Cl.ofM (Nat.le_of_ble_eq_true rfl) rfl ?_
  refine vcc ok36 0 [4, 40] ?_
  exact H

theorem c_X3_readSum_4 {G : GT} {d : Nat} {M : Mem} {o t l : Nat} (O : LrAt M o t l) {l1 : Int32} {l2 : Int32} {Q : Mem → Prop} (H : ((400 : Int32) ≤ l2 → Q M) ∧ (¬ (400 : Int32) ≤ l2 → (¬ (vi M t 3) = 0 → Q M) ∧ ((vi M t 3) = 0 → CV G d 37 [.ref o] M (fun M1 => LrAt M1 o t l ∧ (CI G d 94 [.ref t, .int (42 : Int32), .int (47 : Int32)] M1 (fun v3 M2 => LrAt M2 o t l ∧ (At G (d + 1) 36 40 [(0, .ref o), (1, .int l1), (2, .int l2), (3, .int v3), (4, .int (0 : Int32))] [] M2 (qV Q)))))))) : At G (d + 1) 36 4 [(0, .ref o), (1, .int l1), (2, .int l2)] [] M (qV Q) := by
  refine vcc ok36 4 [40] ?_
  refine And.intro (fun c => ?_) (fun c => ?_)
  · replace H := H.1 c
    exact ⟨rfl, H⟩
  · replace H := H.2 c
    refine And.intro O.1 ?_
    refine Or.inl ⟨_, O.2.1, ?_⟩
    refine And.intro O.2.2.1.1 ?_
    refine And.intro (fun c => ?_) (fun c => ?_)
    · replace H := H.1 c
      exact ⟨rfl, H⟩
    · replace H := H.2 c
      refine And.intro (Nat.le_of_ble_eq_true rfl) ?_
      refine And.intro (Nat.le_of_ble_eq_true rfl) (And.intro O.1 ?_)
      refine Cl.mono H (fun r M1 h => ?_)
      obtain ⟨rfl, H⟩ := h
      obtain ⟨O, H⟩ := H
      refine And.intro O.1 ?_
      refine Or.inl ⟨_, O.2.1, ?_⟩
      refine And.intro (Nat.le_of_ble_eq_true rfl) ?_
      refine And.intro (Nat.le_of_ble_eq_true rfl) (And.intro O.2.2.1.1 ?_)
      refine Cl.mono H (fun r M2 h => ?_)
      obtain ⟨v3, rfl, H⟩ := h
      obtain ⟨O, H⟩ := H
      exact H

theorem c_X3_readSum_40 {G : GT} {d : Nat} {M : Mem} {o t l : Nat} (O : LrAt M o t l) {l1 : Int32} {l2 : Int32} {l3 : Int32} {l4 : Int32} {Q : Mem → Prop} (H : ((400 : Int32) ≤ l4 → (l1 = (-1 : Int32) → CI G d 94 [.ref t, .int (43 : Int32), .int (45 : Int32)] M (fun v5 M4 => LrAt M4 o t l ∧ ((¬ v5 = (-1 : Int32) → (¬ v5 = (43 : Int32) → At G (d + 1) 36 4 [(0, .ref o), (1, .int (200001 : Int32)), (2, .int (l2 + (1 : Int32)))] [] M4 (qV Q)) ∧ (v5 = (43 : Int32) → At G (d + 1) 36 4 [(0, .ref o), (1, .int (200000 : Int32)), (2, .int (l2 + (1 : Int32)))] [] M4 (qV Q))) ∧ (v5 = (-1 : Int32) → Q M4)))) ∧ (¬ l1 = (-1 : Int32) → CV G d 22 [.ref l, .int l1] M (fun M6 => LrAt M6 o t l ∧ (CI G d 94 [.ref t, .int (43 : Int32), .int (45 : Int32)] M6 (fun v8 M7 => LrAt M7 o t l ∧ ((¬ v8 = (-1 : Int32) → (¬ v8 = (43 : Int32) → At G (d + 1) 36 4 [(0, .ref o), (1, .int (200001 : Int32)), (2, .int (l2 + (1 : Int32)))] [] M7 (qV Q)) ∧ (v8 = (43 : Int32) → At G (d + 1) 36 4 [(0, .ref o), (1, .int (200000 : Int32)), (2, .int (l2 + (1 : Int32)))] [] M7 (qV Q))) ∧ (v8 = (-1 : Int32) → Q M7))))))) ∧ (¬ (400 : Int32) ≤ l4 → (l3 = (-1 : Int32) → (l1 = (-1 : Int32) → CI G d 94 [.ref t, .int (43 : Int32), .int (45 : Int32)] M (fun v10 M9 => LrAt M9 o t l ∧ ((¬ v10 = (-1 : Int32) → (¬ v10 = (43 : Int32) → At G (d + 1) 36 4 [(0, .ref o), (1, .int (200001 : Int32)), (2, .int (l2 + (1 : Int32)))] [] M9 (qV Q)) ∧ (v10 = (43 : Int32) → At G (d + 1) 36 4 [(0, .ref o), (1, .int (200000 : Int32)), (2, .int (l2 + (1 : Int32)))] [] M9 (qV Q))) ∧ (v10 = (-1 : Int32) → Q M9)))) ∧ (¬ l1 = (-1 : Int32) → CV G d 22 [.ref l, .int l1] M (fun M11 => LrAt M11 o t l ∧ (CI G d 94 [.ref t, .int (43 : Int32), .int (45 : Int32)] M11 (fun v13 M12 => LrAt M12 o t l ∧ ((¬ v13 = (-1 : Int32) → (¬ v13 = (43 : Int32) → At G (d + 1) 36 4 [(0, .ref o), (1, .int (200001 : Int32)), (2, .int (l2 + (1 : Int32)))] [] M12 (qV Q)) ∧ (v13 = (43 : Int32) → At G (d + 1) 36 4 [(0, .ref o), (1, .int (200000 : Int32)), (2, .int (l2 + (1 : Int32)))] [] M12 (qV Q))) ∧ (v13 = (-1 : Int32) → Q M12))))))) ∧ (¬ l3 = (-1 : Int32) → CV G d 37 [.ref o] M (fun M14 => LrAt M14 o t l ∧ ((¬ l3 = (42 : Int32) → CV G d 22 [.ref l, .int (200003 : Int32)] M14 (fun M15 => LrAt M15 o t l ∧ (CI G d 94 [.ref t, .int (42 : Int32), .int (47 : Int32)] M15 (fun v17 M16 => LrAt M16 o t l ∧ (At G (d + 1) 36 40 [(0, .ref o), (1, .int l1), (2, .int l2), (3, .int v17), (4, .int (l4 + (1 : Int32)))] [] M16 (qV Q)))))) ∧ (l3 = (42 : Int32) → CV G d 22 [.ref l, .int (200002 : Int32)] M14 (fun M18 => LrAt M18 o t l ∧ (CI G d 94 [.ref t, .int (42 : Int32), .int (47 : Int32)] M18 (fun v20 M19 => LrAt M19 o t l ∧ (At G (d + 1) 36 40 [(0, .ref o), (1, .int l1), (2, .int l2), (3, .int v20), (4, .int (l4 + (1 : Int32)))] [] M19 (qV Q))))))))))) : At G (d + 1) 36 40 [(0, .ref o), (1, .int l1), (2, .int l2), (3, .int l3), (4, .int l4)] [] M (qV Q) := by
  refine vcc ok36 21 [4] ?_
  refine And.intro (fun c => ?_) (fun c => ?_)
  · replace H := H.1 c
    refine And.intro (fun c => ?_) (fun c => ?_)
    · replace H := H.1 c
      refine And.intro O.1 ?_
      refine Or.inl ⟨_, O.2.1, ?_⟩
      refine And.intro (Nat.le_of_ble_eq_true rfl) ?_
      refine And.intro (Nat.le_of_ble_eq_true rfl) (And.intro O.2.2.1.1 ?_)
      refine Cl.mono H (fun r M4 h => ?_)
      obtain ⟨v5, rfl, H⟩ := h
      obtain ⟨O, H⟩ := H
      refine And.intro (fun c => ?_) (fun c => ?_)
      · replace H := H.1 c
        refine And.intro (fun c => ?_) (fun c => ?_)
        · replace H := H.1 c
          exact At.keep [0, 1, 2] H
        · replace H := H.2 c
          exact At.keep [0, 1, 2] H
      · replace H := H.2 c
        exact ⟨rfl, H⟩
    · replace H := H.2 c
      refine And.intro O.1 ?_
      refine Or.inl ⟨_, O.2.2.2.1, ?_⟩
      refine And.intro (Nat.le_of_ble_eq_true rfl) ?_
      refine And.intro (Nat.le_of_ble_eq_true rfl) (And.intro O.2.2.2.2.1 ?_)
      refine Cl.mono H (fun r M6 h => ?_)
      obtain ⟨rfl, H⟩ := h
      obtain ⟨O, H⟩ := H
      refine And.intro O.1 ?_
      refine Or.inl ⟨_, O.2.1, ?_⟩
      refine And.intro (Nat.le_of_ble_eq_true rfl) ?_
      refine And.intro (Nat.le_of_ble_eq_true rfl) (And.intro O.2.2.1.1 ?_)
      refine Cl.mono H (fun r M7 h => ?_)
      obtain ⟨v8, rfl, H⟩ := h
      obtain ⟨O, H⟩ := H
      refine And.intro (fun c => ?_) (fun c => ?_)
      · replace H := H.1 c
        refine And.intro (fun c => ?_) (fun c => ?_)
        · replace H := H.1 c
          exact At.keep [0, 1, 2] H
        · replace H := H.2 c
          exact At.keep [0, 1, 2] H
      · replace H := H.2 c
        exact ⟨rfl, H⟩
  · replace H := H.2 c
    refine And.intro (fun c => ?_) (fun c => ?_)
    · replace H := H.1 c
      refine And.intro (fun c => ?_) (fun c => ?_)
      · replace H := H.1 c
        refine And.intro O.1 ?_
        refine Or.inl ⟨_, O.2.1, ?_⟩
        refine And.intro (Nat.le_of_ble_eq_true rfl) ?_
        refine And.intro (Nat.le_of_ble_eq_true rfl) (And.intro O.2.2.1.1 ?_)
        refine Cl.mono H (fun r M9 h => ?_)
        obtain ⟨v10, rfl, H⟩ := h
        obtain ⟨O, H⟩ := H
        refine And.intro (fun c => ?_) (fun c => ?_)
        · replace H := H.1 c
          refine And.intro (fun c => ?_) (fun c => ?_)
          · replace H := H.1 c
            exact At.keep [0, 1, 2] H
          · replace H := H.2 c
            exact At.keep [0, 1, 2] H
        · replace H := H.2 c
          exact ⟨rfl, H⟩
      · replace H := H.2 c
        refine And.intro O.1 ?_
        refine Or.inl ⟨_, O.2.2.2.1, ?_⟩
        refine And.intro (Nat.le_of_ble_eq_true rfl) ?_
        refine And.intro (Nat.le_of_ble_eq_true rfl) (And.intro O.2.2.2.2.1 ?_)
        refine Cl.mono H (fun r M11 h => ?_)
        obtain ⟨rfl, H⟩ := h
        obtain ⟨O, H⟩ := H
        refine And.intro O.1 ?_
        refine Or.inl ⟨_, O.2.1, ?_⟩
        refine And.intro (Nat.le_of_ble_eq_true rfl) ?_
        refine And.intro (Nat.le_of_ble_eq_true rfl) (And.intro O.2.2.1.1 ?_)
        refine Cl.mono H (fun r M12 h => ?_)
        obtain ⟨v13, rfl, H⟩ := h
        obtain ⟨O, H⟩ := H
        refine And.intro (fun c => ?_) (fun c => ?_)
        · replace H := H.1 c
          refine And.intro (fun c => ?_) (fun c => ?_)
          · replace H := H.1 c
            exact At.keep [0, 1, 2] H
          · replace H := H.2 c
            exact At.keep [0, 1, 2] H
        · replace H := H.2 c
          exact ⟨rfl, H⟩
    · replace H := H.2 c
      refine And.intro (Nat.le_of_ble_eq_true rfl) ?_
      refine And.intro (Nat.le_of_ble_eq_true rfl) (And.intro O.1 ?_)
      refine Cl.mono H (fun r M14 h => ?_)
      obtain ⟨rfl, H⟩ := h
      obtain ⟨O, H⟩ := H
      refine And.intro O.1 ?_
      refine Or.inl ⟨_, O.2.2.2.1, ?_⟩
      refine And.intro (fun c => ?_) (fun c => ?_)
      · replace H := H.1 c
        refine And.intro (Nat.le_of_ble_eq_true rfl) ?_
        refine And.intro (Nat.le_of_ble_eq_true rfl) (And.intro O.2.2.2.2.1 ?_)
        refine Cl.mono H (fun r M15 h => ?_)
        obtain ⟨rfl, H⟩ := h
        obtain ⟨O, H⟩ := H
        refine And.intro O.1 ?_
        refine Or.inl ⟨_, O.2.1, ?_⟩
        refine And.intro (Nat.le_of_ble_eq_true rfl) ?_
        refine And.intro (Nat.le_of_ble_eq_true rfl) (And.intro O.2.2.1.1 ?_)
        refine Cl.mono H (fun r M16 h => ?_)
        obtain ⟨v17, rfl, H⟩ := h
        obtain ⟨O, H⟩ := H
        exact H
      · replace H := H.2 c
        refine And.intro (Nat.le_of_ble_eq_true rfl) ?_
        refine And.intro (Nat.le_of_ble_eq_true rfl) (And.intro O.2.2.2.2.1 ?_)
        refine Cl.mono H (fun r M18 h => ?_)
        obtain ⟨rfl, H⟩ := h
        obtain ⟨O, H⟩ := H
        refine And.intro O.1 ?_
        refine Or.inl ⟨_, O.2.1, ?_⟩
        refine And.intro (Nat.le_of_ble_eq_true rfl) ?_
        refine And.intro (Nat.le_of_ble_eq_true rfl) (And.intro O.2.2.1.1 ?_)
        refine Cl.mono H (fun r M19 h => ?_)
        obtain ⟨v20, rfl, H⟩ := h
        obtain ⟨O, H⟩ := H
        exact H

theorem c_X3_readValue {G : GT} {d : Nat} {M : Mem} {o t l : Nat} (O : LrAt M o t l)  {Q : Mem → Prop} (H : CI G d 96 [.ref t] M (fun v2 M1 => LrAt M1 o t l ∧ ((v2 ≤ (5 : Int32) → (v2 ≤ 0 → CI G d 95 [.ref t, .ref (gk G 2)] M1 (fun v4 M3 => LrAt M3 o t l ∧ ((¬ v4 = (-1 : Int32) → CV G d 22 [.ref l, .int ((100000 : Int32) + v4)] M3 (fun M5 => LrAt M5 o t l ∧ (CV G d 38 [.ref o, .int (vi M t 2)] M5 (fun M6 => LrAt M6 o t l ∧ (Q M6))))) ∧ (v4 = (-1 : Int32) → CV G d 91 [.ref t, .int (vi M t 2), .int (0 : Int32)] M3 (fun M7 => LrAt M7 o t l ∧ (Q M7)))))) ∧ (¬ v2 ≤ 0 → CI G d 97 [.ref t, .int v2] M1 (fun v9 M8 => LrAt M8 o t l ∧ (CV G d 22 [.ref l, .int v9] M8 (fun M10 => LrAt M10 o t l ∧ (CV G d 93 [.ref t, .int v2] M10 (fun M11 => LrAt M11 o t l ∧ (CV G d 38 [.ref o, .int (vi M t 2)] M11 (fun M12 => LrAt M12 o t l ∧ (Q M12)))))))))) ∧ (¬ v2 ≤ (5 : Int32) → CV G d 91 [.ref t, .int (vi M t 2), .int (1 : Int32)] M1 (fun M13 => LrAt M13 o t l ∧ (Q M13)))))) : CV G (d + 1) 37 [.ref o] M Q := by
  refine Cl.ofM (Nat.le_of_ble_eq_true rfl) rfl ?_
  refine vcc ok37 0 [] ?_
  refine And.intro O.1 ?_
  refine Or.inl ⟨_, O.2.1, ?_⟩
  refine And.intro O.2.2.1.1 ?_
  refine And.intro O.1 ?_
  refine Or.inl ⟨_, O.2.1, ?_⟩
  refine And.intro (Nat.le_of_ble_eq_true rfl) ?_
  refine And.intro (Nat.le_of_ble_eq_true rfl) (And.intro O.2.2.1.1 ?_)
  refine Cl.mono H (fun r M1 h => ?_)
  obtain ⟨v2, rfl, H⟩ := h
  obtain ⟨O, H⟩ := H
  refine And.intro (fun c => ?_) (fun c => ?_)
  · replace H := H.1 c
    refine And.intro (fun c => ?_) (fun c => ?_)
    · replace H := H.1 c
      refine And.intro O.1 ?_
      refine Or.inl ⟨_, O.2.1, ?_⟩
      refine And.intro (Nat.le_of_ble_eq_true rfl) ?_
      refine And.intro (Nat.le_of_ble_eq_true rfl) (And.intro O.2.2.1.1 ?_)
      refine Cl.mono H (fun r M3 h => ?_)
      obtain ⟨v4, rfl, H⟩ := h
      obtain ⟨O, H⟩ := H
      refine And.intro (fun c => ?_) (fun c => ?_)
      · replace H := H.1 c
        refine And.intro O.1 ?_
        refine Or.inl ⟨_, O.2.2.2.1, ?_⟩
        refine And.intro (Nat.le_of_ble_eq_true rfl) ?_
        refine And.intro (Nat.le_of_ble_eq_true rfl) (And.intro O.2.2.2.2.1 ?_)
        refine Cl.mono H (fun r M5 h => ?_)
        obtain ⟨rfl, H⟩ := h
        obtain ⟨O, H⟩ := H
        refine And.intro (Nat.le_of_ble_eq_true rfl) ?_
        refine And.intro (Nat.le_of_ble_eq_true rfl) (And.intro O.1 ?_)
        refine Cl.mono H (fun r M6 h => ?_)
        obtain ⟨rfl, H⟩ := h
        obtain ⟨O, H⟩ := H
        exact ⟨rfl, H⟩
      · replace H := H.2 c
        refine And.intro O.1 ?_
        refine Or.inl ⟨_, O.2.1, ?_⟩
        refine And.intro (Nat.le_of_ble_eq_true rfl) ?_
        refine And.intro (Nat.le_of_ble_eq_true rfl) (And.intro O.2.2.1.1 ?_)
        refine Cl.mono H (fun r M7 h => ?_)
        obtain ⟨rfl, H⟩ := h
        obtain ⟨O, H⟩ := H
        exact ⟨rfl, H⟩
    · replace H := H.2 c
      refine And.intro O.1 ?_
      refine Or.inl ⟨_, O.2.2.2.1, ?_⟩
      refine And.intro O.1 ?_
      refine Or.inl ⟨_, O.2.1, ?_⟩
      refine And.intro (Nat.le_of_ble_eq_true rfl) ?_
      refine And.intro (Nat.le_of_ble_eq_true rfl) (And.intro O.2.2.1.1 ?_)
      refine Cl.mono H (fun r M8 h => ?_)
      obtain ⟨v9, rfl, H⟩ := h
      obtain ⟨O, H⟩ := H
      refine And.intro (Nat.le_of_ble_eq_true rfl) ?_
      refine And.intro (Nat.le_of_ble_eq_true rfl) (And.intro O.2.2.2.2.1 ?_)
      refine Cl.mono H (fun r M10 h => ?_)
      obtain ⟨rfl, H⟩ := h
      obtain ⟨O, H⟩ := H
      refine And.intro O.1 ?_
      refine Or.inl ⟨_, O.2.1, ?_⟩
      refine And.intro (Nat.le_of_ble_eq_true rfl) ?_
      refine And.intro (Nat.le_of_ble_eq_true rfl) (And.intro O.2.2.1.1 ?_)
      refine Cl.mono H (fun r M11 h => ?_)
      obtain ⟨rfl, H⟩ := h
      obtain ⟨O, H⟩ := H
      refine And.intro (Nat.le_of_ble_eq_true rfl) ?_
      refine And.intro (Nat.le_of_ble_eq_true rfl) (And.intro O.1 ?_)
      refine Cl.mono H (fun r M12 h => ?_)
      obtain ⟨rfl, H⟩ := h
      obtain ⟨O, H⟩ := H
      exact ⟨rfl, H⟩
  · replace H := H.2 c
    refine And.intro O.1 ?_
    refine Or.inl ⟨_, O.2.1, ?_⟩
    refine And.intro (Nat.le_of_ble_eq_true rfl) ?_
    refine And.intro (Nat.le_of_ble_eq_true rfl) (And.intro O.2.2.1.1 ?_)
    refine Cl.mono H (fun r M13 h => ?_)
    obtain ⟨rfl, H⟩ := h
    obtain ⟨O, H⟩ := H
    exact ⟨rfl, H⟩

theorem c_X3_countAt {G : GT} {d : Nat} {M : Mem} {o t l : Nat} (O : LrAt M o t l) {a1 : Int32} {Q : Mem → Prop} (H : ∀ M1, M1 = seti M o 2 ((vi M o 2) + (1 : Int32)) → ((vi M1 o 2) ≤ (60 : Int32) → Q M1) ∧ (¬ (vi M1 o 2) ≤ (60 : Int32) → CV G d 91 [.ref t, .int a1, .int (3 : Int32)] M1 (fun M2 => LrAt M2 o t l ∧ (Q M2)))) : CV G (d + 1) 38 [.ref o, .int a1] M Q := by
  refine Cl.ofM (Nat.le_of_ble_eq_true rfl) rfl ?_
  refine vcc ok38 0 [] ?_
  refine And.intro O.1 ?_
  refine And.intro O.1 ?_
  refine And.intro (Or.inl rfl) (And.intro (fun h => absurd h (by decide)) ?_)
  replace H := H _ rfl
  refine And.intro O.1 ?_
  refine And.intro (fun c => ?_) (fun c => ?_)
  · replace H := H.1 c
    exact ⟨rfl, H⟩
  · replace H := H.2 c
    refine And.intro O.1 ?_
    refine Or.inl ⟨_, O.2.1, ?_⟩
    refine And.intro (Nat.le_of_ble_eq_true rfl) ?_
    refine And.intro (Nat.le_of_ble_eq_true rfl) (And.intro O.2.2.1.1 ?_)
    refine Cl.mono H (fun r M2 h => ?_)
    obtain ⟨rfl, H⟩ := h
    obtain ⟨O, H⟩ := H
    exact ⟨rfl, H⟩
