/-! THE CLASS, block by block: by program (wip/tools/clsall.py) -/
theorem c_X9_append {G : GT} {d : Nat} {M : Mem} {o : Nat} (O : ObAt 9 M o) {a1 : Int32} {Q : Mem → Prop} (H : At G (d + 1) 88 3 [(0, .ref o), (1, .int a1), (2, .int (24 : Int32))] [] M (qV Q)) : CV G (d + 1) 88 [.ref o, .int a1] M Q := by
  refine Cl.ofM (Nat.le_of_ble_eq_true rfl) rfl ?_
  refine vcc ok88 0 [3] ?_
  exact H

theorem c_X9_append_3 {G : GT} {d : Nat} {M : Mem} {o : Nat} (O : ObAt 9 M o) {l1 : Int32} {l2 : Int32} {Q : Mem → Prop} (H : (l2 < 0 → Q M) ∧ (¬ l2 < 0 → ((vi M o 1) < 0 → At G (d + 1) 88 3 [(0, .ref o), (1, .int l1), (2, .int (l2 + (-8 : Int32)))] [] M (qV Q)) ∧ (¬ (vi M o 1) < 0 → ((400 : Int32) ≤ (vi M o 1) → At G (d + 1) 88 3 [(0, .ref o), (1, .int l1), (2, .int (l2 + (-8 : Int32)))] [] M (qV Q)) ∧ (¬ (400 : Int32) ≤ (vi M o 1) → vp_in (vi M o 1) 400 ∧ (∀ M1, M1 = seti M (o + 1) ((vi M o 1)).toNatClampNeg ((((l1).toUInt32 >>> ((l2).toUInt32 &&& Int32.toUInt32 31)).toInt32) &&& (255 : Int32)) → ∀ M2, M2 = seti M1 o 1 ((vi M1 o 1) + (1 : Int32)) → At G (d + 1) 88 3 [(0, .ref o), (1, .int l1), (2, .int (l2 + (-8 : Int32)))] [] M2 (qV Q)))))) : At G (d + 1) 88 3 [(0, .ref o), (1, .int l1), (2, .int l2)] [] M (qV Q) := by
  refine vcc ok88 2 [] ?_
  refine And.intro (fun c => ?_) (fun c => ?_)
  · replace H := H.1 c
    exact ⟨rfl, H⟩
  · replace H := H.2 c
    refine And.intro O.1 ?_
    refine And.intro (fun c => ?_) (fun c => ?_)
    · replace H := H.1 c
      exact H
    · replace H := H.2 c
      refine And.intro O.1 ?_
      refine And.intro (fun c => ?_) (fun c => ?_)
      · replace H := H.1 c
        exact H
      · replace H := H.2 c
        refine And.intro O.1 ?_
        refine Or.inl ⟨_, (ob9_r0 O), ?_⟩
        refine And.intro O.1 ?_
        refine ⟨(ob9_k0 O), vp_cst (ob9_l0 O) H.1, ?_⟩
        replace H := H.2
        replace H := H _ rfl
        refine And.intro O.1 ?_
        refine And.intro O.1 ?_
        refine And.intro (Or.inl rfl) (And.intro (fun h => absurd h (by decide)) ?_)
        replace H := H _ rfl
        exact H

theorem c_X9_firstWrong {G : GT} {d : Nat} {M : Mem} {o : Nat} (O : ObAt 9 M o)  {Q : Int32 → Mem → Prop} (H : At G (d + 1) 89 2 [(0, .ref o), (1, .int (0 : Int32))] [] M (qI Q)) : CI G (d + 1) 89 [.ref o] M Q := by
  refine Cl.ofM (Nat.le_of_ble_eq_true rfl) rfl ?_
  refine vcc ok89 0 [2] ?_
  exact H

theorem c_X9_firstWrong_2 {G : GT} {d : Nat} {M : Mem} {o : Nat} (O : ObAt 9 M o) {l1 : Int32} {Q : Int32 → Mem → Prop} (H : ((vi M o 1) ≤ l1 → Q (-1 : Int32) M) ∧ (¬ (vi M o 1) ≤ l1 → ((200 : Int32) ≤ l1 → Q l1 M) ∧ (¬ (200 : Int32) ≤ l1 → vp_in l1 400 ∧ (CI G d 148 [.int (vi M (o + 1) (l1).toNatClampNeg)] M (fun v2 M1 => ObAt 9 M1 o ∧ ((¬ v2 = 0 → At G (d + 1) 89 2 [(0, .ref o), (1, .int (l1 + (1 : Int32)))] [] M1 (qI Q)) ∧ (v2 = 0 → Q l1 M1))))))) : At G (d + 1) 89 2 [(0, .ref o), (1, .int l1)] [] M (qI Q) := by
  refine vcc ok89 2 [] ?_
  refine And.intro O.1 ?_
  refine And.intro (fun c => ?_) (fun c => ?_)
  · replace H := H.1 c
    exact ⟨fun h => absurd h (by decide), _, rfl, H⟩
  · replace H := H.2 c
    refine And.intro (fun c => ?_) (fun c => ?_)
    · replace H := H.1 c
      exact ⟨fun h => absurd h (by decide), _, rfl, H⟩
    · replace H := H.2 c
      refine And.intro O.1 ?_
      refine Or.inl ⟨_, (ob9_r0 O), ?_⟩
      refine Or.inl ⟨(ob9_k0 O), vp_cst (ob9_l0 O) H.1, ?_⟩
      replace H := H.2
      refine And.intro (Nat.le_of_ble_eq_true rfl) ?_
      refine And.intro (Nat.le_of_ble_eq_true rfl) ?_
      refine Cl.mono H (fun r M1 h => ?_)
      obtain ⟨v2, rfl, H⟩ := h
      obtain ⟨O, H⟩ := H
      refine And.intro (fun c => ?_) (fun c => ?_)
      · replace H := H.1 c
        exact H
      · replace H := H.2 c
        exact ⟨fun h => absurd h (by decide), _, rfl, H⟩

theorem c_X9_rewind {G : GT} {d : Nat} {M : Mem} {o : Nat} (O : ObAt 9 M o)  {Q : Mem → Prop} (H : ∀ M1, M1 = seti M o 3 (0 : Int32) → ∀ M2, M2 = seti M1 o 2 (0 : Int32) → CV G d 93 [.ref o, .int (0 : Int32)] M2 (fun M3 => ObAt 9 M3 o ∧ (Q M3))) : CV G (d + 1) 90 [.ref o] M Q := by
  refine Cl.ofM (Nat.le_of_ble_eq_true rfl) rfl ?_
  refine vcc ok90 0 [] ?_
  refine And.intro O.1 ?_
  refine And.intro (Or.inl rfl) (And.intro (fun h => absurd h (by decide)) ?_)
  replace H := H _ rfl
  refine And.intro O.1 ?_
  refine And.intro (Or.inl rfl) (And.intro (fun h => absurd h (by decide)) ?_)
  replace H := H _ rfl
  refine And.intro (Nat.le_of_ble_eq_true rfl) ?_
  refine And.intro (Nat.le_of_ble_eq_true rfl) (And.intro O.1 ?_)
  refine Cl.mono H (fun r M3 h => ?_)
  obtain ⟨rfl, H⟩ := h
  obtain ⟨O, H⟩ := H
  exact ⟨rfl, H⟩

theorem c_X9_fail {G : GT} {d : Nat} {M : Mem} {o : Nat} (O : ObAt 9 M o) {a1 : Int32} {a2 : Int32} {Q : Mem → Prop} (H : (¬ (vi M o 3) = 0 → Q M) ∧ ((vi M o 3) = 0 → ∀ M1, M1 = seti M o 3 (((1 : Int32) + ((8 : Int32) * a1)) + a2) → Q M1)) : CV G (d + 1) 91 [.ref o, .int a1, .int a2] M Q := by
  refine Cl.ofM (Nat.le_of_ble_eq_true rfl) rfl ?_
  refine vcc ok91 0 [] ?_
  refine And.intro O.1 ?_
  refine And.intro (fun c => ?_) (fun c => ?_)
  · replace H := H.1 c
    exact ⟨rfl, H⟩
  · replace H := H.2 c
    refine And.intro O.1 ?_
    refine And.intro (Or.inl rfl) (And.intro (fun h => absurd h (by decide)) ?_)
    replace H := H _ rfl
    exact ⟨rfl, H⟩

theorem c_X9_peek {G : GT} {d : Nat} {M : Mem} {o : Nat} (O : ObAt 9 M o)  {Q : Int32 → Mem → Prop} (H : ((vi M o 2) < 0 → Q (-1 : Int32) M) ∧ (¬ (vi M o 2) < 0 → ((vi M o 1) ≤ (vi M o 2) → Q (-1 : Int32) M) ∧ (¬ (vi M o 1) ≤ (vi M o 2) → vp_in (vi M o 2) 400 ∧ (Q (vi M (o + 1) ((vi M o 2)).toNatClampNeg) M)))) : CI G (d + 1) 92 [.ref o] M Q := by
  refine Cl.ofM (Nat.le_of_ble_eq_true rfl) rfl ?_
  refine vcc ok92 0 [] ?_
  refine And.intro O.1 ?_
  refine And.intro (fun c => ?_) (fun c => ?_)
  · replace H := H.1 c
    exact ⟨fun h => absurd h (by decide), _, rfl, H⟩
  · replace H := H.2 c
    refine And.intro O.1 ?_
    refine And.intro O.1 ?_
    refine And.intro (fun c => ?_) (fun c => ?_)
    · replace H := H.1 c
      exact ⟨fun h => absurd h (by decide), _, rfl, H⟩
    · replace H := H.2 c
      refine And.intro O.1 ?_
      refine Or.inl ⟨_, (ob9_r0 O), ?_⟩
      refine And.intro O.1 ?_
      refine Or.inl ⟨(ob9_k0 O), vp_cst (ob9_l0 O) H.1, ?_⟩
      replace H := H.2
      exact ⟨fun h => absurd h (by decide), _, rfl, H⟩

theorem c_X9_pass {G : GT} {d : Nat} {M : Mem} {o : Nat} (O : ObAt 9 M o) {a1 : Int32} {Q : Mem → Prop} (H : ∀ M1, M1 = seti M o 2 ((vi M o 2) + a1) → At G (d + 1) 93 12 [(0, .ref o), (2, .int (0 : Int32))] [] M1 (qV Q)) : CV G (d + 1) 93 [.ref o, .int a1] M Q := by
  refine Cl.ofM (Nat.le_of_ble_eq_true rfl) rfl ?_
  refine vcc ok93 0 [12] ?_
  refine And.intro O.1 ?_
  refine And.intro O.1 ?_
  refine And.intro (Or.inl rfl) (And.intro (fun h => absurd h (by decide)) ?_)
  replace H := H _ rfl
  exact At.keep [0, 2] H

theorem c_X9_pass_12 {G : GT} {d : Nat} {M : Mem} {o : Nat} (O : ObAt 9 M o) {l2 : Int32} {Q : Mem → Prop} (H : ((400 : Int32) ≤ l2 → Q M) ∧ (¬ (400 : Int32) ≤ l2 → ((vi M o 2) < 0 → Q M) ∧ (¬ (vi M o 2) < 0 → ((vi M o 1) ≤ (vi M o 2) → Q M) ∧ (¬ (vi M o 1) ≤ (vi M o 2) → vp_in (vi M o 2) 400 ∧ ((¬ (vi M (o + 1) ((vi M o 2)).toNatClampNeg) = (32 : Int32) → Q M) ∧ ((vi M (o + 1) ((vi M o 2)).toNatClampNeg) = (32 : Int32) → ∀ M2, M2 = seti M o 2 ((vi M o 2) + (1 : Int32)) → At G (d + 1) 93 12 [(0, .ref o), (2, .int (l2 + (1 : Int32)))] [] M2 (qV Q))))))) : At G (d + 1) 93 12 [(0, .ref o), (2, .int l2)] [] M (qV Q) := by
  refine vcc ok93 8 [] ?_
  refine And.intro (fun c => ?_) (fun c => ?_)
  · replace H := H.1 c
    exact ⟨rfl, H⟩
  · replace H := H.2 c
    refine And.intro O.1 ?_
    refine And.intro (fun c => ?_) (fun c => ?_)
    · replace H := H.1 c
      exact ⟨rfl, H⟩
    · replace H := H.2 c
      refine And.intro O.1 ?_
      refine And.intro O.1 ?_
      refine And.intro (fun c => ?_) (fun c => ?_)
      · replace H := H.1 c
        exact ⟨rfl, H⟩
      · replace H := H.2 c
        refine And.intro O.1 ?_
        refine Or.inl ⟨_, (ob9_r0 O), ?_⟩
        refine And.intro O.1 ?_
        refine Or.inl ⟨(ob9_k0 O), vp_cst (ob9_l0 O) H.1, ?_⟩
        replace H := H.2
        refine And.intro (fun c => ?_) (fun c => ?_)
        · replace H := H.1 c
          exact ⟨rfl, H⟩
        · replace H := H.2 c
          refine And.intro O.1 ?_
          refine And.intro O.1 ?_
          refine And.intro (Or.inl rfl) (And.intro (fun h => absurd h (by decide)) ?_)
          replace H := H _ rfl
          exact H

theorem c_X9_takeSign {G : GT} {d : Nat} {M : Mem} {o : Nat} (O : ObAt 9 M o) {a1 : Int32} {a2 : Int32} {Q : Int32 → Mem → Prop} (H : CI G d 92 [.ref o] M (fun v2 M1 => ObAt 9 M1 o ∧ ((¬ (vi M1 o 3) = 0 → Q (-1 : Int32) M1) ∧ ((vi M1 o 3) = 0 → (v2 = a1 → CV G d 93 [.ref o, .int (1 : Int32)] M1 (fun M3 => ObAt 9 M3 o ∧ (Q v2 M3))) ∧ (¬ v2 = a1 → (v2 = a2 → CV G d 93 [.ref o, .int (1 : Int32)] M1 (fun M4 => ObAt 9 M4 o ∧ (Q v2 M4))) ∧ (¬ v2 = a2 → Q (-1 : Int32) M1)))))) : CI G (d + 1) 94 [.ref o, .int a1, .int a2] M Q := by
  refine Cl.ofM (Nat.le_of_ble_eq_true rfl) rfl ?_
  refine vcc ok94 0 [] ?_
  refine And.intro (Nat.le_of_ble_eq_true rfl) ?_
  refine And.intro (Nat.le_of_ble_eq_true rfl) (And.intro O.1 ?_)
  refine Cl.mono H (fun r M1 h => ?_)
  obtain ⟨v2, rfl, H⟩ := h
  obtain ⟨O, H⟩ := H
  refine And.intro O.1 ?_
  refine And.intro (fun c => ?_) (fun c => ?_)
  · replace H := H.1 c
    exact ⟨fun h => absurd h (by decide), _, rfl, H⟩
  · replace H := H.2 c
    refine And.intro (fun c => ?_) (fun c => ?_)
    · replace H := H.1 c
      refine And.intro (Nat.le_of_ble_eq_true rfl) ?_
      refine And.intro (Nat.le_of_ble_eq_true rfl) (And.intro O.1 ?_)
      refine Cl.mono H (fun r M3 h => ?_)
      obtain ⟨rfl, H⟩ := h
      obtain ⟨O, H⟩ := H
      exact ⟨fun h => absurd h (by decide), _, rfl, H⟩
    · replace H := H.2 c
      refine And.intro (fun c => ?_) (fun c => ?_)
      · replace H := H.1 c
        refine And.intro (Nat.le_of_ble_eq_true rfl) ?_
        refine And.intro (Nat.le_of_ble_eq_true rfl) (And.intro O.1 ?_)
        refine Cl.mono H (fun r M4 h => ?_)
        obtain ⟨rfl, H⟩ := h
        obtain ⟨O, H⟩ := H
        exact ⟨fun h => absurd h (by decide), _, rfl, H⟩
      · replace H := H.2 c
        exact ⟨fun h => absurd h (by decide), _, rfl, H⟩

theorem c_X9_takeWord {G : GT} {d : Nat} {M : Mem} {o : Nat} (O : ObAt 9 M o) {a1 : Nat} (ha1 : a1 < 27)  {Q : Int32 → Mem → Prop} (H : At G (d + 1) 95 7 [(0, .ref o), (1, .ref (gk G a1)), (2, .int (0 : Int32)), (3, .int (vi M o 2))] [] M (qI Q)) : CI G (d + 1) 95 [.ref o, .ref (gk G a1)] M Q := by
  refine Cl.ofM (Nat.le_of_ble_eq_true rfl) rfl ?_
  refine vcc ok95 0 [7, 61] ?_
  refine And.intro O.1 ?_
  exact H

theorem c_X9_takeWord_7 {G : GT} {d : Nat} {M : Mem} {o : Nat} (O : ObAt 9 M o) {a1 : Nat} (ha1 : a1 < 27) {l2 : Int32} {l3 : Int32} {Q : Int32 → Mem → Prop} (H : (l3 < 0 → (¬ (vi M o 3) = 0 → Q (-1 : Int32) M) ∧ ((vi M o 3) = 0 → (¬ l2 = 0 → At G (d + 1) 95 61 [(0, .ref o), (1, .ref (gk G a1)), (2, .int l2), (3, .int (0 : Int32)), (4, .int (0 : Int32)), (5, .int (0 : Int32))] [] M (qI Q)) ∧ (l2 = 0 → Q (-1 : Int32) M))) ∧ (¬ l3 < 0 → ((vi M o 1) ≤ l3 → (¬ (vi M o 3) = 0 → Q (-1 : Int32) M) ∧ ((vi M o 3) = 0 → (¬ l2 = 0 → At G (d + 1) 95 61 [(0, .ref o), (1, .ref (gk G a1)), (2, .int l2), (3, .int (0 : Int32)), (4, .int (0 : Int32)), (5, .int (0 : Int32))] [] M (qI Q)) ∧ (l2 = 0 → Q (-1 : Int32) M))) ∧ (¬ (vi M o 1) ≤ l3 → vp_in l3 400 ∧ (CI G d 149 [.int (vi M (o + 1) (l3).toNatClampNeg)] M (fun v2 M1 => ObAt 9 M1 o ∧ ((v2 = 0 → (¬ (vi M1 o 3) = 0 → Q (-1 : Int32) M1) ∧ ((vi M1 o 3) = 0 → (¬ l2 = 0 → At G (d + 1) 95 61 [(0, .ref o), (1, .ref (gk G a1)), (2, .int l2), (3, .int (0 : Int32)), (4, .int (0 : Int32)), (5, .int (0 : Int32))] [] M1 (qI Q)) ∧ (l2 = 0 → Q (-1 : Int32) M1))) ∧ (¬ v2 = 0 → At G (d + 1) 95 7 [(0, .ref o), (1, .ref (gk G a1)), (2, .int (l2 + (1 : Int32))), (3, .int (l3 + (1 : Int32)))] [] M1 (qI Q)))))))) : At G (d + 1) 95 7 [(0, .ref o), (1, .ref (gk G a1)), (2, .int l2), (3, .int l3)] [] M (qI Q) := by
  refine vcc ok95 5 [61] ?_
  refine And.intro (fun c => ?_) (fun c => ?_)
  · replace H := H.1 c
    refine And.intro O.1 ?_
    refine And.intro (fun c => ?_) (fun c => ?_)
    · replace H := H.1 c
      exact ⟨fun h => absurd h (by decide), _, rfl, H⟩
    · replace H := H.2 c
      refine And.intro (fun c => ?_) (fun c => ?_)
      · replace H := H.1 c
        exact H
      · replace H := H.2 c
        exact ⟨fun h => absurd h (by decide), _, rfl, H⟩
  · replace H := H.2 c
    refine And.intro O.1 ?_
    refine And.intro (fun c => ?_) (fun c => ?_)
    · replace H := H.1 c
      refine And.intro O.1 ?_
      refine And.intro (fun c => ?_) (fun c => ?_)
      · replace H := H.1 c
        exact ⟨fun h => absurd h (by decide), _, rfl, H⟩
      · replace H := H.2 c
        refine And.intro (fun c => ?_) (fun c => ?_)
        · replace H := H.1 c
          exact H
        · replace H := H.2 c
          exact ⟨fun h => absurd h (by decide), _, rfl, H⟩
    · replace H := H.2 c
      refine And.intro O.1 ?_
      refine Or.inl ⟨_, (ob9_r0 O), ?_⟩
      refine Or.inl ⟨(ob9_k0 O), vp_cst (ob9_l0 O) H.1, ?_⟩
      replace H := H.2
      refine And.intro (Nat.le_of_ble_eq_true rfl) ?_
      refine And.intro (Nat.le_of_ble_eq_true rfl) ?_
      refine Cl.mono H (fun r M1 h => ?_)
      obtain ⟨v2, rfl, H⟩ := h
      obtain ⟨O, H⟩ := H
      refine And.intro (fun c => ?_) (fun c => ?_)
      · replace H := H.1 c
        refine And.intro O.1 ?_
        refine And.intro (fun c => ?_) (fun c => ?_)
        · replace H := H.1 c
          exact ⟨fun h => absurd h (by decide), _, rfl, H⟩
        · replace H := H.2 c
          refine And.intro (fun c => ?_) (fun c => ?_)
          · replace H := H.1 c
            exact H
          · replace H := H.2 c
            exact ⟨fun h => absurd h (by decide), _, rfl, H⟩
      · replace H := H.2 c
        exact H

theorem c_X9_takeWord_61 {G : GT} {d : Nat} {M : Mem} {o : Nat} (O : ObAt 9 M o) {a1 : Nat} (ha1 : a1 < 27) {l2 : Int32} {l3 : Int32} {l4 : Int32} {l5 : Int32} {Q : Int32 → Mem → Prop} (H : CI G d 275 [.ref (gk G a1)] M (fun v4 M3 => ObAt 9 M3 o ∧ ((v4 < l5 → Q (-1 : Int32) M3) ∧ (¬ v4 < l5 → CI G d 275 [.ref (gk G a1)] M3 (fun v6 M5 => ObAt 9 M5 o ∧ ((v6 ≤ l5 → (¬ (32 : Int32) = (32 : Int32) → (l4 = (-1 : Int32) → At G (d + 1) 95 61 [(0, .ref o), (1, .ref (gk G a1)), (2, .int l2), (3, .int l3), (4, .int l4), (5, .int (l5 + (1 : Int32)))] [] M5 (qI Q)) ∧ (¬ l4 = (-1 : Int32) → (l2 ≤ l4 → At G (d + 1) 95 61 [(0, .ref o), (1, .ref (gk G a1)), (2, .int l2), (3, .int l3), (4, .int (-1 : Int32)), (5, .int (l5 + (1 : Int32)))] [] M5 (qI Q)) ∧ (¬ l2 ≤ l4 → vp_in ((vi M5 o 2) + l4) 400 ∧ ((¬ (vi M5 (o + 1) (((vi M5 o 2) + l4)).toNatClampNeg) = (32 : Int32) → At G (d + 1) 95 61 [(0, .ref o), (1, .ref (gk G a1)), (2, .int l2), (3, .int l3), (4, .int (-1 : Int32)), (5, .int (l5 + (1 : Int32)))] [] M5 (qI Q)) ∧ ((vi M5 (o + 1) (((vi M5 o 2) + l4)).toNatClampNeg) = (32 : Int32) → At G (d + 1) 95 61 [(0, .ref o), (1, .ref (gk G a1)), (2, .int l2), (3, .int l3), (4, .int (l4 + (1 : Int32))), (5, .int (l5 + (1 : Int32)))] [] M5 (qI Q)))))) ∧ ((32 : Int32) = (32 : Int32) → (¬ l4 = l2 → At G (d + 1) 95 61 [(0, .ref o), (1, .ref (gk G a1)), (2, .int l2), (3, .int (l3 + (1 : Int32))), (4, .int (0 : Int32)), (5, .int (l5 + (1 : Int32)))] [] M5 (qI Q)) ∧ (l4 = l2 → CV G d 93 [.ref o, .int l2] M5 (fun M7 => ObAt 9 M7 o ∧ (Q l3 M7))))) ∧ (¬ v6 ≤ l5 → CI G d 278 [.ref (gk G a1), .int l5] M5 (fun v9 M8 => ObAt 9 M8 o ∧ ((¬ v9 = (32 : Int32) → (l4 = (-1 : Int32) → At G (d + 1) 95 61 [(0, .ref o), (1, .ref (gk G a1)), (2, .int l2), (3, .int l3), (4, .int l4), (5, .int (l5 + (1 : Int32)))] [] M8 (qI Q)) ∧ (¬ l4 = (-1 : Int32) → (l2 ≤ l4 → At G (d + 1) 95 61 [(0, .ref o), (1, .ref (gk G a1)), (2, .int l2), (3, .int l3), (4, .int (-1 : Int32)), (5, .int (l5 + (1 : Int32)))] [] M8 (qI Q)) ∧ (¬ l2 ≤ l4 → vp_in ((vi M8 o 2) + l4) 400 ∧ ((¬ (vi M8 (o + 1) (((vi M8 o 2) + l4)).toNatClampNeg) = v9 → At G (d + 1) 95 61 [(0, .ref o), (1, .ref (gk G a1)), (2, .int l2), (3, .int l3), (4, .int (-1 : Int32)), (5, .int (l5 + (1 : Int32)))] [] M8 (qI Q)) ∧ ((vi M8 (o + 1) (((vi M8 o 2) + l4)).toNatClampNeg) = v9 → At G (d + 1) 95 61 [(0, .ref o), (1, .ref (gk G a1)), (2, .int l2), (3, .int l3), (4, .int (l4 + (1 : Int32))), (5, .int (l5 + (1 : Int32)))] [] M8 (qI Q)))))) ∧ (v9 = (32 : Int32) → (¬ l4 = l2 → At G (d + 1) 95 61 [(0, .ref o), (1, .ref (gk G a1)), (2, .int l2), (3, .int (l3 + (1 : Int32))), (4, .int (0 : Int32)), (5, .int (l5 + (1 : Int32)))] [] M8 (qI Q)) ∧ (l4 = l2 → CV G d 93 [.ref o, .int l2] M8 (fun M10 => ObAt 9 M10 o ∧ (Q l3 M10))))))))))))) : At G (d + 1) 95 61 [(0, .ref o), (1, .ref (gk G a1)), (2, .int l2), (3, .int l3), (4, .int l4), (5, .int l5)] [] M (qI Q) := by
  refine vcc ok95 33 [7] ?_
  refine And.intro (Nat.le_of_ble_eq_true rfl) ?_
  refine And.intro (Nat.le_of_ble_eq_true rfl) ⟨a1, ha1, rfl, ?_⟩
  refine Cl.mono H (fun r M3 h => ?_)
  obtain ⟨v4, rfl, H⟩ := h
  obtain ⟨O, H⟩ := H
  refine And.intro (fun c => ?_) (fun c => ?_)
  · replace H := H.1 c
    exact ⟨fun h => absurd h (by decide), _, rfl, H⟩
  · replace H := H.2 c
    refine And.intro (Nat.le_of_ble_eq_true rfl) ?_
    refine And.intro (Nat.le_of_ble_eq_true rfl) ⟨a1, ha1, rfl, ?_⟩
    refine Cl.mono H (fun r M5 h => ?_)
    obtain ⟨v6, rfl, H⟩ := h
    obtain ⟨O, H⟩ := H
    refine And.intro (fun c => ?_) (fun c => ?_)
    · replace H := H.1 c
      refine And.intro (fun c => ?_) (fun c => ?_)
      · replace H := H.1 c
        refine And.intro (fun c => ?_) (fun c => ?_)
        · replace H := H.1 c
          exact At.keep [0, 1, 2, 3, 4, 5] H
        · replace H := H.2 c
          refine And.intro (fun c => ?_) (fun c => ?_)
          · replace H := H.1 c
            exact At.keep [0, 1, 2, 3, 4, 5] H
          · replace H := H.2 c
            refine And.intro O.1 ?_
            refine Or.inl ⟨_, (ob9_r0 O), ?_⟩
            refine And.intro O.1 ?_
            refine Or.inl ⟨(ob9_k0 O), vp_cst (ob9_l0 O) H.1, ?_⟩
            replace H := H.2
            refine And.intro (fun c => ?_) (fun c => ?_)
            · replace H := H.1 c
              exact At.keep [0, 1, 2, 3, 4, 5] H
            · replace H := H.2 c
              exact At.keep [0, 1, 2, 3, 4, 5] H
      · replace H := H.2 c
        refine And.intro (fun c => ?_) (fun c => ?_)
        · replace H := H.1 c
          exact At.keep [0, 1, 2, 3, 4, 5] H
        · replace H := H.2 c
          refine And.intro (Nat.le_of_ble_eq_true rfl) ?_
          refine And.intro (Nat.le_of_ble_eq_true rfl) (And.intro O.1 ?_)
          refine Cl.mono H (fun r M7 h => ?_)
          obtain ⟨rfl, H⟩ := h
          obtain ⟨O, H⟩ := H
          exact ⟨fun h => absurd h (by decide), _, rfl, H⟩
    · replace H := H.2 c
      refine And.intro (Nat.le_of_ble_eq_true rfl) ?_
      refine And.intro (Nat.le_of_ble_eq_true rfl) ⟨a1, ha1, rfl, ?_⟩
      refine Cl.mono H (fun r M8 h => ?_)
      obtain ⟨v9, rfl, H⟩ := h
      obtain ⟨O, H⟩ := H
      refine And.intro (fun c => ?_) (fun c => ?_)
      · replace H := H.1 c
        refine And.intro (fun c => ?_) (fun c => ?_)
        · replace H := H.1 c
          exact At.keep [0, 1, 2, 3, 4, 5] H
        · replace H := H.2 c
          refine And.intro (fun c => ?_) (fun c => ?_)
          · replace H := H.1 c
            exact At.keep [0, 1, 2, 3, 4, 5] H
          · replace H := H.2 c
            refine And.intro O.1 ?_
            refine Or.inl ⟨_, (ob9_r0 O), ?_⟩
            refine And.intro O.1 ?_
            refine Or.inl ⟨(ob9_k0 O), vp_cst (ob9_l0 O) H.1, ?_⟩
            replace H := H.2
            refine And.intro (fun c => ?_) (fun c => ?_)
            · replace H := H.1 c
              exact At.keep [0, 1, 2, 3, 4, 5] H
            · replace H := H.2 c
              exact At.keep [0, 1, 2, 3, 4, 5] H
      · replace H := H.2 c
        refine And.intro (fun c => ?_) (fun c => ?_)
        · replace H := H.1 c
          exact At.keep [0, 1, 2, 3, 4, 5] H
        · replace H := H.2 c
          refine And.intro (Nat.le_of_ble_eq_true rfl) ?_
          refine And.intro (Nat.le_of_ble_eq_true rfl) (And.intro O.1 ?_)
          refine Cl.mono H (fun r M10 h => ?_)
          obtain ⟨rfl, H⟩ := h
          obtain ⟨O, H⟩ := H
          exact ⟨fun h => absurd h (by decide), _, rfl, H⟩

theorem c_X9_digits {G : GT} {d : Nat} {M : Mem} {o : Nat} (O : ObAt 9 M o)  {Q : Int32 → Mem → Prop} (H : At G (d + 1) 96 7 [(0, .ref o), (1, .int (0 : Int32)), (2, .int (vi M o 2))] [] M (qI Q)) : CI G (d + 1) 96 [.ref o] M Q := by
  refine Cl.ofM (Nat.le_of_ble_eq_true rfl) rfl ?_
  refine vcc ok96 0 [7] ?_
  refine And.intro O.1 ?_
  exact H

theorem c_X9_digits_7 {G : GT} {d : Nat} {M : Mem} {o : Nat} (O : ObAt 9 M o) {l1 : Int32} {l2 : Int32} {Q : Int32 → Mem → Prop} (H : (l2 < 0 → Q l1 M) ∧ (¬ l2 < 0 → ((vi M o 1) ≤ l2 → Q l1 M) ∧ (¬ (vi M o 1) ≤ l2 → vp_in l2 400 ∧ (CI G d 151 [.int (vi M (o + 1) (l2).toNatClampNeg)] M (fun v2 M1 => ObAt 9 M1 o ∧ ((v2 = 0 → Q l1 M1) ∧ (¬ v2 = 0 → At G (d + 1) 96 7 [(0, .ref o), (1, .int (l1 + (1 : Int32))), (2, .int (l2 + (1 : Int32)))] [] M1 (qI Q)))))))) : At G (d + 1) 96 7 [(0, .ref o), (1, .int l1), (2, .int l2)] [] M (qI Q) := by
  refine vcc ok96 5 [] ?_
  refine And.intro (fun c => ?_) (fun c => ?_)
  · replace H := H.1 c
    exact ⟨fun h => absurd h (by decide), _, rfl, H⟩
  · replace H := H.2 c
    refine And.intro O.1 ?_
    refine And.intro (fun c => ?_) (fun c => ?_)
    · replace H := H.1 c
      exact ⟨fun h => absurd h (by decide), _, rfl, H⟩
    · replace H := H.2 c
      refine And.intro O.1 ?_
      refine Or.inl ⟨_, (ob9_r0 O), ?_⟩
      refine Or.inl ⟨(ob9_k0 O), vp_cst (ob9_l0 O) H.1, ?_⟩
      replace H := H.2
      refine And.intro (Nat.le_of_ble_eq_true rfl) ?_
      refine And.intro (Nat.le_of_ble_eq_true rfl) ?_
      refine Cl.mono H (fun r M1 h => ?_)
      obtain ⟨v2, rfl, H⟩ := h
      obtain ⟨O, H⟩ := H
      refine And.intro (fun c => ?_) (fun c => ?_)
      · replace H := H.1 c
        exact ⟨fun h => absurd h (by decide), _, rfl, H⟩
      · replace H := H.2 c
        exact H

theorem c_X9_valueOf {G : GT} {d : Nat} {M : Mem} {o : Nat} (O : ObAt 9 M o) {a1 : Int32} {Q : Int32 → Mem → Prop} (H : At G (d + 1) 97 7 [(0, .ref o), (1, .int a1), (2, .int (0 : Int32)), (3, .int (vi M o 2))] [] M (qI Q)) : CI G (d + 1) 97 [.ref o, .int a1] M Q := by
  refine Cl.ofM (Nat.le_of_ble_eq_true rfl) rfl ?_
  refine vcc ok97 0 [7] ?_
  refine And.intro O.1 ?_
  exact H

theorem c_X9_valueOf_7 {G : GT} {d : Nat} {M : Mem} {o : Nat} (O : ObAt 9 M o) {l1 : Int32} {l2 : Int32} {l3 : Int32} {Q : Int32 → Mem → Prop} (H : (l3 < 0 → Q l2 M) ∧ (¬ l3 < 0 → ((vi M o 1) ≤ l3 → Q l2 M) ∧ (¬ (vi M o 1) ≤ l3 → (((vi M o 2) + l1) ≤ l3 → Q l2 M) ∧ (¬ ((vi M o 2) + l1) ≤ l3 → vp_in l3 400 ∧ (At G (d + 1) 97 7 [(0, .ref o), (1, .int l1), (2, .int (((l2 * (10 : Int32)) + (vi M (o + 1) (l3).toNatClampNeg)) - (48 : Int32))), (3, .int (l3 + (1 : Int32)))] [] M (qI Q)))))) : At G (d + 1) 97 7 [(0, .ref o), (1, .int l1), (2, .int l2), (3, .int l3)] [] M (qI Q) := by
  refine vcc ok97 5 [] ?_
  refine And.intro (fun c => ?_) (fun c => ?_)
  · replace H := H.1 c
    exact ⟨fun h => absurd h (by decide), _, rfl, H⟩
  · replace H := H.2 c
    refine And.intro O.1 ?_
    refine And.intro (fun c => ?_) (fun c => ?_)
    · replace H := H.1 c
      exact ⟨fun h => absurd h (by decide), _, rfl, H⟩
    · replace H := H.2 c
      refine And.intro O.1 ?_
      refine And.intro (fun c => ?_) (fun c => ?_)
      · replace H := H.1 c
        exact ⟨fun h => absurd h (by decide), _, rfl, H⟩
      · replace H := H.2 c
        refine And.intro O.1 ?_
        refine Or.inl ⟨_, (ob9_r0 O), ?_⟩
        refine Or.inl ⟨(ob9_k0 O), vp_cst (ob9_l0 O) H.1, ?_⟩
        replace H := H.2
        exact H
