/-! THE REFERENCE, block by block: by program (wip/tools/refall.py) -/
theorem r_writes {G : GT} {d m : Nat} {M : Mem} (R : RefAt M m) {a1 : Int32} {Q : Mem → Prop} (H : vp_in (vi M m 44) 2000 ∧ (∀ M1, M1 = seti M (m + 30) ((vi M m 44)).toNatClampNeg a1 → ∀ M2, M2 = seti M1 m 44 ((vi M1 m 44) + (1 : Int32)) → Q M2)) : CV G (d + 1) 235 [.ref m, .int a1] M Q := by
  refine Cl.ofM (Nat.le_of_ble_eq_true rfl) rfl ?_
  refine vcc ok235 0 [] ?_
  refine And.intro R.1 ?_
  refine Or.inl ⟨_, (ra_r40 R), ?_⟩
  refine And.intro R.1 ?_
  refine ⟨(ra_k40 R), vp_cst (ra_l40 R) H.1, ?_⟩
  replace H := H.2
  replace H := H _ rfl
  refine And.intro R.1 ?_
  refine And.intro R.1 ?_
  refine And.intro (Or.inl rfl) (And.intro (fun h => absurd h (by decide)) ?_)
  replace H := H _ rfl
  exact ⟨rfl, H⟩

theorem r_putsIn {G : GT} {d m : Nat} {M : Mem} (R : RefAt M m) {a1 : Int32} {Q : Mem → Prop} (H : At G (d + 1) 236 2 [(0, .ref m), (1, .int a1), (2, .int (0 : Int32))] [] M (qV Q)) : CV G (d + 1) 236 [.ref m, .int a1] M Q := by
  refine Cl.ofM (Nat.le_of_ble_eq_true rfl) rfl ?_
  refine vcc ok236 0 [2, 38] ?_
  exact H

theorem r_putsIn_2 {G : GT} {d m : Nat} {M : Mem} (R : RefAt M m) {l1 : Int32} {l2 : Int32} {Q : Mem → Prop} (H : ((64 : Int32) ≤ l2 → Q M) ∧ (¬ (64 : Int32) ≤ l2 → vp_in l2 64 ∧ (((vi M (m + 31) (l2).toNatClampNeg) = 0 → At G (d + 1) 236 2 [(0, .ref m), (1, .int l1), (2, .int (l2 + (1 : Int32)))] [] M (qV Q)) ∧ (¬ (vi M (m + 31) (l2).toNatClampNeg) = 0 → vp_in l2 64 ∧ ((¬ (vi M (m + 7) (l2).toNatClampNeg) = 0 → At G (d + 1) 236 2 [(0, .ref m), (1, .int l1), (2, .int (l2 + (1 : Int32)))] [] M (qV Q)) ∧ ((vi M (m + 7) (l2).toNatClampNeg) = 0 → vp_in l2 64 ∧ ((¬ (vi M (m + 8) (l2).toNatClampNeg) = l1 → At G (d + 1) 236 2 [(0, .ref m), (1, .int l1), (2, .int (l2 + (1 : Int32)))] [] M (qV Q)) ∧ ((vi M (m + 8) (l2).toNatClampNeg) = l1 → At G (d + 1) 236 38 [(0, .ref m), (2, .int l2), (3, .int (0 : Int32))] [] M (qV Q))))))))) : At G (d + 1) 236 2 [(0, .ref m), (1, .int l1), (2, .int l2)] [] M (qV Q) := by
  refine vcc ok236 2 [38] ?_
  refine And.intro (fun c => ?_) (fun c => ?_)
  · replace H := H.1 c
    exact ⟨rfl, H⟩
  · replace H := H.2 c
    refine And.intro R.1 ?_
    refine Or.inl ⟨_, (ra_r41 R), ?_⟩
    refine ⟨(Or.inr (ra_k41 R)), vp_cst (ra_l41 R) H.1, ?_⟩
    replace H := H.2
    refine And.intro (fun c => ?_) (fun c => ?_)
    · replace H := H.1 c
      exact H
    · replace H := H.2 c
      refine And.intro R.1 ?_
      refine Or.inl ⟨_, (ra_r7 R), ?_⟩
      refine Or.inl ⟨(ra_k7 R), vp_cst (ra_l7 R) H.1, ?_⟩
      replace H := H.2
      refine And.intro (fun c => ?_) (fun c => ?_)
      · replace H := H.1 c
        exact H
      · replace H := H.2 c
        refine And.intro R.1 ?_
        refine Or.inl ⟨_, (ra_r8 R), ?_⟩
        refine Or.inl ⟨(ra_k8 R), vp_cst (ra_l8 R) H.1, ?_⟩
        replace H := H.2
        refine And.intro (fun c => ?_) (fun c => ?_)
        · replace H := H.1 c
          exact H
        · replace H := H.2 c
          exact At.keep [0, 2, 3] H

theorem r_putsIn_38 {G : GT} {d m : Nat} {M : Mem} (R : RefAt M m) {l2 : Int32} {l3 : Int32} {Q : Mem → Prop} (H : vp_in l2 64 ∧ (((vi M (m + 11) (l2).toNatClampNeg) ≤ l3 → Q M) ∧ (¬ (vi M (m + 11) (l2).toNatClampNeg) ≤ l3 → vp_in (((20 : Int32) * l2) + l3) 1280 ∧ (CV G d 235 [.ref m, .int (vi M (m + 12) ((((20 : Int32) * l2) + l3)).toNatClampNeg)] M (fun M1 => RefAt M1 m ∧ (At G (d + 1) 236 38 [(0, .ref m), (2, .int l2), (3, .int (l3 + (1 : Int32)))] [] M1 (qV Q))))))) : At G (d + 1) 236 38 [(0, .ref m), (2, .int l2), (3, .int l3)] [] M (qV Q) := by
  refine vcc ok236 23 [2] ?_
  refine And.intro R.1 ?_
  refine Or.inl ⟨_, (ra_r11 R), ?_⟩
  refine Or.inl ⟨(ra_k11 R), vp_cst (ra_l11 R) H.1, ?_⟩
  replace H := H.2
  refine And.intro (fun c => ?_) (fun c => ?_)
  · replace H := H.1 c
    exact ⟨rfl, H⟩
  · replace H := H.2 c
    refine And.intro R.1 ?_
    refine Or.inl ⟨_, (ra_r12 R), ?_⟩
    refine Or.inl ⟨(ra_k12 R), vp_cst (ra_l12 R) H.1, ?_⟩
    replace H := H.2
    refine And.intro (Nat.le_of_ble_eq_true rfl) ?_
    refine And.intro (Nat.le_of_ble_eq_true rfl) (And.intro R.1 ?_)
    refine Cl.mono H (fun r M1 h => ?_)
    obtain ⟨rfl, H⟩ := h
    obtain ⟨R, H⟩ := H
    exact H

theorem r_makes {G : GT} {d m : Nat} {M : Mem} (R : RefAt M m)  {Q : Mem → Prop} (H : vp_in (0 : Int32) 3 ∧ (∀ M1, M1 = seti M m 43 (((2 : Int32) * (vi M (m + 1) ((0 : Int32)).toNatClampNeg)) + (1 : Int32)) → At G (d + 1) 237 18 [(0, .ref m), (1, .int (vi M (m + 1) ((0 : Int32)).toNatClampNeg)), (2, .int (0 : Int32))] [] M1 (qV Q))) : CV G (d + 1) 237 [.ref m] M Q := by
  refine Cl.ofM (Nat.le_of_ble_eq_true rfl) rfl ?_
  refine vcc ok237 0 [18, 87, 111, 136, 186] ?_
  refine And.intro R.1 ?_
  refine Or.inl ⟨_, (ra_r1 R), ?_⟩
  refine Or.inl ⟨(ra_k1 R), vp_cst (ra_l1 R) H.1, ?_⟩
  replace H := H.2
  refine And.intro R.1 ?_
  refine And.intro (Or.inl rfl) (And.intro (fun h => absurd h (by decide)) ?_)
  replace H := H _ rfl
  exact H

theorem r_makes_18 {G : GT} {d m : Nat} {M : Mem} (R : RefAt M m) {l1 : Int32} {l2 : Int32} {Q : Mem → Prop} (H : (l1 ≤ l2 → vp_in ((2 : Int32) * l1) 401 ∧ (∀ M2, M2 = seti M (m + 27) (((2 : Int32) * l1)).toNatClampNeg ((1000 : Int32) + l1) → At G (d + 1) 237 87 [(0, .ref m), (2, .int (0 : Int32))] [] M2 (qV Q))) ∧ (¬ l1 ≤ l2 → vp_in ((2 : Int32) * l2) 401 ∧ (∀ M3, M3 = seti M (m + 27) (((2 : Int32) * l2)).toNatClampNeg ((1000 : Int32) + l2) → vp_in (((2 : Int32) * l2) + (1 : Int32)) 401 ∧ (∀ M4, M4 = seti M3 (m + 27) ((((2 : Int32) * l2) + (1 : Int32))).toNatClampNeg l2 → vp_in l2 200 ∧ (vp_in l2 200 ∧ (∀ M5, M5 = seti M4 (m + 29) (l2).toNatClampNeg (vi M4 (m + 2) (l2).toNatClampNeg) → vp_in l2 200 ∧ (∀ M6, M6 = seti M5 (m + 32) (l2).toNatClampNeg (vp_nar .boolean (0 : Int32)) → At G (d + 1) 237 18 [(0, .ref m), (1, .int l1), (2, .int (l2 + (1 : Int32)))] [] M6 (qV Q)))))))) : At G (d + 1) 237 18 [(0, .ref m), (1, .int l1), (2, .int l2)] [] M (qV Q) := by
  refine vcc ok237 14 [87, 111, 136, 186] ?_
  refine And.intro (fun c => ?_) (fun c => ?_)
  · replace H := H.1 c
    refine And.intro R.1 ?_
    refine Or.inl ⟨_, (ra_r37 R), ?_⟩
    refine ⟨(ra_k37 R), vp_cst (ra_l37 R) H.1, ?_⟩
    replace H := H.2
    replace H := H _ rfl
    exact At.keep [0, 2] H
  · replace H := H.2 c
    refine And.intro R.1 ?_
    refine Or.inl ⟨_, (ra_r37 R), ?_⟩
    refine ⟨(ra_k37 R), vp_cst (ra_l37 R) H.1, ?_⟩
    replace H := H.2
    replace H := H _ rfl
    refine And.intro R.1 ?_
    refine Or.inl ⟨_, (ra_r37 R), ?_⟩
    refine ⟨(ra_k37 R), vp_cst (ra_l37 R) H.1, ?_⟩
    replace H := H.2
    replace H := H _ rfl
    refine And.intro R.1 ?_
    refine Or.inl ⟨_, (ra_r39 R), ?_⟩
    refine And.intro R.1 ?_
    refine Or.inl ⟨_, (ra_r2 R), ?_⟩
    refine Or.inl ⟨(ra_k2 R), vp_cst (ra_l2 R) H.1, ?_⟩
    replace H := H.2
    refine ⟨(ra_k39 R), vp_cst (ra_l39 R) H.1, ?_⟩
    replace H := H.2
    replace H := H _ rfl
    refine And.intro R.1 ?_
    refine Or.inl ⟨_, (ra_r42 R), ?_⟩
    refine Or.inr ⟨(ra_k42 R), vp_cst (ra_l42 R) H.1, ?_⟩
    replace H := H.2
    replace H := H _ rfl
    exact H

theorem r_makes_87 {G : GT} {d m : Nat} {M : Mem} (R : RefAt M m) {l2 : Int32} {Q : Mem → Prop} (H : ((64 : Int32) ≤ l2 → CI G d 230 [.ref m] M (fun v8 M7 => RefAt M7 m ∧ (At G (d + 1) 237 111 [(0, .ref m), (2, .int v8)] [] M7 (qV Q)))) ∧ (¬ (64 : Int32) ≤ l2 → vp_in l2 64 ∧ (∀ M9, M9 = seti M (m + 26) (l2).toNatClampNeg (vp_nar .boolean (0 : Int32)) → At G (d + 1) 237 87 [(0, .ref m), (2, .int (l2 + (1 : Int32)))] [] M9 (qV Q)))) : At G (d + 1) 237 87 [(0, .ref m), (2, .int l2)] [] M (qV Q) := by
  refine vcc ok237 61 [18, 111, 136, 186] ?_
  refine And.intro (fun c => ?_) (fun c => ?_)
  · replace H := H.1 c
    refine And.intro (Nat.le_of_ble_eq_true rfl) ?_
    refine And.intro (Nat.le_of_ble_eq_true rfl) (And.intro R.1 ?_)
    refine Cl.mono H (fun r M7 h => ?_)
    obtain ⟨v8, rfl, H⟩ := h
    obtain ⟨R, H⟩ := H
    exact H
  · replace H := H.2 c
    refine And.intro R.1 ?_
    refine Or.inl ⟨_, (ra_r36 R), ?_⟩
    refine Or.inr ⟨(ra_k36 R), vp_cst (ra_l36 R) H.1, ?_⟩
    replace H := H.2
    replace H := H _ rfl
    exact H

theorem r_makes_111 {G : GT} {d m : Nat} {M : Mem} (R : RefAt M m) {l2 : Int32} {Q : Mem → Prop} (H : (l2 = (-1 : Int32) → At G (d + 1) 237 136 [(0, .ref m), (3, .int (0 : Int32))] [] M (qV Q)) ∧ (¬ l2 = (-1 : Int32) → CV G d 229 [.ref m, .int l2] M (fun M10 => RefAt M10 m ∧ (CV G d 231 [.ref m, .int l2] M10 (fun M11 => RefAt M11 m ∧ (CI G d 230 [.ref m] M11 (fun v13 M12 => RefAt M12 m ∧ (At G (d + 1) 237 111 [(0, .ref m), (2, .int v13)] [] M12 (qV Q))))))))) : At G (d + 1) 237 111 [(0, .ref m), (2, .int l2)] [] M (qV Q) := by
  refine vcc ok237 74 [18, 87, 136, 186] ?_
  refine And.intro (fun c => ?_) (fun c => ?_)
  · replace H := H.1 c
    exact At.keep [0, 3] H
  · replace H := H.2 c
    refine And.intro (Nat.le_of_ble_eq_true rfl) ?_
    refine And.intro (Nat.le_of_ble_eq_true rfl) (And.intro R.1 ?_)
    refine Cl.mono H (fun r M10 h => ?_)
    obtain ⟨rfl, H⟩ := h
    obtain ⟨R, H⟩ := H
    refine And.intro (Nat.le_of_ble_eq_true rfl) ?_
    refine And.intro (Nat.le_of_ble_eq_true rfl) (And.intro R.1 ?_)
    refine Cl.mono H (fun r M11 h => ?_)
    obtain ⟨rfl, H⟩ := h
    obtain ⟨R, H⟩ := H
    refine And.intro (Nat.le_of_ble_eq_true rfl) ?_
    refine And.intro (Nat.le_of_ble_eq_true rfl) (And.intro R.1 ?_)
    refine Cl.mono H (fun r M12 h => ?_)
    obtain ⟨v13, rfl, H⟩ := h
    obtain ⟨R, H⟩ := H
    exact H

theorem r_makes_136 {G : GT} {d m : Nat} {M : Mem} (R : RefAt M m) {l3 : Int32} {Q : Mem → Prop} (H : ((64 : Int32) ≤ l3 → ∀ M14, M14 = seti M m 44 (0 : Int32) → At G (d + 1) 237 186 [(0, .ref m), (3, .int (0 : Int32))] [] M14 (qV Q)) ∧ (¬ (64 : Int32) ≤ l3 → vp_in l3 64 ∧ (((vi M (m + 31) (l3).toNatClampNeg) = 0 → At G (d + 1) 237 136 [(0, .ref m), (3, .int (l3 + (1 : Int32)))] [] M (qV Q)) ∧ (¬ (vi M (m + 31) (l3).toNatClampNeg) = 0 → vp_in l3 64 ∧ (CI G d 155 [.long (((vi M (m + 7) (l3).toNatClampNeg)).toInt64), .long (1 : Int64), .long (3 : Int64)] M (fun v16 M15 => RefAt M15 m ∧ ((v16 = 0 → At G (d + 1) 237 136 [(0, .ref m), (3, .int (l3 + (1 : Int32)))] [] M15 (qV Q)) ∧ (¬ v16 = 0 → CV G d 234 [.ref m, .int l3] M15 (fun M17 => RefAt M17 m ∧ (At G (d + 1) 237 136 [(0, .ref m), (3, .int (l3 + (1 : Int32)))] [] M17 (qV Q))))))))))) : At G (d + 1) 237 136 [(0, .ref m), (3, .int l3)] [] M (qV Q) := by
  refine vcc ok237 89 [18, 87, 111, 186] ?_
  refine And.intro (fun c => ?_) (fun c => ?_)
  · replace H := H.1 c
    refine And.intro R.1 ?_
    refine And.intro (Or.inl rfl) (And.intro (fun h => absurd h (by decide)) ?_)
    replace H := H _ rfl
    exact H
  · replace H := H.2 c
    refine And.intro R.1 ?_
    refine Or.inl ⟨_, (ra_r41 R), ?_⟩
    refine ⟨(Or.inr (ra_k41 R)), vp_cst (ra_l41 R) H.1, ?_⟩
    replace H := H.2
    refine And.intro (fun c => ?_) (fun c => ?_)
    · replace H := H.1 c
      exact H
    · replace H := H.2 c
      refine And.intro R.1 ?_
      refine Or.inl ⟨_, (ra_r7 R), ?_⟩
      refine Or.inl ⟨(ra_k7 R), vp_cst (ra_l7 R) H.1, ?_⟩
      replace H := H.2
      refine And.intro (Nat.le_of_ble_eq_true rfl) ?_
      refine And.intro (Nat.le_of_ble_eq_true rfl) ?_
      refine Cl.mono H (fun r M15 h => ?_)
      obtain ⟨v16, rfl, H⟩ := h
      obtain ⟨R, H⟩ := H
      refine And.intro (fun c => ?_) (fun c => ?_)
      · replace H := H.1 c
        exact H
      · replace H := H.2 c
        refine And.intro (Nat.le_of_ble_eq_true rfl) ?_
        refine And.intro (Nat.le_of_ble_eq_true rfl) (And.intro R.1 ?_)
        refine Cl.mono H (fun r M17 h => ?_)
        obtain ⟨rfl, H⟩ := h
        obtain ⟨R, H⟩ := H
        exact H

theorem r_makes_186 {G : GT} {d m : Nat} {M : Mem} (R : RefAt M m) {l3 : Int32} {Q : Mem → Prop} (H : ((vi M m 43) ≤ l3 → Q M) ∧ (¬ (vi M m 43) ≤ l3 → vp_in l3 401 ∧ (((vi M (m + 27) (l3).toNatClampNeg) < (1000 : Int32) → vp_in l3 401 ∧ (vp_in (vi M (m + 27) (l3).toNatClampNeg) 200 ∧ ((¬ (vi M (m + 32) ((vi M (m + 27) (l3).toNatClampNeg)).toNatClampNeg) = 0 → At G (d + 1) 237 186 [(0, .ref m), (3, .int (l3 + (1 : Int32)))] [] M (qV Q)) ∧ ((vi M (m + 32) ((vi M (m + 27) (l3).toNatClampNeg)).toNatClampNeg) = 0 → vp_in l3 401 ∧ (vp_in (vi M (m + 27) (l3).toNatClampNeg) 200 ∧ (CV G d 235 [.ref m, .int (vi M (m + 29) ((vi M (m + 27) (l3).toNatClampNeg)).toNatClampNeg)] M (fun M18 => RefAt M18 m ∧ (At G (d + 1) 237 186 [(0, .ref m), (3, .int (l3 + (1 : Int32)))] [] M18 (qV Q))))))))) ∧ (¬ (vi M (m + 27) (l3).toNatClampNeg) < (1000 : Int32) → vp_in l3 401 ∧ (CV G d 236 [.ref m, .int ((vi M (m + 27) (l3).toNatClampNeg) - (1000 : Int32))] M (fun M19 => RefAt M19 m ∧ (At G (d + 1) 237 186 [(0, .ref m), (3, .int (l3 + (1 : Int32)))] [] M19 (qV Q)))))))) : At G (d + 1) 237 186 [(0, .ref m), (3, .int l3)] [] M (qV Q) := by
  refine vcc ok237 116 [18, 87, 111, 136] ?_
  refine And.intro R.1 ?_
  refine And.intro (fun c => ?_) (fun c => ?_)
  · replace H := H.1 c
    exact ⟨rfl, H⟩
  · replace H := H.2 c
    refine And.intro R.1 ?_
    refine Or.inl ⟨_, (ra_r37 R), ?_⟩
    refine Or.inl ⟨(ra_k37 R), vp_cst (ra_l37 R) H.1, ?_⟩
    replace H := H.2
    refine And.intro (fun c => ?_) (fun c => ?_)
    · replace H := H.1 c
      refine And.intro R.1 ?_
      refine Or.inl ⟨_, (ra_r42 R), ?_⟩
      refine And.intro R.1 ?_
      refine Or.inl ⟨_, (ra_r37 R), ?_⟩
      refine Or.inl ⟨(ra_k37 R), vp_cst (ra_l37 R) H.1, ?_⟩
      replace H := H.2
      refine ⟨(Or.inr (ra_k42 R)), vp_cst (ra_l42 R) H.1, ?_⟩
      replace H := H.2
      refine And.intro (fun c => ?_) (fun c => ?_)
      · replace H := H.1 c
        exact H
      · replace H := H.2 c
        refine And.intro R.1 ?_
        refine Or.inl ⟨_, (ra_r39 R), ?_⟩
        refine And.intro R.1 ?_
        refine Or.inl ⟨_, (ra_r37 R), ?_⟩
        refine Or.inl ⟨(ra_k37 R), vp_cst (ra_l37 R) H.1, ?_⟩
        replace H := H.2
        refine Or.inl ⟨(ra_k39 R), vp_cst (ra_l39 R) H.1, ?_⟩
        replace H := H.2
        refine And.intro (Nat.le_of_ble_eq_true rfl) ?_
        refine And.intro (Nat.le_of_ble_eq_true rfl) (And.intro R.1 ?_)
        refine Cl.mono H (fun r M18 h => ?_)
        obtain ⟨rfl, H⟩ := h
        obtain ⟨R, H⟩ := H
        exact H
    · replace H := H.2 c
      refine And.intro R.1 ?_
      refine Or.inl ⟨_, (ra_r37 R), ?_⟩
      refine Or.inl ⟨(ra_k37 R), vp_cst (ra_l37 R) H.1, ?_⟩
      replace H := H.2
      refine And.intro (Nat.le_of_ble_eq_true rfl) ?_
      refine And.intro (Nat.le_of_ble_eq_true rfl) (And.intro R.1 ?_)
      refine Cl.mono H (fun r M19 h => ?_)
      obtain ⟨rfl, H⟩ := h
      obtain ⟨R, H⟩ := H
      exact H

theorem r_makesOut {G : GT} {d m : Nat} {M : Mem} (R : RefAt M m) {a1 : Int32} {Q : Mem → Prop} (H : CV G d 224 [.ref m, .int a1] M (fun M1 => RefAt M1 m ∧ (At G (d + 1) 238 7 [(0, .ref m), (2, .int (0 : Int32))] [] M1 (qV Q)))) : CV G (d + 1) 238 [.ref m, .int a1] M Q := by
  refine Cl.ofM (Nat.le_of_ble_eq_true rfl) rfl ?_
  refine vcc ok238 0 [7] ?_
  refine And.intro (Nat.le_of_ble_eq_true rfl) ?_
  refine And.intro (Nat.le_of_ble_eq_true rfl) (And.intro R.1 ?_)
  refine Cl.mono H (fun r M1 h => ?_)
  obtain ⟨rfl, H⟩ := h
  obtain ⟨R, H⟩ := H
  exact At.keep [0, 2] H

theorem r_makesOut_7 {G : GT} {d m : Nat} {M : Mem} (R : RefAt M m) {l2 : Int32} {Q : Mem → Prop} (H : ((64 : Int32) ≤ l2 → CV G d 237 [.ref m] M (fun M2 => RefAt M2 m ∧ (((vi M2 m 44) ≤ (400 : Int32) → ∀ M3, M3 = seti M2 m 44 (vi M2 m 44) → Q M3) ∧ (¬ (vi M2 m 44) ≤ (400 : Int32) → ∀ M4, M4 = seti M2 m 44 (400 : Int32) → Q M4)))) ∧ (¬ (64 : Int32) ≤ l2 → CI G d 161 [.ref m, .int l2] M (fun v6 M5 => RefAt M5 m ∧ ((v6 = 0 → vp_in l2 64 ∧ (∀ M7, M7 = seti M5 (m + 31) (l2).toNatClampNeg (vp_nar .boolean (0 : Int32)) → At G (d + 1) 238 7 [(0, .ref m), (2, .int (l2 + (1 : Int32)))] [] M7 (qV Q))) ∧ (¬ v6 = 0 → vp_in l2 64 ∧ ((¬ (vi M5 (m + 24) (l2).toNatClampNeg) = (1 : Int32) → vp_in l2 64 ∧ (∀ M8, M8 = seti M5 (m + 31) (l2).toNatClampNeg (vp_nar .boolean (0 : Int32)) → At G (d + 1) 238 7 [(0, .ref m), (2, .int (l2 + (1 : Int32)))] [] M8 (qV Q))) ∧ ((vi M5 (m + 24) (l2).toNatClampNeg) = (1 : Int32) → vp_in l2 64 ∧ (∀ M9, M9 = seti M5 (m + 31) (l2).toNatClampNeg (vp_nar .boolean (1 : Int32)) → At G (d + 1) 238 7 [(0, .ref m), (2, .int (l2 + (1 : Int32)))] [] M9 (qV Q))))))))) : At G (d + 1) 238 7 [(0, .ref m), (2, .int l2)] [] M (qV Q) := by
  refine vcc ok238 5 [] ?_
  refine And.intro (fun c => ?_) (fun c => ?_)
  · replace H := H.1 c
    refine And.intro (Nat.le_of_ble_eq_true rfl) ?_
    refine And.intro (Nat.le_of_ble_eq_true rfl) (And.intro R.1 ?_)
    refine Cl.mono H (fun r M2 h => ?_)
    obtain ⟨rfl, H⟩ := h
    obtain ⟨R, H⟩ := H
    refine And.intro R.1 ?_
    refine And.intro (fun c => ?_) (fun c => ?_)
    · replace H := H.1 c
      refine And.intro R.1 ?_
      refine And.intro R.1 ?_
      refine And.intro (Or.inl rfl) (And.intro (fun h => absurd h (by decide)) ?_)
      replace H := H _ rfl
      exact ⟨rfl, H⟩
    · replace H := H.2 c
      refine And.intro R.1 ?_
      refine And.intro (Or.inl rfl) (And.intro (fun h => absurd h (by decide)) ?_)
      replace H := H _ rfl
      exact ⟨rfl, H⟩
  · replace H := H.2 c
    refine And.intro R.1 ?_
    refine Or.inl ⟨_, (ra_r41 R), ?_⟩
    refine And.intro (Nat.le_of_ble_eq_true rfl) ?_
    refine And.intro (Nat.le_of_ble_eq_true rfl) (And.intro R.1 ?_)
    refine Cl.mono H (fun r M5 h => ?_)
    obtain ⟨v6, rfl, H⟩ := h
    obtain ⟨R, H⟩ := H
    refine And.intro (fun c => ?_) (fun c => ?_)
    · replace H := H.1 c
      refine Or.inr ⟨(ra_k41 R), vp_cst (ra_l41 R) H.1, ?_⟩
      replace H := H.2
      replace H := H _ rfl
      exact H
    · replace H := H.2 c
      refine And.intro R.1 ?_
      refine Or.inl ⟨_, (ra_r34 R), ?_⟩
      refine Or.inl ⟨(ra_k34 R), vp_cst (ra_l34 R) H.1, ?_⟩
      replace H := H.2
      refine And.intro (fun c => ?_) (fun c => ?_)
      · replace H := H.1 c
        refine Or.inr ⟨(ra_k41 R), vp_cst (ra_l41 R) H.1, ?_⟩
        replace H := H.2
        replace H := H _ rfl
        exact H
      · replace H := H.2 c
        refine Or.inr ⟨(ra_k41 R), vp_cst (ra_l41 R) H.1, ?_⟩
        replace H := H.2
        replace H := H _ rfl
        exact H

theorem r_out {G : GT} {d m : Nat} {M : Mem} (R : RefAt M m) {a1 : Int32} {Q : Int32 → Mem → Prop} (H : CI G d 199 [.ref m, .int a1] M (fun v2 M1 => RefAt M1 m ∧ ((¬ v2 = 0 → CV G d 238 [.ref m, .int a1] M1 (fun M3 => RefAt M3 m ∧ (Q (vi M3 m 44) M3))) ∧ (v2 = 0 → Q (-1 : Int32) M1)))) : CI G (d + 1) 239 [.ref m, .int a1] M Q := by
  refine Cl.ofM (Nat.le_of_ble_eq_true rfl) rfl ?_
  refine vcc ok239 0 [] ?_
  refine And.intro (Nat.le_of_ble_eq_true rfl) ?_
  refine And.intro (Nat.le_of_ble_eq_true rfl) (And.intro R.1 ?_)
  refine Cl.mono H (fun r M1 h => ?_)
  obtain ⟨v2, rfl, H⟩ := h
  obtain ⟨R, H⟩ := H
  refine And.intro (fun c => ?_) (fun c => ?_)
  · replace H := H.1 c
    refine And.intro (Nat.le_of_ble_eq_true rfl) ?_
    refine And.intro (Nat.le_of_ble_eq_true rfl) (And.intro R.1 ?_)
    refine Cl.mono H (fun r M3 h => ?_)
    obtain ⟨rfl, H⟩ := h
    obtain ⟨R, H⟩ := H
    refine And.intro R.1 ?_
    exact ⟨fun h => absurd h (by decide), _, rfl, H⟩
  · replace H := H.2 c
    exact ⟨fun h => absurd h (by decide), _, rfl, H⟩

theorem r_reads {G : GT} {d m : Nat} {M : Mem} (R : RefAt M m) {a1 : Int32} {a2 : Int32} {Q : Int32 → Mem → Prop} (H : CI G d 199 [.ref m, .int a1] M (fun v2 M1 => RefAt M1 m ∧ ((¬ v2 = 0 → CV G d 238 [.ref m, .int a1] M1 (fun M3 => RefAt M3 m ∧ (CI G d 155 [.long ((a2).toInt64), .long (0 : Int64), .long ((((vi M3 m 44) - (1 : Int32))).toInt64)] M3 (fun v5 M4 => RefAt M4 m ∧ ((v5 = 0 → Q (-1 : Int32) M4) ∧ (¬ v5 = 0 → vp_in a2 2000 ∧ (Q (vi M4 (m + 30) (a2).toNatClampNeg) M4))))))) ∧ (v2 = 0 → Q (-1 : Int32) M1)))) : CI G (d + 1) 240 [.ref m, .int a1, .int a2] M Q := by
  refine Cl.ofM (Nat.le_of_ble_eq_true rfl) rfl ?_
  refine vcc ok240 0 [] ?_
  refine And.intro (Nat.le_of_ble_eq_true rfl) ?_
  refine And.intro (Nat.le_of_ble_eq_true rfl) (And.intro R.1 ?_)
  refine Cl.mono H (fun r M1 h => ?_)
  obtain ⟨v2, rfl, H⟩ := h
  obtain ⟨R, H⟩ := H
  refine And.intro (fun c => ?_) (fun c => ?_)
  · replace H := H.1 c
    refine And.intro (Nat.le_of_ble_eq_true rfl) ?_
    refine And.intro (Nat.le_of_ble_eq_true rfl) (And.intro R.1 ?_)
    refine Cl.mono H (fun r M3 h => ?_)
    obtain ⟨rfl, H⟩ := h
    obtain ⟨R, H⟩ := H
    refine And.intro R.1 ?_
    refine And.intro (Nat.le_of_ble_eq_true rfl) ?_
    refine And.intro (Nat.le_of_ble_eq_true rfl) ?_
    refine Cl.mono H (fun r M4 h => ?_)
    obtain ⟨v5, rfl, H⟩ := h
    obtain ⟨R, H⟩ := H
    refine And.intro (fun c => ?_) (fun c => ?_)
    · replace H := H.1 c
      exact ⟨fun h => absurd h (by decide), _, rfl, H⟩
    · replace H := H.2 c
      refine And.intro R.1 ?_
      refine Or.inl ⟨_, (ra_r40 R), ?_⟩
      refine Or.inl ⟨(ra_k40 R), vp_cst (ra_l40 R) H.1, ?_⟩
      replace H := H.2
      exact ⟨fun h => absurd h (by decide), _, rfl, H⟩
  · replace H := H.2 c
    exact ⟨fun h => absurd h (by decide), _, rfl, H⟩

theorem r_isSet {G : GT} {d m : Nat} {M : Mem} (R : RefAt M m) {a1 : Int32} {Q : Int32 → Mem → Prop} (H : CI G d 155 [.long ((a1).toInt64), .long (0 : Int64), .long ((((1 : Int32) + (vi M m 17))).toInt64)] M (fun v2 M1 => RefAt M1 m ∧ ((¬ v2 = 0 → (a1 ≤ (1 : Int32) → (¬ a1 = 0 → (¬ a1 = (1 : Int32) → ∀ M3, M3 = seti M1 m 51 (vi M1 m 44) → At G (d + 1) 241 67 [(0, .ref m), (1, .int a1), (2, .int (0 : Int32))] [] M3 (qI Q)) ∧ (a1 = (1 : Int32) → vp_in (1 : Int32) 3 ∧ (∀ M4, M4 = seti M1 m 51 (vi M1 (m + 1) ((1 : Int32)).toNatClampNeg) → At G (d + 1) 241 67 [(0, .ref m), (1, .int a1), (2, .int (0 : Int32))] [] M4 (qI Q)))) ∧ (a1 = 0 → vp_in (0 : Int32) 3 ∧ (∀ M5, M5 = seti M1 m 51 (vi M1 (m + 1) ((0 : Int32)).toNatClampNeg) → At G (d + 1) 241 67 [(0, .ref m), (1, .int a1), (2, .int (0 : Int32))] [] M5 (qI Q)))) ∧ (¬ a1 ≤ (1 : Int32) → CV G d 238 [.ref m, .int (a1 - (2 : Int32))] M1 (fun M6 => RefAt M6 m ∧ ((¬ a1 = 0 → (¬ a1 = (1 : Int32) → ∀ M7, M7 = seti M6 m 51 (vi M6 m 44) → At G (d + 1) 241 67 [(0, .ref m), (1, .int a1), (2, .int (0 : Int32))] [] M7 (qI Q)) ∧ (a1 = (1 : Int32) → vp_in (1 : Int32) 3 ∧ (∀ M8, M8 = seti M6 m 51 (vi M6 (m + 1) ((1 : Int32)).toNatClampNeg) → At G (d + 1) 241 67 [(0, .ref m), (1, .int a1), (2, .int (0 : Int32))] [] M8 (qI Q)))) ∧ (a1 = 0 → vp_in (0 : Int32) 3 ∧ (∀ M9, M9 = seti M6 m 51 (vi M6 (m + 1) ((0 : Int32)).toNatClampNeg) → At G (d + 1) 241 67 [(0, .ref m), (1, .int a1), (2, .int (0 : Int32))] [] M9 (qI Q))))))) ∧ (v2 = 0 → ((0 : Int32) = 0 ∨ (0 : Int32) = 1) ∧ Q (0 : Int32) M1)))) : CI G (d + 1) 241 [.ref m, .int a1] M Q := by
  refine Cl.ofM (Nat.le_of_ble_eq_true rfl) rfl ?_
  refine vcc ok241 0 [67] ?_
  refine And.intro R.1 ?_
  refine And.intro (Nat.le_of_ble_eq_true rfl) ?_
  refine And.intro (Nat.le_of_ble_eq_true rfl) ?_
  refine Cl.mono H (fun r M1 h => ?_)
  obtain ⟨v2, rfl, H⟩ := h
  obtain ⟨R, H⟩ := H
  refine And.intro (fun c => ?_) (fun c => ?_)
  · replace H := H.1 c
    refine And.intro (fun c => ?_) (fun c => ?_)
    · replace H := H.1 c
      refine And.intro (fun c => ?_) (fun c => ?_)
      · replace H := H.1 c
        refine And.intro (fun c => ?_) (fun c => ?_)
        · replace H := H.1 c
          refine And.intro R.1 ?_
          refine And.intro R.1 ?_
          refine And.intro (Or.inl rfl) (And.intro (fun h => absurd h (by decide)) ?_)
          replace H := H _ rfl
          exact H
        · replace H := H.2 c
          refine And.intro R.1 ?_
          refine Or.inl ⟨_, (ra_r1 R), ?_⟩
          refine Or.inl ⟨(ra_k1 R), vp_cst (ra_l1 R) H.1, ?_⟩
          replace H := H.2
          refine And.intro R.1 ?_
          refine And.intro (Or.inl rfl) (And.intro (fun h => absurd h (by decide)) ?_)
          replace H := H _ rfl
          exact H
      · replace H := H.2 c
        refine And.intro R.1 ?_
        refine Or.inl ⟨_, (ra_r1 R), ?_⟩
        refine Or.inl ⟨(ra_k1 R), vp_cst (ra_l1 R) H.1, ?_⟩
        replace H := H.2
        refine And.intro R.1 ?_
        refine And.intro (Or.inl rfl) (And.intro (fun h => absurd h (by decide)) ?_)
        replace H := H _ rfl
        exact H
    · replace H := H.2 c
      refine And.intro (Nat.le_of_ble_eq_true rfl) ?_
      refine And.intro (Nat.le_of_ble_eq_true rfl) (And.intro R.1 ?_)
      refine Cl.mono H (fun r M6 h => ?_)
      obtain ⟨rfl, H⟩ := h
      obtain ⟨R, H⟩ := H
      refine And.intro (fun c => ?_) (fun c => ?_)
      · replace H := H.1 c
        refine And.intro (fun c => ?_) (fun c => ?_)
        · replace H := H.1 c
          refine And.intro R.1 ?_
          refine And.intro R.1 ?_
          refine And.intro (Or.inl rfl) (And.intro (fun h => absurd h (by decide)) ?_)
          replace H := H _ rfl
          exact H
        · replace H := H.2 c
          refine And.intro R.1 ?_
          refine Or.inl ⟨_, (ra_r1 R), ?_⟩
          refine Or.inl ⟨(ra_k1 R), vp_cst (ra_l1 R) H.1, ?_⟩
          replace H := H.2
          refine And.intro R.1 ?_
          refine And.intro (Or.inl rfl) (And.intro (fun h => absurd h (by decide)) ?_)
          replace H := H _ rfl
          exact H
      · replace H := H.2 c
        refine And.intro R.1 ?_
        refine Or.inl ⟨_, (ra_r1 R), ?_⟩
        refine Or.inl ⟨(ra_k1 R), vp_cst (ra_l1 R) H.1, ?_⟩
        replace H := H.2
        refine And.intro R.1 ?_
        refine And.intro (Or.inl rfl) (And.intro (fun h => absurd h (by decide)) ?_)
        replace H := H _ rfl
        exact H
  · replace H := H.2 c
    exact ⟨fun _ => H.1, _, rfl, H.2⟩

theorem r_isSet_67 {G : GT} {d m : Nat} {M : Mem} (R : RefAt M m) {l1 : Int32} {l2 : Int32} {Q : Int32 → Mem → Prop} (H : ((vi M m 51) ≤ l2 → ((1 : Int32) = 0 ∨ (1 : Int32) = 1) ∧ Q (1 : Int32) M) ∧ (¬ (vi M m 51) ≤ l2 → (¬ l1 = 0 → (¬ l1 = (1 : Int32) → vp_in l2 2000 ∧ (vp_in l2 400 ∧ (∀ M10, M10 = seti M (m + 33) (l2).toNatClampNeg (vi M (m + 30) (l2).toNatClampNeg) → At G (d + 1) 241 67 [(0, .ref m), (1, .int l1), (2, .int (l2 + (1 : Int32)))] [] M10 (qI Q)))) ∧ (l1 = (1 : Int32) → vp_in l2 200 ∧ (vp_in l2 400 ∧ (∀ M11, M11 = seti M (m + 33) (l2).toNatClampNeg (vi M (m + 3) (l2).toNatClampNeg) → At G (d + 1) 241 67 [(0, .ref m), (1, .int l1), (2, .int (l2 + (1 : Int32)))] [] M11 (qI Q))))) ∧ (l1 = 0 → vp_in l2 200 ∧ (vp_in l2 400 ∧ (∀ M12, M12 = seti M (m + 33) (l2).toNatClampNeg (vi M (m + 2) (l2).toNatClampNeg) → At G (d + 1) 241 67 [(0, .ref m), (1, .int l1), (2, .int (l2 + (1 : Int32)))] [] M12 (qI Q)))))) : At G (d + 1) 241 67 [(0, .ref m), (1, .int l1), (2, .int l2)] [] M (qI Q) := by
  refine vcc ok241 41 [] ?_
  refine And.intro R.1 ?_
  refine And.intro (fun c => ?_) (fun c => ?_)
  · replace H := H.1 c
    exact ⟨fun _ => H.1, _, rfl, H.2⟩
  · replace H := H.2 c
    refine And.intro R.1 ?_
    refine Or.inl ⟨_, (ra_r45 R), ?_⟩
    refine And.intro (fun c => ?_) (fun c => ?_)
    · replace H := H.1 c
      refine And.intro (fun c => ?_) (fun c => ?_)
      · replace H := H.1 c
        refine And.intro R.1 ?_
        refine Or.inl ⟨_, (ra_r40 R), ?_⟩
        refine Or.inl ⟨(ra_k40 R), vp_cst (ra_l40 R) H.1, ?_⟩
        replace H := H.2
        refine ⟨(ra_k45 R), vp_cst (ra_l45 R) H.1, ?_⟩
        replace H := H.2
        replace H := H _ rfl
        exact H
      · replace H := H.2 c
        refine And.intro R.1 ?_
        refine Or.inl ⟨_, (ra_r3 R), ?_⟩
        refine Or.inl ⟨(ra_k3 R), vp_cst (ra_l3 R) H.1, ?_⟩
        replace H := H.2
        refine ⟨(ra_k45 R), vp_cst (ra_l45 R) H.1, ?_⟩
        replace H := H.2
        replace H := H _ rfl
        exact H
    · replace H := H.2 c
      refine And.intro R.1 ?_
      refine Or.inl ⟨_, (ra_r2 R), ?_⟩
      refine Or.inl ⟨(ra_k2 R), vp_cst (ra_l2 R) H.1, ?_⟩
      replace H := H.2
      refine ⟨(ra_k45 R), vp_cst (ra_l45 R) H.1, ?_⟩
      replace H := H.2
      replace H := H _ rfl
      exact H

theorem r_setsWord {G : GT} {d m : Nat} {M : Mem} (R : RefAt M m) {a1 : Int32} {a2 : Int32} {a3 : Int32} {a4 : Int32} {Q : Mem → Prop} (H : (¬ a4 = 0 → ((0 : Int32) = 0 → vp_in (vi M m 52) 401 ∧ (∀ M1, M1 = seti M (m + 34) ((vi M m 52)).toNatClampNeg a1 → vp_in (vi M1 m 52) 401 ∧ (∀ M2, M2 = seti M1 (m + 35) ((vi M1 m 52)).toNatClampNeg a2 → ∀ M3, M3 = seti M2 m 52 ((vi M2 m 52) + (1 : Int32)) → Q M3))) ∧ (¬ (0 : Int32) = 0 → vp_in ((vi M m 52) - (1 : Int32)) 401 ∧ (vp_in ((vi M m 52) - (1 : Int32)) 401 ∧ (∀ M4, M4 = seti M (m + 35) (((vi M m 52) - (1 : Int32))).toNatClampNeg ((vi M (m + 35) (((vi M m 52) - (1 : Int32))).toNatClampNeg) + ((1 : Int32) + a2)) → Q M4)))) ∧ (a4 = 0 → ((vi M m 52) ≤ 0 → ((0 : Int32) = 0 → vp_in (vi M m 52) 401 ∧ (∀ M5, M5 = seti M (m + 34) ((vi M m 52)).toNatClampNeg a1 → vp_in (vi M5 m 52) 401 ∧ (∀ M6, M6 = seti M5 (m + 35) ((vi M5 m 52)).toNatClampNeg a2 → ∀ M7, M7 = seti M6 m 52 ((vi M6 m 52) + (1 : Int32)) → Q M7))) ∧ (¬ (0 : Int32) = 0 → vp_in ((vi M m 52) - (1 : Int32)) 401 ∧ (vp_in ((vi M m 52) - (1 : Int32)) 401 ∧ (∀ M8, M8 = seti M (m + 35) (((vi M m 52) - (1 : Int32))).toNatClampNeg ((vi M (m + 35) (((vi M m 52) - (1 : Int32))).toNatClampNeg) + ((1 : Int32) + a2)) → Q M8)))) ∧ (¬ (vi M m 52) ≤ 0 → vp_in ((vi M m 52) - (1 : Int32)) 401 ∧ ((a3 < (((vi M (m + 35) (((vi M m 52) - (1 : Int32))).toNatClampNeg) + (1 : Int32)) + a2) → ((0 : Int32) = 0 → vp_in (vi M m 52) 401 ∧ (∀ M9, M9 = seti M (m + 34) ((vi M m 52)).toNatClampNeg a1 → vp_in (vi M9 m 52) 401 ∧ (∀ M10, M10 = seti M9 (m + 35) ((vi M9 m 52)).toNatClampNeg a2 → ∀ M11, M11 = seti M10 m 52 ((vi M10 m 52) + (1 : Int32)) → Q M11))) ∧ (¬ (0 : Int32) = 0 → vp_in ((vi M m 52) - (1 : Int32)) 401 ∧ (vp_in ((vi M m 52) - (1 : Int32)) 401 ∧ (∀ M12, M12 = seti M (m + 35) (((vi M m 52) - (1 : Int32))).toNatClampNeg ((vi M (m + 35) (((vi M m 52) - (1 : Int32))).toNatClampNeg) + ((1 : Int32) + a2)) → Q M12)))) ∧ (¬ a3 < (((vi M (m + 35) (((vi M m 52) - (1 : Int32))).toNatClampNeg) + (1 : Int32)) + a2) → ((1 : Int32) = 0 → vp_in (vi M m 52) 401 ∧ (∀ M13, M13 = seti M (m + 34) ((vi M m 52)).toNatClampNeg a1 → vp_in (vi M13 m 52) 401 ∧ (∀ M14, M14 = seti M13 (m + 35) ((vi M13 m 52)).toNatClampNeg a2 → ∀ M15, M15 = seti M14 m 52 ((vi M14 m 52) + (1 : Int32)) → Q M15))) ∧ (¬ (1 : Int32) = 0 → vp_in ((vi M m 52) - (1 : Int32)) 401 ∧ (vp_in ((vi M m 52) - (1 : Int32)) 401 ∧ (∀ M16, M16 = seti M (m + 35) (((vi M m 52) - (1 : Int32))).toNatClampNeg ((vi M (m + 35) (((vi M m 52) - (1 : Int32))).toNatClampNeg) + ((1 : Int32) + a2)) → Q M16)))))))) : CV G (d + 1) 242 [.ref m, .int a1, .int a2, .int a3, .int a4] M Q := by
  refine Cl.ofM (Nat.le_of_ble_eq_true rfl) rfl ?_
  refine vcc ok242 0 [] ?_
  refine And.intro (fun c => ?_) (fun c => ?_)
  · replace H := H.1 c
    refine And.intro (fun c => ?_) (fun c => ?_)
    · replace H := H.1 c
      refine And.intro R.1 ?_
      refine Or.inl ⟨_, (ra_r46 R), ?_⟩
      refine And.intro R.1 ?_
      refine ⟨(ra_k46 R), vp_cst (ra_l46 R) H.1, ?_⟩
      replace H := H.2
      replace H := H _ rfl
      refine And.intro R.1 ?_
      refine Or.inl ⟨_, (ra_r47 R), ?_⟩
      refine And.intro R.1 ?_
      refine ⟨(ra_k47 R), vp_cst (ra_l47 R) H.1, ?_⟩
      replace H := H.2
      replace H := H _ rfl
      refine And.intro R.1 ?_
      refine And.intro R.1 ?_
      refine And.intro (Or.inl rfl) (And.intro (fun h => absurd h (by decide)) ?_)
      replace H := H _ rfl
      exact ⟨rfl, H⟩
    · replace H := H.2 c
      refine And.intro R.1 ?_
      refine Or.inl ⟨_, (ra_r47 R), ?_⟩
      refine And.intro R.1 ?_
      refine Or.inl ⟨(ra_k47 R), vp_cst (ra_l47 R) H.1, ?_⟩
      replace H := H.2
      refine ⟨(ra_k47 R), vp_cst (ra_l47 R) H.1, ?_⟩
      replace H := H.2
      replace H := H _ rfl
      exact ⟨rfl, H⟩
  · replace H := H.2 c
    refine And.intro R.1 ?_
    refine And.intro (fun c => ?_) (fun c => ?_)
    · replace H := H.1 c
      refine And.intro (fun c => ?_) (fun c => ?_)
      · replace H := H.1 c
        refine And.intro R.1 ?_
        refine Or.inl ⟨_, (ra_r46 R), ?_⟩
        refine And.intro R.1 ?_
        refine ⟨(ra_k46 R), vp_cst (ra_l46 R) H.1, ?_⟩
        replace H := H.2
        replace H := H _ rfl
        refine And.intro R.1 ?_
        refine Or.inl ⟨_, (ra_r47 R), ?_⟩
        refine And.intro R.1 ?_
        refine ⟨(ra_k47 R), vp_cst (ra_l47 R) H.1, ?_⟩
        replace H := H.2
        replace H := H _ rfl
        refine And.intro R.1 ?_
        refine And.intro R.1 ?_
        refine And.intro (Or.inl rfl) (And.intro (fun h => absurd h (by decide)) ?_)
        replace H := H _ rfl
        exact ⟨rfl, H⟩
      · replace H := H.2 c
        refine And.intro R.1 ?_
        refine Or.inl ⟨_, (ra_r47 R), ?_⟩
        refine And.intro R.1 ?_
        refine Or.inl ⟨(ra_k47 R), vp_cst (ra_l47 R) H.1, ?_⟩
        replace H := H.2
        refine ⟨(ra_k47 R), vp_cst (ra_l47 R) H.1, ?_⟩
        replace H := H.2
        replace H := H _ rfl
        exact ⟨rfl, H⟩
    · replace H := H.2 c
      refine And.intro R.1 ?_
      refine Or.inl ⟨_, (ra_r47 R), ?_⟩
      refine And.intro R.1 ?_
      refine Or.inl ⟨(ra_k47 R), vp_cst (ra_l47 R) H.1, ?_⟩
      replace H := H.2
      refine And.intro (fun c => ?_) (fun c => ?_)
      · replace H := H.1 c
        refine And.intro (fun c => ?_) (fun c => ?_)
        · replace H := H.1 c
          refine And.intro R.1 ?_
          refine Or.inl ⟨_, (ra_r46 R), ?_⟩
          refine And.intro R.1 ?_
          refine ⟨(ra_k46 R), vp_cst (ra_l46 R) H.1, ?_⟩
          replace H := H.2
          replace H := H _ rfl
          refine And.intro R.1 ?_
          refine Or.inl ⟨_, (ra_r47 R), ?_⟩
          refine And.intro R.1 ?_
          refine ⟨(ra_k47 R), vp_cst (ra_l47 R) H.1, ?_⟩
          replace H := H.2
          replace H := H _ rfl
          refine And.intro R.1 ?_
          refine And.intro R.1 ?_
          refine And.intro (Or.inl rfl) (And.intro (fun h => absurd h (by decide)) ?_)
          replace H := H _ rfl
          exact ⟨rfl, H⟩
        · replace H := H.2 c
          refine And.intro R.1 ?_
          refine Or.inl ⟨_, (ra_r47 R), ?_⟩
          refine And.intro R.1 ?_
          refine Or.inl ⟨(ra_k47 R), vp_cst (ra_l47 R) H.1, ?_⟩
          replace H := H.2
          refine ⟨(ra_k47 R), vp_cst (ra_l47 R) H.1, ?_⟩
          replace H := H.2
          replace H := H _ rfl
          exact ⟨rfl, H⟩
      · replace H := H.2 c
        refine And.intro (fun c => ?_) (fun c => ?_)
        · replace H := H.1 c
          refine And.intro R.1 ?_
          refine Or.inl ⟨_, (ra_r46 R), ?_⟩
          refine And.intro R.1 ?_
          refine ⟨(ra_k46 R), vp_cst (ra_l46 R) H.1, ?_⟩
          replace H := H.2
          replace H := H _ rfl
          refine And.intro R.1 ?_
          refine Or.inl ⟨_, (ra_r47 R), ?_⟩
          refine And.intro R.1 ?_
          refine ⟨(ra_k47 R), vp_cst (ra_l47 R) H.1, ?_⟩
          replace H := H.2
          replace H := H _ rfl
          refine And.intro R.1 ?_
          refine And.intro R.1 ?_
          refine And.intro (Or.inl rfl) (And.intro (fun h => absurd h (by decide)) ?_)
          replace H := H _ rfl
          exact ⟨rfl, H⟩
        · replace H := H.2 c
          refine And.intro R.1 ?_
          refine Or.inl ⟨_, (ra_r47 R), ?_⟩
          refine And.intro R.1 ?_
          refine Or.inl ⟨(ra_k47 R), vp_cst (ra_l47 R) H.1, ?_⟩
          replace H := H.2
          refine ⟨(ra_k47 R), vp_cst (ra_l47 R) H.1, ?_⟩
          replace H := H.2
          replace H := H _ rfl
          exact ⟨rfl, H⟩

theorem r_setsLines {G : GT} {d m : Nat} {M : Mem} (R : RefAt M m) {a1 : Int32} {Q : Mem → Prop} (H : ∀ M1, M1 = seti M m 52 (0 : Int32) → At G (d + 1) 243 7 [(0, .ref m), (1, .int a1), (2, .int (0 : Int32))] [] M1 (qV Q)) : CV G (d + 1) 243 [.ref m, .int a1] M Q := by
  refine Cl.ofM (Nat.le_of_ble_eq_true rfl) rfl ?_
  refine vcc ok243 0 [7, 17, 64] ?_
  refine And.intro R.1 ?_
  refine And.intro (Or.inl rfl) (And.intro (fun h => absurd h (by decide)) ?_)
  replace H := H _ rfl
  exact H

theorem r_setsLines_7 {G : GT} {d m : Nat} {M : Mem} (R : RefAt M m) {l1 : Int32} {l2 : Int32} {Q : Mem → Prop} (H : ((vi M m 51) ≤ l2 → Q M) ∧ (¬ (vi M m 51) ≤ l2 → At G (d + 1) 243 17 [(0, .ref m), (1, .int l1), (2, .int l2), (3, .int (0 : Int32))] [] M (qV Q))) : At G (d + 1) 243 7 [(0, .ref m), (1, .int l1), (2, .int l2)] [] M (qV Q) := by
  refine vcc ok243 5 [17, 64] ?_
  refine And.intro R.1 ?_
  refine And.intro (fun c => ?_) (fun c => ?_)
  · replace H := H.1 c
    exact ⟨rfl, H⟩
  · replace H := H.2 c
    exact H

theorem r_setsLines_17 {G : GT} {d m : Nat} {M : Mem} (R : RefAt M m) {l1 : Int32} {l2 : Int32} {l3 : Int32} {Q : Mem → Prop} (H : ((vi M m 51) ≤ (l2 + l3) → (l3 ≤ l1 → At G (d + 1) 243 64 [(0, .ref m), (1, .int l1), (2, .int l2), (3, .int l3), (4, .int l2), (5, .int (0 : Int32)), (6, .int l3)] [] M (qV Q)) ∧ (¬ l3 ≤ l1 → At G (d + 1) 243 64 [(0, .ref m), (1, .int l1), (2, .int l2), (3, .int l3), (4, .int l2), (5, .int (1 : Int32)), (6, .int l3)] [] M (qV Q))) ∧ (¬ (vi M m 51) ≤ (l2 + l3) → vp_in (l2 + l3) 400 ∧ (((vi M (m + 33) ((l2 + l3)).toNatClampNeg) = (32 : Int32) → (l3 ≤ l1 → At G (d + 1) 243 64 [(0, .ref m), (1, .int l1), (2, .int l2), (3, .int l3), (4, .int l2), (5, .int (0 : Int32)), (6, .int l3)] [] M (qV Q)) ∧ (¬ l3 ≤ l1 → At G (d + 1) 243 64 [(0, .ref m), (1, .int l1), (2, .int l2), (3, .int l3), (4, .int l2), (5, .int (1 : Int32)), (6, .int l3)] [] M (qV Q))) ∧ (¬ (vi M (m + 33) ((l2 + l3)).toNatClampNeg) = (32 : Int32) → At G (d + 1) 243 17 [(0, .ref m), (1, .int l1), (2, .int l2), (3, .int (l3 + (1 : Int32)))] [] M (qV Q))))) : At G (d + 1) 243 17 [(0, .ref m), (1, .int l1), (2, .int l2), (3, .int l3)] [] M (qV Q) := by
  refine vcc ok243 11 [7, 64] ?_
  refine And.intro R.1 ?_
  refine And.intro (fun c => ?_) (fun c => ?_)
  · replace H := H.1 c
    refine And.intro (fun c => ?_) (fun c => ?_)
    · replace H := H.1 c
      exact H
    · replace H := H.2 c
      exact H
  · replace H := H.2 c
    refine And.intro R.1 ?_
    refine Or.inl ⟨_, (ra_r45 R), ?_⟩
    refine Or.inl ⟨(ra_k45 R), vp_cst (ra_l45 R) H.1, ?_⟩
    replace H := H.2
    refine And.intro (fun c => ?_) (fun c => ?_)
    · replace H := H.1 c
      refine And.intro (fun c => ?_) (fun c => ?_)
      · replace H := H.1 c
        exact H
      · replace H := H.2 c
        exact H
    · replace H := H.2 c
      exact H

theorem r_setsLines_64 {G : GT} {d m : Nat} {M : Mem} (R : RefAt M m) {l1 : Int32} {l2 : Int32} {l3 : Int32} {l4 : Int32} {l5 : Int32} {l6 : Int32} {Q : Mem → Prop} (H : (l6 ≤ l1 → (l6 ≤ 0 → At G (d + 1) 243 7 [(0, .ref m), (1, .int l1), (2, .int (l2 + (l3 + (1 : Int32))))] [] M (qV Q)) ∧ (¬ l6 ≤ 0 → CV G d 242 [.ref m, .int l4, .int l6, .int l1, .int l5] M (fun M2 => RefAt M2 m ∧ (At G (d + 1) 243 7 [(0, .ref m), (1, .int l1), (2, .int (l2 + (l3 + (1 : Int32))))] [] M2 (qV Q))))) ∧ (¬ l6 ≤ l1 → CV G d 242 [.ref m, .int l4, .int l1, .int l1, .int (1 : Int32)] M (fun M3 => RefAt M3 m ∧ (At G (d + 1) 243 64 [(0, .ref m), (1, .int l1), (2, .int l2), (3, .int l3), (4, .int (l4 + l1)), (5, .int l5), (6, .int (l6 - l1))] [] M3 (qV Q))))) : At G (d + 1) 243 64 [(0, .ref m), (1, .int l1), (2, .int l2), (3, .int l3), (4, .int l4), (5, .int l5), (6, .int l6)] [] M (qV Q) := by
  refine vcc ok243 38 [7, 17] ?_
  refine And.intro (fun c => ?_) (fun c => ?_)
  · replace H := H.1 c
    refine And.intro (fun c => ?_) (fun c => ?_)
    · replace H := H.1 c
      exact At.keep [0, 1, 2] H
    · replace H := H.2 c
      refine And.intro (Nat.le_of_ble_eq_true rfl) ?_
      refine And.intro (Nat.le_of_ble_eq_true rfl) (And.intro R.1 ?_)
      refine Cl.mono H (fun r M2 h => ?_)
      obtain ⟨rfl, H⟩ := h
      obtain ⟨R, H⟩ := H
      exact At.keep [0, 1, 2] H
  · replace H := H.2 c
    refine And.intro (Nat.le_of_ble_eq_true rfl) ?_
    refine And.intro (Nat.le_of_ble_eq_true rfl) (And.intro R.1 ?_)
    refine Cl.mono H (fun r M3 h => ?_)
    obtain ⟨rfl, H⟩ := h
    obtain ⟨R, H⟩ := H
    exact H

theorem r_lines {G : GT} {d m : Nat} {M : Mem} (R : RefAt M m) {a1 : Int32} {a2 : Int32} {Q : Int32 → Mem → Prop} (H : CI G d 155 [.long ((a2).toInt64), .long (5 : Int64), .long (60 : Int64)] M (fun v2 M1 => RefAt M1 m ∧ ((v2 = 0 → Q (-1 : Int32) M1) ∧ (¬ v2 = 0 → CI G d 241 [.ref m, .int a1] M1 (fun v4 M3 => RefAt M3 m ∧ ((¬ v4 = 0 → CV G d 243 [.ref m, .int a2] M3 (fun M5 => RefAt M5 m ∧ (Q (vi M5 m 52) M5))) ∧ (v4 = 0 → Q (-1 : Int32) M3))))))) : CI G (d + 1) 244 [.ref m, .int a1, .int a2] M Q := by
  refine Cl.ofM (Nat.le_of_ble_eq_true rfl) rfl ?_
  refine vcc ok244 0 [] ?_
  refine And.intro (Nat.le_of_ble_eq_true rfl) ?_
  refine And.intro (Nat.le_of_ble_eq_true rfl) ?_
  refine Cl.mono H (fun r M1 h => ?_)
  obtain ⟨v2, rfl, H⟩ := h
  obtain ⟨R, H⟩ := H
  refine And.intro (fun c => ?_) (fun c => ?_)
  · replace H := H.1 c
    exact ⟨fun h => absurd h (by decide), _, rfl, H⟩
  · replace H := H.2 c
    refine And.intro (Nat.le_of_ble_eq_true rfl) ?_
    refine And.intro (Nat.le_of_ble_eq_true rfl) (And.intro R.1 ?_)
    refine Cl.mono H (fun r M3 h => ?_)
    obtain ⟨v4, rfl, H⟩ := h
    obtain ⟨R, H⟩ := H
    refine And.intro (fun c => ?_) (fun c => ?_)
    · replace H := H.1 c
      refine And.intro (Nat.le_of_ble_eq_true rfl) ?_
      refine And.intro (Nat.le_of_ble_eq_true rfl) (And.intro R.1 ?_)
      refine Cl.mono H (fun r M5 h => ?_)
      obtain ⟨rfl, H⟩ := h
      obtain ⟨R, H⟩ := H
      refine And.intro R.1 ?_
      exact ⟨fun h => absurd h (by decide), _, rfl, H⟩
    · replace H := H.2 c
      exact ⟨fun h => absurd h (by decide), _, rfl, H⟩

theorem r_line {G : GT} {d m : Nat} {M : Mem} (R : RefAt M m) {a1 : Int32} {a2 : Int32} {a3 : Int32} {a4 : Int32} {Q : Int32 → Mem → Prop} (H : CI G d 155 [.long ((a2).toInt64), .long (5 : Int64), .long (60 : Int64)] M (fun v2 M1 => RefAt M1 m ∧ ((v2 = 0 → Q (-1 : Int32) M1) ∧ (¬ v2 = 0 → CI G d 155 [.long ((a4).toInt64), .long (0 : Int64), .long (1 : Int64)] M1 (fun v4 M3 => RefAt M3 m ∧ ((v4 = 0 → Q (-1 : Int32) M3) ∧ (¬ v4 = 0 → CI G d 241 [.ref m, .int a1] M3 (fun v6 M5 => RefAt M5 m ∧ ((¬ v6 = 0 → CV G d 243 [.ref m, .int a2] M5 (fun M7 => RefAt M7 m ∧ (CI G d 155 [.long ((a3).toInt64), .long (0 : Int64), .long ((((vi M7 m 52) - (1 : Int32))).toInt64)] M7 (fun v9 M8 => RefAt M8 m ∧ ((¬ v9 = 0 → (¬ a4 = 0 → vp_in a3 401 ∧ (Q (vi M8 (m + 35) (a3).toNatClampNeg) M8)) ∧ (a4 = 0 → vp_in a3 401 ∧ (Q (vi M8 (m + 34) (a3).toNatClampNeg) M8))) ∧ (v9 = 0 → Q (-1 : Int32) M8)))))) ∧ (v6 = 0 → Q (-1 : Int32) M5)))))))))) : CI G (d + 1) 245 [.ref m, .int a1, .int a2, .int a3, .int a4] M Q := by
  refine Cl.ofM (Nat.le_of_ble_eq_true rfl) rfl ?_
  refine vcc ok245 0 [] ?_
  refine And.intro (Nat.le_of_ble_eq_true rfl) ?_
  refine And.intro (Nat.le_of_ble_eq_true rfl) ?_
  refine Cl.mono H (fun r M1 h => ?_)
  obtain ⟨v2, rfl, H⟩ := h
  obtain ⟨R, H⟩ := H
  refine And.intro (fun c => ?_) (fun c => ?_)
  · replace H := H.1 c
    exact ⟨fun h => absurd h (by decide), _, rfl, H⟩
  · replace H := H.2 c
    refine And.intro (Nat.le_of_ble_eq_true rfl) ?_
    refine And.intro (Nat.le_of_ble_eq_true rfl) ?_
    refine Cl.mono H (fun r M3 h => ?_)
    obtain ⟨v4, rfl, H⟩ := h
    obtain ⟨R, H⟩ := H
    refine And.intro (fun c => ?_) (fun c => ?_)
    · replace H := H.1 c
      exact ⟨fun h => absurd h (by decide), _, rfl, H⟩
    · replace H := H.2 c
      refine And.intro (Nat.le_of_ble_eq_true rfl) ?_
      refine And.intro (Nat.le_of_ble_eq_true rfl) (And.intro R.1 ?_)
      refine Cl.mono H (fun r M5 h => ?_)
      obtain ⟨v6, rfl, H⟩ := h
      obtain ⟨R, H⟩ := H
      refine And.intro (fun c => ?_) (fun c => ?_)
      · replace H := H.1 c
        refine And.intro (Nat.le_of_ble_eq_true rfl) ?_
        refine And.intro (Nat.le_of_ble_eq_true rfl) (And.intro R.1 ?_)
        refine Cl.mono H (fun r M7 h => ?_)
        obtain ⟨rfl, H⟩ := h
        obtain ⟨R, H⟩ := H
        refine And.intro R.1 ?_
        refine And.intro (Nat.le_of_ble_eq_true rfl) ?_
        refine And.intro (Nat.le_of_ble_eq_true rfl) ?_
        refine Cl.mono H (fun r M8 h => ?_)
        obtain ⟨v9, rfl, H⟩ := h
        obtain ⟨R, H⟩ := H
        refine And.intro (fun c => ?_) (fun c => ?_)
        · replace H := H.1 c
          refine And.intro (fun c => ?_) (fun c => ?_)
          · replace H := H.1 c
            refine And.intro R.1 ?_
            refine Or.inl ⟨_, (ra_r47 R), ?_⟩
            refine Or.inl ⟨(ra_k47 R), vp_cst (ra_l47 R) H.1, ?_⟩
            replace H := H.2
            exact ⟨fun h => absurd h (by decide), _, rfl, H⟩
          · replace H := H.2 c
            refine And.intro R.1 ?_
            refine Or.inl ⟨_, (ra_r46 R), ?_⟩
            refine Or.inl ⟨(ra_k46 R), vp_cst (ra_l46 R) H.1, ?_⟩
            replace H := H.2
            exact ⟨fun h => absurd h (by decide), _, rfl, H⟩
        · replace H := H.2 c
          exact ⟨fun h => absurd h (by decide), _, rfl, H⟩
      · replace H := H.2 c
        exact ⟨fun h => absurd h (by decide), _, rfl, H⟩

theorem r_isSameLine {G : GT} {d m : Nat} {M : Mem} (R : RefAt M m) {a1 : Int32} {Q : Int32 → Mem → Prop} (H : vp_in a1 401 ∧ (vp_in a1 401 ∧ (((vi M (m + 37) (a1).toNatClampNeg) = (vi M (m + 35) (a1).toNatClampNeg) → vp_in a1 401 ∧ (vp_in a1 401 ∧ (At G (d + 1) 246 37 [(0, .ref m), (1, .int a1), (2, .int (vi M (m + 36) (a1).toNatClampNeg)), (3, .int (vi M (m + 34) (a1).toNatClampNeg)), (4, .int (1 : Int32)), (5, .int (0 : Int32))] [] M (qI Q)))) ∧ (¬ (vi M (m + 37) (a1).toNatClampNeg) = (vi M (m + 35) (a1).toNatClampNeg) → ((0 : Int32) = 0 ∨ (0 : Int32) = 1) ∧ Q (0 : Int32) M)))) : CI G (d + 1) 246 [.ref m, .int a1] M Q := by
  refine Cl.ofM (Nat.le_of_ble_eq_true rfl) rfl ?_
  refine vcc ok246 0 [37] ?_
  refine And.intro R.1 ?_
  refine Or.inl ⟨_, (ra_r49 R), ?_⟩
  refine Or.inl ⟨(ra_k49 R), vp_cst (ra_l49 R) H.1, ?_⟩
  replace H := H.2
  refine And.intro R.1 ?_
  refine Or.inl ⟨_, (ra_r47 R), ?_⟩
  refine Or.inl ⟨(ra_k47 R), vp_cst (ra_l47 R) H.1, ?_⟩
  replace H := H.2
  refine And.intro (fun c => ?_) (fun c => ?_)
  · replace H := H.1 c
    refine And.intro R.1 ?_
    refine Or.inl ⟨_, (ra_r48 R), ?_⟩
    refine Or.inl ⟨(ra_k48 R), vp_cst (ra_l48 R) H.1, ?_⟩
    replace H := H.2
    refine And.intro R.1 ?_
    refine Or.inl ⟨_, (ra_r46 R), ?_⟩
    refine Or.inl ⟨(ra_k46 R), vp_cst (ra_l46 R) H.1, ?_⟩
    replace H := H.2
    exact H
  · replace H := H.2 c
    exact ⟨fun _ => H.1, _, rfl, H.2⟩

theorem r_isSameLine_37 {G : GT} {d m : Nat} {M : Mem} (R : RefAt M m) {l1 : Int32} {l2 : Int32} {l3 : Int32} {l4 : Int32} {l5 : Int32} {Q : Int32 → Mem → Prop} (H : vp_in l1 401 ∧ (((vi M (m + 35) (l1).toNatClampNeg) ≤ l5 → (l4 = 0 ∨ l4 = 1) ∧ Q l4 M) ∧ (¬ (vi M (m + 35) (l1).toNatClampNeg) ≤ l5 → (l4 = 0 → (l4 = 0 ∨ l4 = 1) ∧ Q l4 M) ∧ (¬ l4 = 0 → vp_in l2 400 ∧ (vp_in l3 400 ∧ ((¬ (vi M (m + 38) (l2).toNatClampNeg) = (vi M (m + 33) (l3).toNatClampNeg) → vp_in l2 400 ∧ ((¬ (vi M (m + 38) (l2).toNatClampNeg) = (32 : Int32) → vp_in l3 400 ∧ ((¬ (vi M (m + 33) (l3).toNatClampNeg) = (32 : Int32) → At G (d + 1) 246 37 [(0, .ref m), (1, .int l1), (2, .int (l2 + (1 : Int32))), (3, .int (l3 + (1 : Int32))), (4, .int (0 : Int32)), (5, .int (l5 + (1 : Int32)))] [] M (qI Q)) ∧ ((vi M (m + 33) (l3).toNatClampNeg) = (32 : Int32) → CI G d 247 [.ref m, .ref (m + 33), .int l3] M (fun v2 M1 => RefAt M1 m ∧ (At G (d + 1) 246 37 [(0, .ref m), (1, .int l1), (2, .int (l2 + (1 : Int32))), (3, .int (l3 + v2)), (4, .int (0 : Int32)), (5, .int (l5 + (1 : Int32)))] [] M1 (qI Q)))))) ∧ ((vi M (m + 38) (l2).toNatClampNeg) = (32 : Int32) → CI G d 247 [.ref m, .ref (m + 38), .int l2] M (fun v4 M3 => RefAt M3 m ∧ (vp_in l3 400 ∧ ((¬ (vi M3 (m + 33) (l3).toNatClampNeg) = (32 : Int32) → At G (d + 1) 246 37 [(0, .ref m), (1, .int l1), (2, .int (l2 + v4)), (3, .int (l3 + (1 : Int32))), (4, .int (0 : Int32)), (5, .int (l5 + (1 : Int32)))] [] M3 (qI Q)) ∧ ((vi M3 (m + 33) (l3).toNatClampNeg) = (32 : Int32) → CI G d 247 [.ref m, .ref (m + 33), .int l3] M3 (fun v6 M5 => RefAt M5 m ∧ (At G (d + 1) 246 37 [(0, .ref m), (1, .int l1), (2, .int (l2 + v4)), (3, .int (l3 + v6)), (4, .int (0 : Int32)), (5, .int (l5 + (1 : Int32)))] [] M5 (qI Q)))))))))) ∧ ((vi M (m + 38) (l2).toNatClampNeg) = (vi M (m + 33) (l3).toNatClampNeg) → vp_in l2 400 ∧ ((¬ (vi M (m + 38) (l2).toNatClampNeg) = (32 : Int32) → vp_in l3 400 ∧ ((¬ (vi M (m + 33) (l3).toNatClampNeg) = (32 : Int32) → At G (d + 1) 246 37 [(0, .ref m), (1, .int l1), (2, .int (l2 + (1 : Int32))), (3, .int (l3 + (1 : Int32))), (4, .int (1 : Int32)), (5, .int (l5 + (1 : Int32)))] [] M (qI Q)) ∧ ((vi M (m + 33) (l3).toNatClampNeg) = (32 : Int32) → CI G d 247 [.ref m, .ref (m + 33), .int l3] M (fun v8 M7 => RefAt M7 m ∧ (At G (d + 1) 246 37 [(0, .ref m), (1, .int l1), (2, .int (l2 + (1 : Int32))), (3, .int (l3 + v8)), (4, .int (1 : Int32)), (5, .int (l5 + (1 : Int32)))] [] M7 (qI Q)))))) ∧ ((vi M (m + 38) (l2).toNatClampNeg) = (32 : Int32) → CI G d 247 [.ref m, .ref (m + 38), .int l2] M (fun v10 M9 => RefAt M9 m ∧ (vp_in l3 400 ∧ ((¬ (vi M9 (m + 33) (l3).toNatClampNeg) = (32 : Int32) → At G (d + 1) 246 37 [(0, .ref m), (1, .int l1), (2, .int (l2 + v10)), (3, .int (l3 + (1 : Int32))), (4, .int (1 : Int32)), (5, .int (l5 + (1 : Int32)))] [] M9 (qI Q)) ∧ ((vi M9 (m + 33) (l3).toNatClampNeg) = (32 : Int32) → CI G d 247 [.ref m, .ref (m + 33), .int l3] M9 (fun v12 M11 => RefAt M11 m ∧ (At G (d + 1) 246 37 [(0, .ref m), (1, .int l1), (2, .int (l2 + v10)), (3, .int (l3 + v12)), (4, .int (1 : Int32)), (5, .int (l5 + (1 : Int32)))] [] M11 (qI Q)))))))))))))))) : At G (d + 1) 246 37 [(0, .ref m), (1, .int l1), (2, .int l2), (3, .int l3), (4, .int l4), (5, .int l5)] [] M (qI Q) := by
  refine vcc ok246 25 [] ?_
  refine And.intro R.1 ?_
  refine Or.inl ⟨_, (ra_r47 R), ?_⟩
  refine Or.inl ⟨(ra_k47 R), vp_cst (ra_l47 R) H.1, ?_⟩
  replace H := H.2
  refine And.intro (fun c => ?_) (fun c => ?_)
  · replace H := H.1 c
    exact ⟨fun _ => H.1, _, rfl, H.2⟩
  · replace H := H.2 c
    refine And.intro (fun c => ?_) (fun c => ?_)
    · replace H := H.1 c
      exact ⟨fun _ => H.1, _, rfl, H.2⟩
    · replace H := H.2 c
      refine And.intro R.1 ?_
      refine Or.inl ⟨_, (ra_r50 R), ?_⟩
      refine Or.inl ⟨(ra_k50 R), vp_cst (ra_l50 R) H.1, ?_⟩
      replace H := H.2
      refine And.intro R.1 ?_
      refine Or.inl ⟨_, (ra_r45 R), ?_⟩
      refine Or.inl ⟨(ra_k45 R), vp_cst (ra_l45 R) H.1, ?_⟩
      replace H := H.2
      refine And.intro (fun c => ?_) (fun c => ?_)
      · replace H := H.1 c
        refine And.intro R.1 ?_
        refine Or.inl ⟨_, (ra_r50 R), ?_⟩
        refine Or.inl ⟨(ra_k50 R), vp_cst (ra_l50 R) H.1, ?_⟩
        replace H := H.2
        refine And.intro (fun c => ?_) (fun c => ?_)
        · replace H := H.1 c
          refine And.intro R.1 ?_
          refine Or.inl ⟨_, (ra_r45 R), ?_⟩
          refine Or.inl ⟨(ra_k45 R), vp_cst (ra_l45 R) H.1, ?_⟩
          replace H := H.2
          refine And.intro (fun c => ?_) (fun c => ?_)
          · replace H := H.1 c
            exact H
          · replace H := H.2 c
            refine And.intro R.1 ?_
            refine Or.inl ⟨_, (ra_r45 R), ?_⟩
            refine And.intro (Nat.le_of_ble_eq_true rfl) ?_
            refine And.intro (Nat.le_of_ble_eq_true rfl) (And.intro R.1 ?_)
            refine Cl.mono H (fun r M1 h => ?_)
            obtain ⟨v2, rfl, H⟩ := h
            obtain ⟨R, H⟩ := H
            exact H
        · replace H := H.2 c
          refine And.intro R.1 ?_
          refine Or.inl ⟨_, (ra_r50 R), ?_⟩
          refine And.intro (Nat.le_of_ble_eq_true rfl) ?_
          refine And.intro (Nat.le_of_ble_eq_true rfl) (And.intro R.1 ?_)
          refine Cl.mono H (fun r M3 h => ?_)
          obtain ⟨v4, rfl, H⟩ := h
          obtain ⟨R, H⟩ := H
          refine And.intro R.1 ?_
          refine Or.inl ⟨_, (ra_r45 R), ?_⟩
          refine Or.inl ⟨(ra_k45 R), vp_cst (ra_l45 R) H.1, ?_⟩
          replace H := H.2
          refine And.intro (fun c => ?_) (fun c => ?_)
          · replace H := H.1 c
            exact H
          · replace H := H.2 c
            refine And.intro R.1 ?_
            refine Or.inl ⟨_, (ra_r45 R), ?_⟩
            refine And.intro (Nat.le_of_ble_eq_true rfl) ?_
            refine And.intro (Nat.le_of_ble_eq_true rfl) (And.intro R.1 ?_)
            refine Cl.mono H (fun r M5 h => ?_)
            obtain ⟨v6, rfl, H⟩ := h
            obtain ⟨R, H⟩ := H
            exact H
      · replace H := H.2 c
        refine And.intro R.1 ?_
        refine Or.inl ⟨_, (ra_r50 R), ?_⟩
        refine Or.inl ⟨(ra_k50 R), vp_cst (ra_l50 R) H.1, ?_⟩
        replace H := H.2
        refine And.intro (fun c => ?_) (fun c => ?_)
        · replace H := H.1 c
          refine And.intro R.1 ?_
          refine Or.inl ⟨_, (ra_r45 R), ?_⟩
          refine Or.inl ⟨(ra_k45 R), vp_cst (ra_l45 R) H.1, ?_⟩
          replace H := H.2
          refine And.intro (fun c => ?_) (fun c => ?_)
          · replace H := H.1 c
            exact H
          · replace H := H.2 c
            refine And.intro R.1 ?_
            refine Or.inl ⟨_, (ra_r45 R), ?_⟩
            refine And.intro (Nat.le_of_ble_eq_true rfl) ?_
            refine And.intro (Nat.le_of_ble_eq_true rfl) (And.intro R.1 ?_)
            refine Cl.mono H (fun r M7 h => ?_)
            obtain ⟨v8, rfl, H⟩ := h
            obtain ⟨R, H⟩ := H
            exact H
        · replace H := H.2 c
          refine And.intro R.1 ?_
          refine Or.inl ⟨_, (ra_r50 R), ?_⟩
          refine And.intro (Nat.le_of_ble_eq_true rfl) ?_
          refine And.intro (Nat.le_of_ble_eq_true rfl) (And.intro R.1 ?_)
          refine Cl.mono H (fun r M9 h => ?_)
          obtain ⟨v10, rfl, H⟩ := h
          obtain ⟨R, H⟩ := H
          refine And.intro R.1 ?_
          refine Or.inl ⟨_, (ra_r45 R), ?_⟩
          refine Or.inl ⟨(ra_k45 R), vp_cst (ra_l45 R) H.1, ?_⟩
          replace H := H.2
          refine And.intro (fun c => ?_) (fun c => ?_)
          · replace H := H.1 c
            exact H
          · replace H := H.2 c
            refine And.intro R.1 ?_
            refine Or.inl ⟨_, (ra_r45 R), ?_⟩
            refine And.intro (Nat.le_of_ble_eq_true rfl) ?_
            refine And.intro (Nat.le_of_ble_eq_true rfl) (And.intro R.1 ?_)
            refine Cl.mono H (fun r M11 h => ?_)
            obtain ⟨v12, rfl, H⟩ := h
            obtain ⟨R, H⟩ := H
            exact H

theorem r_blanksOf {G : GT} {d m : Nat} {M : Mem} (R : RefAt M m) {a1 : Nat} {a2 : Int32} {Q : Int32 → Mem → Prop} (H : At G (d + 1) 247 2 [(1, .ref a1), (2, .int a2), (3, .int a2)] [] M (qI Q)) : CI G (d + 1) 247 [.ref m, .ref a1, .int a2] M Q := by
  refine Cl.ofM (Nat.le_of_ble_eq_true rfl) rfl ?_
  refine vcc ok247 0 [2] ?_
  exact At.keep [1, 2, 3] H

theorem r_blanksOf_2 {G : GT} {d m : Nat} {M : Mem} (R : RefAt M m) {a1 : Nat} {l2 : Int32} {l3 : Int32} {Q : Int32 → Mem → Prop} (H : mK M a1 = 15 ∧ vp_in l3 (mA M a1) ∧ ((¬ (vi M a1 (l3).toNatClampNeg) = (32 : Int32) → Q (l3 - l2) M) ∧ ((vi M a1 (l3).toNatClampNeg) = (32 : Int32) → At G (d + 1) 247 2 [(1, .ref a1), (2, .int l2), (3, .int (l3 + (1 : Int32)))] [] M (qI Q)))) : At G (d + 1) 247 2 [(1, .ref a1), (2, .int l2), (3, .int l3)] [] M (qI Q) := by
  refine vcc ok247 2 [] ?_
  refine Or.inl ⟨H.1, H.2.1, ?_⟩
  replace H := H.2.2
  refine And.intro (fun c => ?_) (fun c => ?_)
  · replace H := H.1 c
    exact ⟨fun h => absurd h (by decide), _, rfl, H⟩
  · replace H := H.2 c
    exact H

theorem r_changes {G : GT} {d m : Nat} {M : Mem} (R : RefAt M m) {a1 : Int32} {a2 : Int32} {Q : Int32 → Mem → Prop} (H : CI G d 241 [.ref m, .int (0 : Int32)] M (fun v2 M1 => RefAt M1 m ∧ (CV G d 243 [.ref m, .int a2] M1 (fun M3 => RefAt M3 m ∧ (At G (d + 1) 248 19 [(0, .ref m), (1, .int a1), (2, .int a2), (3, .int (vi M3 m 52)), (4, .int (0 : Int32))] [] M3 (qI Q)))))) : CI G (d + 1) 248 [.ref m, .int a1, .int a2] M Q := by
  refine Cl.ofM (Nat.le_of_ble_eq_true rfl) rfl ?_
  refine vcc ok248 0 [19, 62, 130] ?_
  refine And.intro (Nat.le_of_ble_eq_true rfl) ?_
  refine And.intro (Nat.le_of_ble_eq_true rfl) (And.intro R.1 ?_)
  refine Cl.mono H (fun r M1 h => ?_)
  obtain ⟨v2, rfl, H⟩ := h
  obtain ⟨R, H⟩ := H
  refine And.intro (Nat.le_of_ble_eq_true rfl) ?_
  refine And.intro (Nat.le_of_ble_eq_true rfl) (And.intro R.1 ?_)
  refine Cl.mono H (fun r M3 h => ?_)
  obtain ⟨rfl, H⟩ := h
  obtain ⟨R, H⟩ := H
  refine And.intro R.1 ?_
  exact H

theorem r_changes_19 {G : GT} {d m : Nat} {M : Mem} (R : RefAt M m) {l1 : Int32} {l2 : Int32} {l3 : Int32} {l4 : Int32} {Q : Int32 → Mem → Prop} (H : (l3 ≤ l4 → At G (d + 1) 248 62 [(0, .ref m), (1, .int l1), (2, .int l2), (3, .int l3), (4, .int (0 : Int32))] [] M (qI Q)) ∧ (¬ l3 ≤ l4 → vp_in l4 401 ∧ (vp_in l4 401 ∧ (∀ M4, M4 = seti M (m + 36) (l4).toNatClampNeg (vi M (m + 34) (l4).toNatClampNeg) → vp_in l4 401 ∧ (vp_in l4 401 ∧ (∀ M5, M5 = seti M4 (m + 37) (l4).toNatClampNeg (vi M4 (m + 35) (l4).toNatClampNeg) → At G (d + 1) 248 19 [(0, .ref m), (1, .int l1), (2, .int l2), (3, .int l3), (4, .int (l4 + (1 : Int32)))] [] M5 (qI Q))))))) : At G (d + 1) 248 19 [(0, .ref m), (1, .int l1), (2, .int l2), (3, .int l3), (4, .int l4)] [] M (qI Q) := by
  refine vcc ok248 12 [62, 130] ?_
  refine And.intro (fun c => ?_) (fun c => ?_)
  · replace H := H.1 c
    exact H
  · replace H := H.2 c
    refine And.intro R.1 ?_
    refine Or.inl ⟨_, (ra_r48 R), ?_⟩
    refine And.intro R.1 ?_
    refine Or.inl ⟨_, (ra_r46 R), ?_⟩
    refine Or.inl ⟨(ra_k46 R), vp_cst (ra_l46 R) H.1, ?_⟩
    replace H := H.2
    refine ⟨(ra_k48 R), vp_cst (ra_l48 R) H.1, ?_⟩
    replace H := H.2
    replace H := H _ rfl
    refine And.intro R.1 ?_
    refine Or.inl ⟨_, (ra_r49 R), ?_⟩
    refine And.intro R.1 ?_
    refine Or.inl ⟨_, (ra_r47 R), ?_⟩
    refine Or.inl ⟨(ra_k47 R), vp_cst (ra_l47 R) H.1, ?_⟩
    replace H := H.2
    refine ⟨(ra_k49 R), vp_cst (ra_l49 R) H.1, ?_⟩
    replace H := H.2
    replace H := H _ rfl
    exact H

theorem r_changes_62 {G : GT} {d m : Nat} {M : Mem} (R : RefAt M m) {l1 : Int32} {l2 : Int32} {l3 : Int32} {l4 : Int32} {Q : Int32 → Mem → Prop} (H : ((vi M m 51) ≤ l4 → CI G d 241 [.ref m, .int ((2 : Int32) + l1)] M (fun v7 M6 => RefAt M6 m ∧ (CV G d 243 [.ref m, .int l2] M6 (fun M8 => RefAt M8 m ∧ ((l3 ≤ (vi M8 m 52) → ∀ M9, M9 = seti M8 m 54 (vi M8 m 52) → At G (d + 1) 248 130 [(0, .ref m), (3, .int l3), (4, .int (0 : Int32)), (5, .int (0 : Int32))] [] M9 (qI Q)) ∧ (¬ l3 ≤ (vi M8 m 52) → ∀ M10, M10 = seti M8 m 54 l3 → At G (d + 1) 248 130 [(0, .ref m), (3, .int l3), (4, .int (0 : Int32)), (5, .int (0 : Int32))] [] M10 (qI Q))))))) ∧ (¬ (vi M m 51) ≤ l4 → vp_in l4 400 ∧ (vp_in l4 400 ∧ (∀ M11, M11 = seti M (m + 38) (l4).toNatClampNeg (vi M (m + 33) (l4).toNatClampNeg) → At G (d + 1) 248 62 [(0, .ref m), (1, .int l1), (2, .int l2), (3, .int l3), (4, .int (l4 + (1 : Int32)))] [] M11 (qI Q))))) : At G (d + 1) 248 62 [(0, .ref m), (1, .int l1), (2, .int l2), (3, .int l3), (4, .int l4)] [] M (qI Q) := by
  refine vcc ok248 35 [19, 130] ?_
  refine And.intro R.1 ?_
  refine And.intro (fun c => ?_) (fun c => ?_)
  · replace H := H.1 c
    refine And.intro (Nat.le_of_ble_eq_true rfl) ?_
    refine And.intro (Nat.le_of_ble_eq_true rfl) (And.intro R.1 ?_)
    refine Cl.mono H (fun r M6 h => ?_)
    obtain ⟨v7, rfl, H⟩ := h
    obtain ⟨R, H⟩ := H
    refine And.intro (Nat.le_of_ble_eq_true rfl) ?_
    refine And.intro (Nat.le_of_ble_eq_true rfl) (And.intro R.1 ?_)
    refine Cl.mono H (fun r M8 h => ?_)
    obtain ⟨rfl, H⟩ := h
    obtain ⟨R, H⟩ := H
    refine And.intro R.1 ?_
    refine And.intro (fun c => ?_) (fun c => ?_)
    · replace H := H.1 c
      refine And.intro R.1 ?_
      refine And.intro R.1 ?_
      refine And.intro (Or.inl rfl) (And.intro (fun h => absurd h (by decide)) ?_)
      replace H := H _ rfl
      exact At.keep [0, 3, 4, 5] H
    · replace H := H.2 c
      refine And.intro R.1 ?_
      refine And.intro (Or.inl rfl) (And.intro (fun h => absurd h (by decide)) ?_)
      replace H := H _ rfl
      exact At.keep [0, 3, 4, 5] H
  · replace H := H.2 c
    refine And.intro R.1 ?_
    refine Or.inl ⟨_, (ra_r50 R), ?_⟩
    refine And.intro R.1 ?_
    refine Or.inl ⟨_, (ra_r45 R), ?_⟩
    refine Or.inl ⟨(ra_k45 R), vp_cst (ra_l45 R) H.1, ?_⟩
    replace H := H.2
    refine ⟨(ra_k50 R), vp_cst (ra_l50 R) H.1, ?_⟩
    replace H := H.2
    replace H := H _ rfl
    exact H

theorem r_changes_130 {G : GT} {d m : Nat} {M : Mem} (R : RefAt M m) {l3 : Int32} {l4 : Int32} {l5 : Int32} {Q : Int32 → Mem → Prop} (H : ((vi M m 54) ≤ l5 → Q l4 M) ∧ (¬ (vi M m 54) ≤ l5 → (l3 ≤ l5 → vp_in l5 401 ∧ (∀ M12, M12 = seti M (m + 39) (l5).toNatClampNeg (vp_nar .boolean (1 : Int32)) → vp_in l5 401 ∧ (((vi M12 (m + 39) (l5).toNatClampNeg) = 0 → At G (d + 1) 248 130 [(0, .ref m), (3, .int l3), (4, .int (l4 + (0 : Int32))), (5, .int (l5 + (1 : Int32)))] [] M12 (qI Q)) ∧ (¬ (vi M12 (m + 39) (l5).toNatClampNeg) = 0 → At G (d + 1) 248 130 [(0, .ref m), (3, .int l3), (4, .int (l4 + (1 : Int32))), (5, .int (l5 + (1 : Int32)))] [] M12 (qI Q))))) ∧ (¬ l3 ≤ l5 → ((vi M m 52) ≤ l5 → vp_in l5 401 ∧ (∀ M13, M13 = seti M (m + 39) (l5).toNatClampNeg (vp_nar .boolean (1 : Int32)) → vp_in l5 401 ∧ (((vi M13 (m + 39) (l5).toNatClampNeg) = 0 → At G (d + 1) 248 130 [(0, .ref m), (3, .int l3), (4, .int (l4 + (0 : Int32))), (5, .int (l5 + (1 : Int32)))] [] M13 (qI Q)) ∧ (¬ (vi M13 (m + 39) (l5).toNatClampNeg) = 0 → At G (d + 1) 248 130 [(0, .ref m), (3, .int l3), (4, .int (l4 + (1 : Int32))), (5, .int (l5 + (1 : Int32)))] [] M13 (qI Q))))) ∧ (¬ (vi M m 52) ≤ l5 → CI G d 246 [.ref m, .int l5] M (fun v15 M14 => RefAt M14 m ∧ ((¬ v15 = 0 → vp_in l5 401 ∧ (∀ M16, M16 = seti M14 (m + 39) (l5).toNatClampNeg (vp_nar .boolean (0 : Int32)) → vp_in l5 401 ∧ (((vi M16 (m + 39) (l5).toNatClampNeg) = 0 → At G (d + 1) 248 130 [(0, .ref m), (3, .int l3), (4, .int (l4 + (0 : Int32))), (5, .int (l5 + (1 : Int32)))] [] M16 (qI Q)) ∧ (¬ (vi M16 (m + 39) (l5).toNatClampNeg) = 0 → At G (d + 1) 248 130 [(0, .ref m), (3, .int l3), (4, .int (l4 + (1 : Int32))), (5, .int (l5 + (1 : Int32)))] [] M16 (qI Q))))) ∧ (v15 = 0 → vp_in l5 401 ∧ (∀ M17, M17 = seti M14 (m + 39) (l5).toNatClampNeg (vp_nar .boolean (1 : Int32)) → vp_in l5 401 ∧ (((vi M17 (m + 39) (l5).toNatClampNeg) = 0 → At G (d + 1) 248 130 [(0, .ref m), (3, .int l3), (4, .int (l4 + (0 : Int32))), (5, .int (l5 + (1 : Int32)))] [] M17 (qI Q)) ∧ (¬ (vi M17 (m + 39) (l5).toNatClampNeg) = 0 → At G (d + 1) 248 130 [(0, .ref m), (3, .int l3), (4, .int (l4 + (1 : Int32))), (5, .int (l5 + (1 : Int32)))] [] M17 (qI Q))))))))))) : At G (d + 1) 248 130 [(0, .ref m), (3, .int l3), (4, .int l4), (5, .int l5)] [] M (qI Q) := by
  refine vcc ok248 72 [19, 62] ?_
  refine And.intro R.1 ?_
  refine And.intro (fun c => ?_) (fun c => ?_)
  · replace H := H.1 c
    exact ⟨fun h => absurd h (by decide), _, rfl, H⟩
  · replace H := H.2 c
    refine And.intro R.1 ?_
    refine Or.inl ⟨_, (ra_r53 R), ?_⟩
    refine And.intro (fun c => ?_) (fun c => ?_)
    · replace H := H.1 c
      refine Or.inr ⟨(ra_k53 R), vp_cst (ra_l53 R) H.1, ?_⟩
      replace H := H.2
      replace H := H _ rfl
      refine And.intro R.1 ?_
      refine Or.inl ⟨_, (ra_r53 R), ?_⟩
      refine ⟨(Or.inr (ra_k53 R)), vp_cst (ra_l53 R) H.1, ?_⟩
      replace H := H.2
      refine And.intro (fun c => ?_) (fun c => ?_)
      · replace H := H.1 c
        exact H
      · replace H := H.2 c
        exact H
    · replace H := H.2 c
      refine And.intro R.1 ?_
      refine And.intro (fun c => ?_) (fun c => ?_)
      · replace H := H.1 c
        refine Or.inr ⟨(ra_k53 R), vp_cst (ra_l53 R) H.1, ?_⟩
        replace H := H.2
        replace H := H _ rfl
        refine And.intro R.1 ?_
        refine Or.inl ⟨_, (ra_r53 R), ?_⟩
        refine ⟨(Or.inr (ra_k53 R)), vp_cst (ra_l53 R) H.1, ?_⟩
        replace H := H.2
        refine And.intro (fun c => ?_) (fun c => ?_)
        · replace H := H.1 c
          exact H
        · replace H := H.2 c
          exact H
      · replace H := H.2 c
        refine And.intro (Nat.le_of_ble_eq_true rfl) ?_
        refine And.intro (Nat.le_of_ble_eq_true rfl) (And.intro R.1 ?_)
        refine Cl.mono H (fun r M14 h => ?_)
        obtain ⟨v15, rfl, H⟩ := h
        obtain ⟨R, H⟩ := H
        refine And.intro (fun c => ?_) (fun c => ?_)
        · replace H := H.1 c
          refine Or.inr ⟨(ra_k53 R), vp_cst (ra_l53 R) H.1, ?_⟩
          replace H := H.2
          replace H := H _ rfl
          refine And.intro R.1 ?_
          refine Or.inl ⟨_, (ra_r53 R), ?_⟩
          refine ⟨(Or.inr (ra_k53 R)), vp_cst (ra_l53 R) H.1, ?_⟩
          replace H := H.2
          refine And.intro (fun c => ?_) (fun c => ?_)
          · replace H := H.1 c
            exact H
          · replace H := H.2 c
            exact H
        · replace H := H.2 c
          refine Or.inr ⟨(ra_k53 R), vp_cst (ra_l53 R) H.1, ?_⟩
          replace H := H.2
          replace H := H _ rfl
          refine And.intro R.1 ?_
          refine Or.inl ⟨_, (ra_r53 R), ?_⟩
          refine ⟨(Or.inr (ra_k53 R)), vp_cst (ra_l53 R) H.1, ?_⟩
          replace H := H.2
          refine And.intro (fun c => ?_) (fun c => ?_)
          · replace H := H.1 c
            exact H
          · replace H := H.2 c
            exact H

theorem r_changed {G : GT} {d m : Nat} {M : Mem} (R : RefAt M m) {a1 : Int32} {a2 : Int32} {Q : Int32 → Mem → Prop} (H : CI G d 199 [.ref m, .int a1] M (fun v2 M1 => RefAt M1 m ∧ ((v2 = 0 → Q (-1 : Int32) M1) ∧ (¬ v2 = 0 → CI G d 155 [.long ((a2).toInt64), .long (5 : Int64), .long (60 : Int64)] M1 (fun v4 M3 => RefAt M3 m ∧ ((v4 = 0 → Q (-1 : Int32) M3) ∧ (¬ v4 = 0 → CI G d 248 [.ref m, .int a1, .int a2] M3 (fun v6 M5 => RefAt M5 m ∧ (Q v6 M5))))))))) : CI G (d + 1) 249 [.ref m, .int a1, .int a2] M Q := by
  refine Cl.ofM (Nat.le_of_ble_eq_true rfl) rfl ?_
  refine vcc ok249 0 [] ?_
  refine And.intro (Nat.le_of_ble_eq_true rfl) ?_
  refine And.intro (Nat.le_of_ble_eq_true rfl) (And.intro R.1 ?_)
  refine Cl.mono H (fun r M1 h => ?_)
  obtain ⟨v2, rfl, H⟩ := h
  obtain ⟨R, H⟩ := H
  refine And.intro (fun c => ?_) (fun c => ?_)
  · replace H := H.1 c
    exact ⟨fun h => absurd h (by decide), _, rfl, H⟩
  · replace H := H.2 c
    refine And.intro (Nat.le_of_ble_eq_true rfl) ?_
    refine And.intro (Nat.le_of_ble_eq_true rfl) ?_
    refine Cl.mono H (fun r M3 h => ?_)
    obtain ⟨v4, rfl, H⟩ := h
    obtain ⟨R, H⟩ := H
    refine And.intro (fun c => ?_) (fun c => ?_)
    · replace H := H.1 c
      exact ⟨fun h => absurd h (by decide), _, rfl, H⟩
    · replace H := H.2 c
      refine And.intro (Nat.le_of_ble_eq_true rfl) ?_
      refine And.intro (Nat.le_of_ble_eq_true rfl) (And.intro R.1 ?_)
      refine Cl.mono H (fun r M5 h => ?_)
      obtain ⟨v6, rfl, H⟩ := h
      obtain ⟨R, H⟩ := H
      exact ⟨fun h => absurd h (by decide), _, rfl, H⟩

theorem r_run {G : GT} {d m : Nat} {M : Mem} (R : RefAt M m) {a1 : Int32} {a2 : Int32} {a3 : Int32} {Q : Int32 → Mem → Prop} (H : CI G d 199 [.ref m, .int a1] M (fun v2 M1 => RefAt M1 m ∧ ((v2 = 0 → Q (-1 : Int32) M1) ∧ (¬ v2 = 0 → CI G d 155 [.long ((a2).toInt64), .long (5 : Int64), .long (60 : Int64)] M1 (fun v4 M3 => RefAt M3 m ∧ ((v4 = 0 → Q (-1 : Int32) M3) ∧ (¬ v4 = 0 → CI G d 155 [.long ((a3).toInt64), .long (1 : Int64), .long (60 : Int64)] M3 (fun v6 M5 => RefAt M5 m ∧ ((¬ v6 = 0 → CI G d 248 [.ref m, .int a1, .int a2] M5 (fun v8 M7 => RefAt M7 m ∧ (At G (d + 1) 250 52 [(0, .ref m), (3, .int a3), (4, .int (0 : Int32)), (5, .int (-1 : Int32)), (6, .int (0 : Int32))] [] M7 (qI Q)))) ∧ (v6 = 0 → Q (-1 : Int32) M5)))))))))) : CI G (d + 1) 250 [.ref m, .int a1, .int a2, .int a3] M Q := by
  refine Cl.ofM (Nat.le_of_ble_eq_true rfl) rfl ?_
  refine vcc ok250 0 [52] ?_
  refine And.intro (Nat.le_of_ble_eq_true rfl) ?_
  refine And.intro (Nat.le_of_ble_eq_true rfl) (And.intro R.1 ?_)
  refine Cl.mono H (fun r M1 h => ?_)
  obtain ⟨v2, rfl, H⟩ := h
  obtain ⟨R, H⟩ := H
  refine And.intro (fun c => ?_) (fun c => ?_)
  · replace H := H.1 c
    exact ⟨fun h => absurd h (by decide), _, rfl, H⟩
  · replace H := H.2 c
    refine And.intro (Nat.le_of_ble_eq_true rfl) ?_
    refine And.intro (Nat.le_of_ble_eq_true rfl) ?_
    refine Cl.mono H (fun r M3 h => ?_)
    obtain ⟨v4, rfl, H⟩ := h
    obtain ⟨R, H⟩ := H
    refine And.intro (fun c => ?_) (fun c => ?_)
    · replace H := H.1 c
      exact ⟨fun h => absurd h (by decide), _, rfl, H⟩
    · replace H := H.2 c
      refine And.intro (Nat.le_of_ble_eq_true rfl) ?_
      refine And.intro (Nat.le_of_ble_eq_true rfl) ?_
      refine Cl.mono H (fun r M5 h => ?_)
      obtain ⟨v6, rfl, H⟩ := h
      obtain ⟨R, H⟩ := H
      refine And.intro (fun c => ?_) (fun c => ?_)
      · replace H := H.1 c
        refine And.intro (Nat.le_of_ble_eq_true rfl) ?_
        refine And.intro (Nat.le_of_ble_eq_true rfl) (And.intro R.1 ?_)
        refine Cl.mono H (fun r M7 h => ?_)
        obtain ⟨v8, rfl, H⟩ := h
        obtain ⟨R, H⟩ := H
        exact At.keep [0, 3, 4, 5, 6] H
      · replace H := H.2 c
        exact ⟨fun h => absurd h (by decide), _, rfl, H⟩

theorem r_run_52 {G : GT} {d m : Nat} {M : Mem} (R : RefAt M m) {l3 : Int32} {l4 : Int32} {l5 : Int32} {l6 : Int32} {Q : Int32 → Mem → Prop} (H : ((vi M m 54) ≤ l6 → Q l4 M) ∧ (¬ (vi M m 54) ≤ l6 → vp_in l6 401 ∧ (((vi M (m + 39) (l6).toNatClampNeg) = 0 → At G (d + 1) 250 52 [(0, .ref m), (3, .int l3), (4, .int l4), (5, .int l5), (6, .int (l6 + (1 : Int32)))] [] M (qI Q)) ∧ (¬ (vi M (m + 39) (l6).toNatClampNeg) = 0 → ¬ l3 = 0 ∧ (((l6 / l3) = l5 → At G (d + 1) 250 52 [(0, .ref m), (3, .int l3), (4, .int l4), (5, .int l5), (6, .int (l6 + (1 : Int32)))] [] M (qI Q)) ∧ (¬ (l6 / l3) = l5 → ¬ l3 = 0 ∧ (At G (d + 1) 250 52 [(0, .ref m), (3, .int l3), (4, .int (l4 + (1 : Int32))), (5, .int (l6 / l3)), (6, .int (l6 + (1 : Int32)))] [] M (qI Q)))))))) : At G (d + 1) 250 52 [(0, .ref m), (3, .int l3), (4, .int l4), (5, .int l5), (6, .int l6)] [] M (qI Q) := by
  refine vcc ok250 29 [] ?_
  refine And.intro R.1 ?_
  refine And.intro (fun c => ?_) (fun c => ?_)
  · replace H := H.1 c
    exact ⟨fun h => absurd h (by decide), _, rfl, H⟩
  · replace H := H.2 c
    refine And.intro R.1 ?_
    refine Or.inl ⟨_, (ra_r53 R), ?_⟩
    refine ⟨(Or.inr (ra_k53 R)), vp_cst (ra_l53 R) H.1, ?_⟩
    replace H := H.2
    refine And.intro (fun c => ?_) (fun c => ?_)
    · replace H := H.1 c
      exact H
    · replace H := H.2 c
      refine And.intro H.1 ?_
      replace H := H.2
      refine And.intro (fun c => ?_) (fun c => ?_)
      · replace H := H.1 c
        exact H
      · replace H := H.2 c
        refine And.intro H.1 ?_
        replace H := H.2
        exact H

theorem r_costs {G : GT} {d m : Nat} {M : Mem} (R : RefAt M m) {a1 : Int32} {a2 : Int32} {Q : Int32 → Mem → Prop} (H : CI G d 199 [.ref m, .int a1] M (fun v2 M1 => RefAt M1 m ∧ ((v2 = 0 → Q (-1 : Int32) M1) ∧ (¬ v2 = 0 → CI G d 155 [.long ((a2).toInt64), .long (5 : Int64), .long (60 : Int64)] M1 (fun v4 M3 => RefAt M3 m ∧ ((¬ v4 = 0 → vp_in (6 : Int32) 7 ∧ (CI G d 248 [.ref m, .int a1, .int a2] M3 (fun v6 M5 => RefAt M5 m ∧ (At G (d + 1) 251 42 [(0, .ref m), (3, .int ((vi M3 (m + 6) ((6 : Int32)).toNatClampNeg) * v6)), (4, .int (0 : Int32))] [] M5 (qI Q))))) ∧ (v4 = 0 → Q (-1 : Int32) M3))))))) : CI G (d + 1) 251 [.ref m, .int a1, .int a2] M Q := by
  refine Cl.ofM (Nat.le_of_ble_eq_true rfl) rfl ?_
  refine vcc ok251 0 [42, 61] ?_
  refine And.intro (Nat.le_of_ble_eq_true rfl) ?_
  refine And.intro (Nat.le_of_ble_eq_true rfl) (And.intro R.1 ?_)
  refine Cl.mono H (fun r M1 h => ?_)
  obtain ⟨v2, rfl, H⟩ := h
  obtain ⟨R, H⟩ := H
  refine And.intro (fun c => ?_) (fun c => ?_)
  · replace H := H.1 c
    exact ⟨fun h => absurd h (by decide), _, rfl, H⟩
  · replace H := H.2 c
    refine And.intro (Nat.le_of_ble_eq_true rfl) ?_
    refine And.intro (Nat.le_of_ble_eq_true rfl) ?_
    refine Cl.mono H (fun r M3 h => ?_)
    obtain ⟨v4, rfl, H⟩ := h
    obtain ⟨R, H⟩ := H
    refine And.intro (fun c => ?_) (fun c => ?_)
    · replace H := H.1 c
      refine And.intro R.1 ?_
      refine Or.inl ⟨_, (ra_r6 R), ?_⟩
      refine Or.inl ⟨(ra_k6 R), vp_cst (ra_l6 R) H.1, ?_⟩
      replace H := H.2
      refine And.intro (Nat.le_of_ble_eq_true rfl) ?_
      refine And.intro (Nat.le_of_ble_eq_true rfl) (And.intro R.1 ?_)
      refine Cl.mono H (fun r M5 h => ?_)
      obtain ⟨v6, rfl, H⟩ := h
      obtain ⟨R, H⟩ := H
      exact At.keep [0, 3, 4] H
    · replace H := H.2 c
      exact ⟨fun h => absurd h (by decide), _, rfl, H⟩

theorem r_costs_42 {G : GT} {d m : Nat} {M : Mem} (R : RefAt M m) {l3 : Int32} {l4 : Int32} {Q : Int32 → Mem → Prop} (H : ((64 : Int32) ≤ l4 → Q l3 M) ∧ (¬ (64 : Int32) ≤ l4 → vp_in l4 64 ∧ (At G (d + 1) 251 61 [(0, .ref m), (3, .int l3), (4, .int l4), (5, .int (vi M (m + 31) (l4).toNatClampNeg)), (6, .int (0 : Int32))] [] M (qI Q)))) : At G (d + 1) 251 42 [(0, .ref m), (3, .int l3), (4, .int l4)] [] M (qI Q) := by
  refine vcc ok251 24 [61] ?_
  refine And.intro (fun c => ?_) (fun c => ?_)
  · replace H := H.1 c
    exact ⟨fun h => absurd h (by decide), _, rfl, H⟩
  · replace H := H.2 c
    refine And.intro R.1 ?_
    refine Or.inl ⟨_, (ra_r41 R), ?_⟩
    refine ⟨(Or.inr (ra_k41 R)), vp_cst (ra_l41 R) H.1, ?_⟩
    replace H := H.2
    exact H

theorem r_costs_61 {G : GT} {d m : Nat} {M : Mem} (R : RefAt M m) {l3 : Int32} {l4 : Int32} {l5 : Int32} {l6 : Int32} {Q : Int32 → Mem → Prop} (H : (l4 ≤ l6 → (l5 = 0 → At G (d + 1) 251 42 [(0, .ref m), (3, .int (l3 + (0 : Int32))), (4, .int (l4 + (1 : Int32)))] [] M (qI Q)) ∧ (¬ l5 = 0 → vp_in l4 64 ∧ (vp_in (vi M (m + 7) (l4).toNatClampNeg) 7 ∧ (vp_in l4 64 ∧ (At G (d + 1) 251 42 [(0, .ref m), (3, .int (l3 + ((vi M (m + 6) ((vi M (m + 7) (l4).toNatClampNeg)).toNatClampNeg) * (vi M (m + 11) (l4).toNatClampNeg)))), (4, .int (l4 + (1 : Int32)))] [] M (qI Q)))))) ∧ (¬ l4 ≤ l6 → (l5 = 0 → At G (d + 1) 251 61 [(0, .ref m), (3, .int l3), (4, .int l4), (5, .int (0 : Int32)), (6, .int (l6 + (1 : Int32)))] [] M (qI Q)) ∧ (¬ l5 = 0 → vp_in l6 64 ∧ (((vi M (m + 31) (l6).toNatClampNeg) = 0 → At G (d + 1) 251 61 [(0, .ref m), (3, .int l3), (4, .int l4), (5, .int (1 : Int32)), (6, .int (l6 + (1 : Int32)))] [] M (qI Q)) ∧ (¬ (vi M (m + 31) (l6).toNatClampNeg) = 0 → CI G d 204 [.ref m, .int l6, .int l4] M (fun v8 M7 => RefAt M7 m ∧ ((¬ v8 = 0 → At G (d + 1) 251 61 [(0, .ref m), (3, .int l3), (4, .int l4), (5, .int (0 : Int32)), (6, .int (l6 + (1 : Int32)))] [] M7 (qI Q)) ∧ (v8 = 0 → At G (d + 1) 251 61 [(0, .ref m), (3, .int l3), (4, .int l4), (5, .int (1 : Int32)), (6, .int (l6 + (1 : Int32)))] [] M7 (qI Q))))))))) : At G (d + 1) 251 61 [(0, .ref m), (3, .int l3), (4, .int l4), (5, .int l5), (6, .int l6)] [] M (qI Q) := by
  refine vcc ok251 34 [42] ?_
  refine And.intro (fun c => ?_) (fun c => ?_)
  · replace H := H.1 c
    refine And.intro (fun c => ?_) (fun c => ?_)
    · replace H := H.1 c
      exact At.keep [0, 3, 4] H
    · replace H := H.2 c
      refine And.intro R.1 ?_
      refine Or.inl ⟨_, (ra_r6 R), ?_⟩
      refine And.intro R.1 ?_
      refine Or.inl ⟨_, (ra_r7 R), ?_⟩
      refine Or.inl ⟨(ra_k7 R), vp_cst (ra_l7 R) H.1, ?_⟩
      replace H := H.2
      refine Or.inl ⟨(ra_k6 R), vp_cst (ra_l6 R) H.1, ?_⟩
      replace H := H.2
      refine And.intro R.1 ?_
      refine Or.inl ⟨_, (ra_r11 R), ?_⟩
      refine Or.inl ⟨(ra_k11 R), vp_cst (ra_l11 R) H.1, ?_⟩
      replace H := H.2
      exact At.keep [0, 3, 4] H
  · replace H := H.2 c
    refine And.intro (fun c => ?_) (fun c => ?_)
    · replace H := H.1 c
      exact H
    · replace H := H.2 c
      refine And.intro R.1 ?_
      refine Or.inl ⟨_, (ra_r41 R), ?_⟩
      refine ⟨(Or.inr (ra_k41 R)), vp_cst (ra_l41 R) H.1, ?_⟩
      replace H := H.2
      refine And.intro (fun c => ?_) (fun c => ?_)
      · replace H := H.1 c
        exact H
      · replace H := H.2 c
        refine And.intro (Nat.le_of_ble_eq_true rfl) ?_
        refine And.intro (Nat.le_of_ble_eq_true rfl) (And.intro R.1 ?_)
        refine Cl.mono H (fun r M7 h => ?_)
        obtain ⟨v8, rfl, H⟩ := h
        obtain ⟨R, H⟩ := H
        refine And.intro (fun c => ?_) (fun c => ?_)
        · replace H := H.1 c
          exact H
        · replace H := H.2 c
          exact H

theorem r_stepCost {G : GT} {d m : Nat} {M : Mem} (R : RefAt M m) {a1 : Int32} {a2 : Int32} {a3 : Int32} {Q : Int32 → Mem → Prop} (H : ((vi M m 57) ≤ a2 → At G (d + 1) 252 22 [(0, .ref m), (1, .int a1), (2, .int a2), (3, .int a3)] [] M (qI Q)) ∧ (¬ (vi M m 57) ≤ a2 → vp_in (1 : Int32) 3 ∧ (((vi M (m + 1) ((1 : Int32)).toNatClampNeg) ≤ a3 → At G (d + 1) 252 22 [(0, .ref m), (1, .int a1), (2, .int a2), (3, .int a3)] [] M (qI Q)) ∧ (¬ (vi M (m + 1) ((1 : Int32)).toNatClampNeg) ≤ a3 → At G (d + 1) 252 23 [(0, .ref m), (1, .int a1), (2, .int a2), (3, .int a3)] [.int (1 : Int32)] M (qI Q))))) : CI G (d + 1) 252 [.ref m, .int a1, .int a2, .int a3] M Q := by
  refine Cl.ofM (Nat.le_of_ble_eq_true rfl) rfl ?_
  refine vcc ok252 0 [22, 23, 80, 81, 100, 121, 166, 167, 212, 213] ?_
  refine And.intro R.1 ?_
  refine And.intro (fun c => ?_) (fun c => ?_)
  · replace H := H.1 c
    exact H
  · replace H := H.2 c
    refine And.intro R.1 ?_
    refine Or.inl ⟨_, (ra_r1 R), ?_⟩
    refine Or.inl ⟨(ra_k1 R), vp_cst (ra_l1 R) H.1, ?_⟩
    replace H := H.2
    refine And.intro (fun c => ?_) (fun c => ?_)
    · replace H := H.1 c
      exact H
    · replace H := H.2 c
      exact H

theorem r_stepCost_22 {G : GT} {d m : Nat} {M : Mem} (R : RefAt M m) {l1 : Int32} {l2 : Int32} {l3 : Int32} {Q : Int32 → Mem → Prop} (H : At G (d + 1) 252 23 [(0, .ref m), (1, .int l1), (2, .int l2), (3, .int l3)] [.int (0 : Int32)] M (qI Q)) : At G (d + 1) 252 22 [(0, .ref m), (1, .int l1), (2, .int l2), (3, .int l3)] [] M (qI Q) := by
  refine vcc ok252 12 [23, 80, 81, 100, 121, 166, 167, 212, 213] ?_
  exact H

theorem r_stepCost_23 {G : GT} {d m : Nat} {M : Mem} (R : RefAt M m) {l1 : Int32} {l2 : Int32} {l3 : Int32} {t0 : Int32} {Q : Int32 → Mem → Prop} (H : ((l1).toInt < 0 ∨ 3 < (l1).toInt → (t0 = 0 → At G (d + 1) 252 212 [] [] M (qI Q)) ∧ (¬ t0 = 0 → vp_in l2 200 ∧ (CI G d 233 [.int (vi M (m + 41) (l2).toNatClampNeg)] M (fun v2 M1 => RefAt M1 m ∧ ((v2 = 0 → At G (d + 1) 252 212 [] [] M1 (qI Q)) ∧ (¬ v2 = 0 → vp_in l2 200 ∧ (vp_in l3 200 ∧ ((¬ ((vi M1 (m + 41) (l2).toNatClampNeg) + (32 : Int32)) = (vi M1 (m + 3) (l3).toNatClampNeg) → At G (d + 1) 252 212 [] [] M1 (qI Q)) ∧ (((vi M1 (m + 41) (l2).toNatClampNeg) + (32 : Int32)) = (vi M1 (m + 3) (l3).toNatClampNeg) → vp_in (3 : Int32) 7 ∧ (At G (d + 1) 252 213 [] [.int (vi M1 (m + 6) ((3 : Int32)).toNatClampNeg)] M1 (qI Q))))))))))) ∧ ((l1).toInt = 0 → (t0 = 0 → At G (d + 1) 252 80 [] [] M (qI Q)) ∧ (¬ t0 = 0 → vp_in l2 200 ∧ (vp_in l3 200 ∧ ((¬ (vi M (m + 41) (l2).toNatClampNeg) = (vi M (m + 3) (l3).toNatClampNeg) → At G (d + 1) 252 80 [] [] M (qI Q)) ∧ ((vi M (m + 41) (l2).toNatClampNeg) = (vi M (m + 3) (l3).toNatClampNeg) → At G (d + 1) 252 81 [] [.int (0 : Int32)] M (qI Q)))))) ∧ ((l1).toInt = 1 → ((vi M m 57) ≤ l2 → At G (d + 1) 252 100 [] [.int (-1 : Int32)] M (qI Q)) ∧ (¬ (vi M m 57) ≤ l2 → vp_in (1 : Int32) 7 ∧ (At G (d + 1) 252 100 [] [.int (vi M (m + 6) ((1 : Int32)).toNatClampNeg)] M (qI Q)))) ∧ ((l1).toInt = 2 → vp_in (1 : Int32) 3 ∧ (((vi M (m + 1) ((1 : Int32)).toNatClampNeg) ≤ l3 → At G (d + 1) 252 121 [] [.int (-1 : Int32)] M (qI Q)) ∧ (¬ (vi M (m + 1) ((1 : Int32)).toNatClampNeg) ≤ l3 → vp_in (0 : Int32) 7 ∧ (At G (d + 1) 252 121 [] [.int (vi M (m + 6) ((0 : Int32)).toNatClampNeg)] M (qI Q))))) ∧ ((l1).toInt = 3 → (t0 = 0 → At G (d + 1) 252 166 [] [] M (qI Q)) ∧ (¬ t0 = 0 → vp_in l2 200 ∧ (CI G d 232 [.int (vi M (m + 41) (l2).toNatClampNeg)] M (fun v4 M3 => RefAt M3 m ∧ ((v4 = 0 → At G (d + 1) 252 166 [] [] M3 (qI Q)) ∧ (¬ v4 = 0 → vp_in l2 200 ∧ (vp_in l3 200 ∧ ((¬ ((vi M3 (m + 41) (l2).toNatClampNeg) - (32 : Int32)) = (vi M3 (m + 3) (l3).toNatClampNeg) → At G (d + 1) 252 166 [] [] M3 (qI Q)) ∧ (((vi M3 (m + 41) (l2).toNatClampNeg) - (32 : Int32)) = (vi M3 (m + 3) (l3).toNatClampNeg) → vp_in (2 : Int32) 7 ∧ (At G (d + 1) 252 167 [] [.int (vi M3 (m + 6) ((2 : Int32)).toNatClampNeg)] M3 (qI Q))))))))))) ∧ True) : At G (d + 1) 252 23 [(0, .ref m), (1, .int l1), (2, .int l2), (3, .int l3)] [.int t0] M (qI Q) := by
  refine vcc ok252 13 [22, 80, 81, 100, 121, 166, 167, 212, 213] ?_
  refine And.intro (fun c => ?_) ?_
  · replace H := H.1 c
    refine And.intro (fun c => ?_) (fun c => ?_)
    · replace H := H.1 c
      exact At.keep [] H
    · replace H := H.2 c
      refine And.intro R.1 ?_
      refine Or.inl ⟨_, (ra_r56 R), ?_⟩
      refine Or.inl ⟨(ra_k56 R), vp_cst (ra_l56 R) H.1, ?_⟩
      replace H := H.2
      refine And.intro (Nat.le_of_ble_eq_true rfl) ?_
      refine And.intro (Nat.le_of_ble_eq_true rfl) ?_
      refine Cl.mono H (fun r M1 h => ?_)
      obtain ⟨v2, rfl, H⟩ := h
      obtain ⟨R, H⟩ := H
      refine And.intro (fun c => ?_) (fun c => ?_)
      · replace H := H.1 c
        exact At.keep [] H
      · replace H := H.2 c
        refine And.intro R.1 ?_
        refine Or.inl ⟨_, (ra_r56 R), ?_⟩
        refine Or.inl ⟨(ra_k56 R), vp_cst (ra_l56 R) H.1, ?_⟩
        replace H := H.2
        refine And.intro R.1 ?_
        refine Or.inl ⟨_, (ra_r3 R), ?_⟩
        refine Or.inl ⟨(ra_k3 R), vp_cst (ra_l3 R) H.1, ?_⟩
        replace H := H.2
        refine And.intro (fun c => ?_) (fun c => ?_)
        · replace H := H.1 c
          exact At.keep [] H
        · replace H := H.2 c
          refine And.intro R.1 ?_
          refine Or.inl ⟨_, (ra_r6 R), ?_⟩
          refine Or.inl ⟨(ra_k6 R), vp_cst (ra_l6 R) H.1, ?_⟩
          replace H := H.2
          exact At.keep [] H
  replace H := H.2
  refine And.intro (fun c => ?_) ?_
  · replace H := H.1 c
    refine And.intro (fun c => ?_) (fun c => ?_)
    · replace H := H.1 c
      exact At.keep [] H
    · replace H := H.2 c
      refine And.intro R.1 ?_
      refine Or.inl ⟨_, (ra_r56 R), ?_⟩
      refine Or.inl ⟨(ra_k56 R), vp_cst (ra_l56 R) H.1, ?_⟩
      replace H := H.2
      refine And.intro R.1 ?_
      refine Or.inl ⟨_, (ra_r3 R), ?_⟩
      refine Or.inl ⟨(ra_k3 R), vp_cst (ra_l3 R) H.1, ?_⟩
      replace H := H.2
      refine And.intro (fun c => ?_) (fun c => ?_)
      · replace H := H.1 c
        exact At.keep [] H
      · replace H := H.2 c
        exact At.keep [] H
  replace H := H.2
  refine And.intro (fun c => ?_) ?_
  · replace H := H.1 c
    refine And.intro R.1 ?_
    refine And.intro (fun c => ?_) (fun c => ?_)
    · replace H := H.1 c
      exact At.keep [] H
    · replace H := H.2 c
      refine And.intro R.1 ?_
      refine Or.inl ⟨_, (ra_r6 R), ?_⟩
      refine Or.inl ⟨(ra_k6 R), vp_cst (ra_l6 R) H.1, ?_⟩
      replace H := H.2
      exact At.keep [] H
  replace H := H.2
  refine And.intro (fun c => ?_) ?_
  · replace H := H.1 c
    refine And.intro R.1 ?_
    refine Or.inl ⟨_, (ra_r1 R), ?_⟩
    refine Or.inl ⟨(ra_k1 R), vp_cst (ra_l1 R) H.1, ?_⟩
    replace H := H.2
    refine And.intro (fun c => ?_) (fun c => ?_)
    · replace H := H.1 c
      exact At.keep [] H
    · replace H := H.2 c
      refine And.intro R.1 ?_
      refine Or.inl ⟨_, (ra_r6 R), ?_⟩
      refine Or.inl ⟨(ra_k6 R), vp_cst (ra_l6 R) H.1, ?_⟩
      replace H := H.2
      exact At.keep [] H
  replace H := H.2
  refine And.intro (fun c => ?_) ?_
  · replace H := H.1 c
    refine And.intro (fun c => ?_) (fun c => ?_)
    · replace H := H.1 c
      exact At.keep [] H
    · replace H := H.2 c
      refine And.intro R.1 ?_
      refine Or.inl ⟨_, (ra_r56 R), ?_⟩
      refine Or.inl ⟨(ra_k56 R), vp_cst (ra_l56 R) H.1, ?_⟩
      replace H := H.2
      refine And.intro (Nat.le_of_ble_eq_true rfl) ?_
      refine And.intro (Nat.le_of_ble_eq_true rfl) ?_
      refine Cl.mono H (fun r M3 h => ?_)
      obtain ⟨v4, rfl, H⟩ := h
      obtain ⟨R, H⟩ := H
      refine And.intro (fun c => ?_) (fun c => ?_)
      · replace H := H.1 c
        exact At.keep [] H
      · replace H := H.2 c
        refine And.intro R.1 ?_
        refine Or.inl ⟨_, (ra_r56 R), ?_⟩
        refine Or.inl ⟨(ra_k56 R), vp_cst (ra_l56 R) H.1, ?_⟩
        replace H := H.2
        refine And.intro R.1 ?_
        refine Or.inl ⟨_, (ra_r3 R), ?_⟩
        refine Or.inl ⟨(ra_k3 R), vp_cst (ra_l3 R) H.1, ?_⟩
        replace H := H.2
        refine And.intro (fun c => ?_) (fun c => ?_)
        · replace H := H.1 c
          exact At.keep [] H
        · replace H := H.2 c
          refine And.intro R.1 ?_
          refine Or.inl ⟨_, (ra_r6 R), ?_⟩
          refine Or.inl ⟨(ra_k6 R), vp_cst (ra_l6 R) H.1, ?_⟩
          replace H := H.2
          exact At.keep [] H
  replace H := H.2
  exact trivial

theorem r_stepCost_80 {G : GT} {d m : Nat} {M : Mem} (R : RefAt M m)  {Q : Int32 → Mem → Prop} (H : At G (d + 1) 252 81 [] [.int (-1 : Int32)] M (qI Q)) : At G (d + 1) 252 80 [] [] M (qI Q) := by
  refine vcc ok252 29 [22, 23, 81, 100, 121, 166, 167, 212, 213] ?_
  exact H

theorem r_stepCost_81 {G : GT} {d m : Nat} {M : Mem} (R : RefAt M m) {t0 : Int32} {Q : Int32 → Mem → Prop} (H : Q t0 M) : At G (d + 1) 252 81 [] [.int t0] M (qI Q) := by
  refine vcc ok252 30 [22, 23, 80, 100, 121, 166, 167, 212, 213] ?_
  exact ⟨fun h => absurd h (by decide), _, rfl, H⟩

theorem r_stepCost_100 {G : GT} {d m : Nat} {M : Mem} (R : RefAt M m) {t0 : Int32} {Q : Int32 → Mem → Prop} (H : Q t0 M) : At G (d + 1) 252 100 [] [.int t0] M (qI Q) := by
  refine vcc ok252 41 [22, 23, 80, 81, 121, 166, 167, 212, 213] ?_
  exact ⟨fun h => absurd h (by decide), _, rfl, H⟩

theorem r_stepCost_121 {G : GT} {d m : Nat} {M : Mem} (R : RefAt M m) {t0 : Int32} {Q : Int32 → Mem → Prop} (H : Q t0 M) : At G (d + 1) 252 121 [] [.int t0] M (qI Q) := by
  refine vcc ok252 54 [22, 23, 80, 81, 100, 166, 167, 212, 213] ?_
  exact ⟨fun h => absurd h (by decide), _, rfl, H⟩

theorem r_stepCost_166 {G : GT} {d m : Nat} {M : Mem} (R : RefAt M m)  {Q : Int32 → Mem → Prop} (H : At G (d + 1) 252 167 [] [.int (-1 : Int32)] M (qI Q)) : At G (d + 1) 252 166 [] [] M (qI Q) := by
  refine vcc ok252 79 [22, 23, 80, 81, 100, 121, 167, 212, 213] ?_
  exact H

theorem r_stepCost_167 {G : GT} {d m : Nat} {M : Mem} (R : RefAt M m) {t0 : Int32} {Q : Int32 → Mem → Prop} (H : Q t0 M) : At G (d + 1) 252 167 [] [.int t0] M (qI Q) := by
  refine vcc ok252 80 [22, 23, 80, 81, 100, 121, 166, 212, 213] ?_
  exact ⟨fun h => absurd h (by decide), _, rfl, H⟩

theorem r_stepCost_212 {G : GT} {d m : Nat} {M : Mem} (R : RefAt M m)  {Q : Int32 → Mem → Prop} (H : At G (d + 1) 252 213 [] [.int (-1 : Int32)] M (qI Q)) : At G (d + 1) 252 212 [] [] M (qI Q) := by
  refine vcc ok252 105 [22, 23, 80, 81, 100, 121, 166, 167, 213] ?_
  exact H

theorem r_stepCost_213 {G : GT} {d m : Nat} {M : Mem} (R : RefAt M m) {t0 : Int32} {Q : Int32 → Mem → Prop} (H : Q t0 M) : At G (d + 1) 252 213 [] [.int t0] M (qI Q) := by
  refine vcc ok252 106 [22, 23, 80, 81, 100, 121, 166, 167, 212] ?_
  exact ⟨fun h => absurd h (by decide), _, rfl, H⟩

theorem r_behind {G : GT} {d m : Nat} {M : Mem} (R : RefAt M m) {a1 : Int32} {a2 : Int32} {a3 : Int32} {Q : Int32 → Mem → Prop} (H : (¬ a1 = (2 : Int32) → (¬ a1 = (1 : Int32) → Q (((201 : Int32) * (a2 + (1 : Int32))) + (a3 + (1 : Int32))) M) ∧ (a1 = (1 : Int32) → Q (((201 : Int32) * (a2 + (1 : Int32))) + a3) M)) ∧ (a1 = (2 : Int32) → (¬ a1 = (1 : Int32) → Q (((201 : Int32) * a2) + (a3 + (1 : Int32))) M) ∧ (a1 = (1 : Int32) → Q (((201 : Int32) * a2) + a3) M))) : CI G (d + 1) 253 [.ref m, .int a1, .int a2, .int a3] M Q := by
  refine Cl.ofM (Nat.le_of_ble_eq_true rfl) rfl ?_
  refine vcc ok253 0 [] ?_
  refine And.intro (fun c => ?_) (fun c => ?_)
  · replace H := H.1 c
    refine And.intro (fun c => ?_) (fun c => ?_)
    · replace H := H.1 c
      exact ⟨fun h => absurd h (by decide), _, rfl, H⟩
    · replace H := H.2 c
      exact ⟨fun h => absurd h (by decide), _, rfl, H⟩
  · replace H := H.2 c
    refine And.intro (fun c => ?_) (fun c => ?_)
    · replace H := H.1 c
      exact ⟨fun h => absurd h (by decide), _, rfl, H⟩
    · replace H := H.2 c
      exact ⟨fun h => absurd h (by decide), _, rfl, H⟩

theorem r_edits {G : GT} {d m : Nat} {M : Mem} (R : RefAt M m)  {Q : Mem → Prop} (H : At G (d + 1) 254 5 [(0, .ref m), (1, .int (vi M m 57))] [] M (qV Q)) : CV G (d + 1) 254 [.ref m] M Q := by
  refine Cl.ofM (Nat.le_of_ble_eq_true rfl) rfl ?_
  refine vcc ok254 0 [5, 16, 47] ?_
  refine And.intro R.1 ?_
  exact H

theorem r_edits_5 {G : GT} {d m : Nat} {M : Mem} (R : RefAt M m) {l1 : Int32} {Q : Mem → Prop} (H : (l1 < 0 → Q M) ∧ (¬ l1 < 0 → vp_in (1 : Int32) 3 ∧ (At G (d + 1) 254 16 [(0, .ref m), (1, .int l1), (2, .int (vi M (m + 1) ((1 : Int32)).toNatClampNeg))] [] M (qV Q)))) : At G (d + 1) 254 5 [(0, .ref m), (1, .int l1)] [] M (qV Q) := by
  refine vcc ok254 3 [16, 47] ?_
  refine And.intro (fun c => ?_) (fun c => ?_)
  · replace H := H.1 c
    exact ⟨rfl, H⟩
  · replace H := H.2 c
    refine And.intro R.1 ?_
    refine Or.inl ⟨_, (ra_r1 R), ?_⟩
    refine Or.inl ⟨(ra_k1 R), vp_cst (ra_l1 R) H.1, ?_⟩
    replace H := H.2
    exact H

theorem r_edits_16 {G : GT} {d m : Nat} {M : Mem} (R : RefAt M m) {l1 : Int32} {l2 : Int32} {Q : Mem → Prop} (H : (l2 < 0 → At G (d + 1) 254 5 [(0, .ref m), (1, .int (l1 + (-1 : Int32)))] [] M (qV Q)) ∧ (¬ l2 < 0 → (¬ l1 = (vi M m 57) → At G (d + 1) 254 47 [(0, .ref m), (1, .int l1), (2, .int l2), (3, .int (-1 : Int32)), (4, .int (0 : Int32))] [] M (qV Q)) ∧ (l1 = (vi M m 57) → vp_in (1 : Int32) 3 ∧ ((¬ l2 = (vi M (m + 1) ((1 : Int32)).toNatClampNeg) → At G (d + 1) 254 47 [(0, .ref m), (1, .int l1), (2, .int l2), (3, .int (-1 : Int32)), (4, .int (0 : Int32))] [] M (qV Q)) ∧ (l2 = (vi M (m + 1) ((1 : Int32)).toNatClampNeg) → At G (d + 1) 254 47 [(0, .ref m), (1, .int l1), (2, .int l2), (3, .int (0 : Int32)), (4, .int (0 : Int32))] [] M (qV Q)))))) : At G (d + 1) 254 16 [(0, .ref m), (1, .int l1), (2, .int l2)] [] M (qV Q) := by
  refine vcc ok254 10 [5, 47] ?_
  refine And.intro (fun c => ?_) (fun c => ?_)
  · replace H := H.1 c
    exact At.keep [0, 1] H
  · replace H := H.2 c
    refine And.intro R.1 ?_
    refine And.intro (fun c => ?_) (fun c => ?_)
    · replace H := H.1 c
      exact H
    · replace H := H.2 c
      refine And.intro R.1 ?_
      refine Or.inl ⟨_, (ra_r1 R), ?_⟩
      refine Or.inl ⟨(ra_k1 R), vp_cst (ra_l1 R) H.1, ?_⟩
      replace H := H.2
      refine And.intro (fun c => ?_) (fun c => ?_)
      · replace H := H.1 c
        exact H
      · replace H := H.2 c
        exact H

theorem r_edits_47 {G : GT} {d m : Nat} {M : Mem} (R : RefAt M m) {l1 : Int32} {l2 : Int32} {l3 : Int32} {l4 : Int32} {Q : Mem → Prop} (H : ((5 : Int32) ≤ l4 → vp_in (((201 : Int32) * l1) + l2) 40401 ∧ (∀ M1, M1 = seti M (m + 40) ((((201 : Int32) * l1) + l2)).toNatClampNeg l3 → At G (d + 1) 254 16 [(0, .ref m), (1, .int l1), (2, .int (l2 + (-1 : Int32)))] [] M1 (qV Q))) ∧ (¬ (5 : Int32) ≤ l4 → CI G d 252 [.ref m, .int l4, .int l1, .int l2] M (fun v3 M2 => RefAt M2 m ∧ ((v3 = (-1 : Int32) → At G (d + 1) 254 47 [(0, .ref m), (1, .int l1), (2, .int l2), (3, .int l3), (4, .int (l4 + (1 : Int32)))] [] M2 (qV Q)) ∧ (¬ v3 = (-1 : Int32) → (l3 = (-1 : Int32) → CI G d 253 [.ref m, .int l4, .int l1, .int l2] M2 (fun v5 M4 => RefAt M4 m ∧ (vp_in v5 40401 ∧ (At G (d + 1) 254 47 [(0, .ref m), (1, .int l1), (2, .int l2), (3, .int (v3 + (vi M4 (m + 40) (v5).toNatClampNeg))), (4, .int (l4 + (1 : Int32)))] [] M4 (qV Q))))) ∧ (¬ l3 = (-1 : Int32) → CI G d 253 [.ref m, .int l4, .int l1, .int l2] M2 (fun v7 M6 => RefAt M6 m ∧ (vp_in v7 40401 ∧ ((l3 ≤ (v3 + (vi M6 (m + 40) (v7).toNatClampNeg)) → At G (d + 1) 254 47 [(0, .ref m), (1, .int l1), (2, .int l2), (3, .int l3), (4, .int (l4 + (1 : Int32)))] [] M6 (qV Q)) ∧ (¬ l3 ≤ (v3 + (vi M6 (m + 40) (v7).toNatClampNeg)) → CI G d 253 [.ref m, .int l4, .int l1, .int l2] M6 (fun v9 M8 => RefAt M8 m ∧ (vp_in v9 40401 ∧ (At G (d + 1) 254 47 [(0, .ref m), (1, .int l1), (2, .int l2), (3, .int (v3 + (vi M8 (m + 40) (v9).toNatClampNeg))), (4, .int (l4 + (1 : Int32)))] [] M8 (qV Q)))))))))))))) : At G (d + 1) 254 47 [(0, .ref m), (1, .int l1), (2, .int l2), (3, .int l3), (4, .int l4)] [] M (qV Q) := by
  refine vcc ok254 28 [5, 16] ?_
  refine And.intro (fun c => ?_) (fun c => ?_)
  · replace H := H.1 c
    refine And.intro R.1 ?_
    refine Or.inl ⟨_, (ra_r55 R), ?_⟩
    refine ⟨(ra_k55 R), vp_cst (ra_l55 R) H.1, ?_⟩
    replace H := H.2
    replace H := H _ rfl
    exact At.keep [0, 1, 2] H
  · replace H := H.2 c
    refine And.intro (Nat.le_of_ble_eq_true rfl) ?_
    refine And.intro (Nat.le_of_ble_eq_true rfl) (And.intro R.1 ?_)
    refine Cl.mono H (fun r M2 h => ?_)
    obtain ⟨v3, rfl, H⟩ := h
    obtain ⟨R, H⟩ := H
    refine And.intro (fun c => ?_) (fun c => ?_)
    · replace H := H.1 c
      exact At.keep [0, 1, 2, 3, 4] H
    · replace H := H.2 c
      refine And.intro (fun c => ?_) (fun c => ?_)
      · replace H := H.1 c
        refine And.intro R.1 ?_
        refine Or.inl ⟨_, (ra_r55 R), ?_⟩
        refine And.intro (Nat.le_of_ble_eq_true rfl) ?_
        refine And.intro (Nat.le_of_ble_eq_true rfl) (And.intro R.1 ?_)
        refine Cl.mono H (fun r M4 h => ?_)
        obtain ⟨v5, rfl, H⟩ := h
        obtain ⟨R, H⟩ := H
        refine Or.inl ⟨(ra_k55 R), vp_cst (ra_l55 R) H.1, ?_⟩
        replace H := H.2
        exact At.keep [0, 1, 2, 3, 4] H
      · replace H := H.2 c
        refine And.intro R.1 ?_
        refine Or.inl ⟨_, (ra_r55 R), ?_⟩
        refine And.intro (Nat.le_of_ble_eq_true rfl) ?_
        refine And.intro (Nat.le_of_ble_eq_true rfl) (And.intro R.1 ?_)
        refine Cl.mono H (fun r M6 h => ?_)
        obtain ⟨v7, rfl, H⟩ := h
        obtain ⟨R, H⟩ := H
        refine Or.inl ⟨(ra_k55 R), vp_cst (ra_l55 R) H.1, ?_⟩
        replace H := H.2
        refine And.intro (fun c => ?_) (fun c => ?_)
        · replace H := H.1 c
          exact At.keep [0, 1, 2, 3, 4] H
        · replace H := H.2 c
          refine And.intro R.1 ?_
          refine Or.inl ⟨_, (ra_r55 R), ?_⟩
          refine And.intro (Nat.le_of_ble_eq_true rfl) ?_
          refine And.intro (Nat.le_of_ble_eq_true rfl) (And.intro R.1 ?_)
          refine Cl.mono H (fun r M8 h => ?_)
          obtain ⟨v9, rfl, H⟩ := h
          obtain ⟨R, H⟩ := H
          refine Or.inl ⟨(ra_k55 R), vp_cst (ra_l55 R) H.1, ?_⟩
          replace H := H.2
          exact At.keep [0, 1, 2, 3, 4] H

theorem r_edit {G : GT} {d m : Nat} {M : Mem} (R : RefAt M m) {a1 : Int32} {Q : Int32 → Mem → Prop} (H : ((-2 : Int32) ≤ a1 → vp_in (0 : Int32) 3 ∧ (∀ M1, M1 = seti M m 57 (vi M (m + 1) ((0 : Int32)).toNatClampNeg) → At G (d + 1) 255 20 [(0, .ref m), (1, .int a1), (2, .int (0 : Int32))] [] M1 (qI Q))) ∧ (¬ (-2 : Int32) ≤ a1 → Q (-1 : Int32) M)) : CI G (d + 1) 255 [.ref m, .int a1] M Q := by
  refine Cl.ofM (Nat.le_of_ble_eq_true rfl) rfl ?_
  refine vcc ok255 0 [20, 69, 90] ?_
  refine And.intro (fun c => ?_) (fun c => ?_)
  · replace H := H.1 c
    refine And.intro R.1 ?_
    refine Or.inl ⟨_, (ra_r1 R), ?_⟩
    refine Or.inl ⟨(ra_k1 R), vp_cst (ra_l1 R) H.1, ?_⟩
    replace H := H.2
    refine And.intro R.1 ?_
    refine And.intro (Or.inl rfl) (And.intro (fun h => absurd h (by decide)) ?_)
    replace H := H _ rfl
    exact H
  · replace H := H.2 c
    exact ⟨fun h => absurd h (by decide), _, rfl, H⟩

theorem r_edit_20 {G : GT} {d m : Nat} {M : Mem} (R : RefAt M m) {l1 : Int32} {l2 : Int32} {Q : Int32 → Mem → Prop} (H : ((vi M m 57) ≤ l2 → CV G d 254 [.ref m] M (fun M2 => RefAt M2 m ∧ ((¬ l1 = (-1 : Int32) → At G (d + 1) 255 69 [(0, .ref m), (1, .int l1), (2, .int (0 : Int32)), (3, .int (0 : Int32)), (4, .int (0 : Int32))] [] M2 (qI Q)) ∧ (l1 = (-1 : Int32) → vp_in (0 : Int32) 40401 ∧ (Q (vi M2 (m + 40) ((0 : Int32)).toNatClampNeg) M2))))) ∧ (¬ (vi M m 57) ≤ l2 → vp_in l2 200 ∧ (vp_in l2 200 ∧ (∀ M3, M3 = seti M (m + 41) (l2).toNatClampNeg (vi M (m + 2) (l2).toNatClampNeg) → At G (d + 1) 255 20 [(0, .ref m), (1, .int l1), (2, .int (l2 + (1 : Int32)))] [] M3 (qI Q))))) : At G (d + 1) 255 20 [(0, .ref m), (1, .int l1), (2, .int l2)] [] M (qI Q) := by
  refine vcc ok255 13 [69, 90] ?_
  refine And.intro R.1 ?_
  refine And.intro (fun c => ?_) (fun c => ?_)
  · replace H := H.1 c
    refine And.intro (Nat.le_of_ble_eq_true rfl) ?_
    refine And.intro (Nat.le_of_ble_eq_true rfl) (And.intro R.1 ?_)
    refine Cl.mono H (fun r M2 h => ?_)
    obtain ⟨rfl, H⟩ := h
    obtain ⟨R, H⟩ := H
    refine And.intro (fun c => ?_) (fun c => ?_)
    · replace H := H.1 c
      exact H
    · replace H := H.2 c
      refine And.intro R.1 ?_
      refine Or.inl ⟨_, (ra_r55 R), ?_⟩
      refine Or.inl ⟨(ra_k55 R), vp_cst (ra_l55 R) H.1, ?_⟩
      replace H := H.2
      exact ⟨fun h => absurd h (by decide), _, rfl, H⟩
  · replace H := H.2 c
    refine And.intro R.1 ?_
    refine Or.inl ⟨_, (ra_r56 R), ?_⟩
    refine And.intro R.1 ?_
    refine Or.inl ⟨_, (ra_r2 R), ?_⟩
    refine Or.inl ⟨(ra_k2 R), vp_cst (ra_l2 R) H.1, ?_⟩
    replace H := H.2
    refine ⟨(ra_k56 R), vp_cst (ra_l56 R) H.1, ?_⟩
    replace H := H.2
    replace H := H _ rfl
    exact H

theorem r_edit_69 {G : GT} {d m : Nat} {M : Mem} (R : RefAt M m) {l1 : Int32} {l2 : Int32} {l3 : Int32} {l4 : Int32} {Q : Int32 → Mem → Prop} (H : (l2 < (vi M m 57) → At G (d + 1) 255 90 [(0, .ref m), (1, .int l1), (2, .int l2), (3, .int l3), (4, .int l4), (5, .int (0 : Int32))] [] M (qI Q)) ∧ (¬ l2 < (vi M m 57) → vp_in (1 : Int32) 3 ∧ (((vi M (m + 1) ((1 : Int32)).toNatClampNeg) ≤ l3 → (¬ l1 = (-2 : Int32) → Q (-1 : Int32) M) ∧ (l1 = (-2 : Int32) → Q l4 M)) ∧ (¬ (vi M (m + 1) ((1 : Int32)).toNatClampNeg) ≤ l3 → At G (d + 1) 255 90 [(0, .ref m), (1, .int l1), (2, .int l2), (3, .int l3), (4, .int l4), (5, .int (0 : Int32))] [] M (qI Q))))) : At G (d + 1) 255 69 [(0, .ref m), (1, .int l1), (2, .int l2), (3, .int l3), (4, .int l4)] [] M (qI Q) := by
  refine vcc ok255 43 [20, 90] ?_
  refine And.intro R.1 ?_
  refine And.intro (fun c => ?_) (fun c => ?_)
  · replace H := H.1 c
    exact H
  · replace H := H.2 c
    refine And.intro R.1 ?_
    refine Or.inl ⟨_, (ra_r1 R), ?_⟩
    refine Or.inl ⟨(ra_k1 R), vp_cst (ra_l1 R) H.1, ?_⟩
    replace H := H.2
    refine And.intro (fun c => ?_) (fun c => ?_)
    · replace H := H.1 c
      refine And.intro (fun c => ?_) (fun c => ?_)
      · replace H := H.1 c
        exact ⟨fun h => absurd h (by decide), _, rfl, H⟩
      · replace H := H.2 c
        exact ⟨fun h => absurd h (by decide), _, rfl, H⟩
    · replace H := H.2 c
      exact H

theorem r_edit_90 {G : GT} {d m : Nat} {M : Mem} (R : RefAt M m) {l1 : Int32} {l2 : Int32} {l3 : Int32} {l4 : Int32} {l5 : Int32} {Q : Int32 → Mem → Prop} (H : CI G d 252 [.ref m, .int l5, .int l2, .int l3] M (fun v5 M4 => RefAt M4 m ∧ ((v5 = (-1 : Int32) → At G (d + 1) 255 90 [(0, .ref m), (1, .int l1), (2, .int l2), (3, .int l3), (4, .int l4), (5, .int (l5 + (1 : Int32)))] [] M4 (qI Q)) ∧ (¬ v5 = (-1 : Int32) → CI G d 252 [.ref m, .int l5, .int l2, .int l3] M4 (fun v7 M6 => RefAt M6 m ∧ (CI G d 253 [.ref m, .int l5, .int l2, .int l3] M6 (fun v9 M8 => RefAt M8 m ∧ (vp_in v9 40401 ∧ (vp_in (((201 : Int32) * l2) + l3) 40401 ∧ (((v7 + (vi M8 (m + 40) (v9).toNatClampNeg)) = (vi M8 (m + 40) ((((201 : Int32) * l2) + l3)).toNatClampNeg) → (¬ l4 = l1 → (¬ l5 = (2 : Int32) → (¬ l5 = (1 : Int32) → At G (d + 1) 255 69 [(0, .ref m), (1, .int l1), (2, .int (l2 + (1 : Int32))), (3, .int (l3 + (1 : Int32))), (4, .int (l4 + (1 : Int32)))] [] M8 (qI Q)) ∧ (l5 = (1 : Int32) → At G (d + 1) 255 69 [(0, .ref m), (1, .int l1), (2, .int (l2 + (1 : Int32))), (3, .int (l3 + (0 : Int32))), (4, .int (l4 + (1 : Int32)))] [] M8 (qI Q))) ∧ (l5 = (2 : Int32) → (¬ l5 = (1 : Int32) → At G (d + 1) 255 69 [(0, .ref m), (1, .int l1), (2, .int (l2 + (0 : Int32))), (3, .int (l3 + (1 : Int32))), (4, .int (l4 + (1 : Int32)))] [] M8 (qI Q)) ∧ (l5 = (1 : Int32) → At G (d + 1) 255 69 [(0, .ref m), (1, .int l1), (2, .int (l2 + (0 : Int32))), (3, .int (l3 + (0 : Int32))), (4, .int (l4 + (1 : Int32)))] [] M8 (qI Q)))) ∧ (l4 = l1 → Q l5 M8)) ∧ (¬ (v7 + (vi M8 (m + 40) (v9).toNatClampNeg)) = (vi M8 (m + 40) ((((201 : Int32) * l2) + l3)).toNatClampNeg) → At G (d + 1) 255 90 [(0, .ref m), (1, .int l1), (2, .int l2), (3, .int l3), (4, .int l4), (5, .int (l5 + (1 : Int32)))] [] M8 (qI Q)))))))))))) : At G (d + 1) 255 90 [(0, .ref m), (1, .int l1), (2, .int l2), (3, .int l3), (4, .int l4), (5, .int l5)] [] M (qI Q) := by
  refine vcc ok255 55 [20, 69] ?_
  refine And.intro (Nat.le_of_ble_eq_true rfl) ?_
  refine And.intro (Nat.le_of_ble_eq_true rfl) (And.intro R.1 ?_)
  refine Cl.mono H (fun r M4 h => ?_)
  obtain ⟨v5, rfl, H⟩ := h
  obtain ⟨R, H⟩ := H
  refine And.intro (fun c => ?_) (fun c => ?_)
  · replace H := H.1 c
    exact H
  · replace H := H.2 c
    refine And.intro (Nat.le_of_ble_eq_true rfl) ?_
    refine And.intro (Nat.le_of_ble_eq_true rfl) (And.intro R.1 ?_)
    refine Cl.mono H (fun r M6 h => ?_)
    obtain ⟨v7, rfl, H⟩ := h
    obtain ⟨R, H⟩ := H
    refine And.intro R.1 ?_
    refine Or.inl ⟨_, (ra_r55 R), ?_⟩
    refine And.intro (Nat.le_of_ble_eq_true rfl) ?_
    refine And.intro (Nat.le_of_ble_eq_true rfl) (And.intro R.1 ?_)
    refine Cl.mono H (fun r M8 h => ?_)
    obtain ⟨v9, rfl, H⟩ := h
    obtain ⟨R, H⟩ := H
    refine Or.inl ⟨(ra_k55 R), vp_cst (ra_l55 R) H.1, ?_⟩
    replace H := H.2
    refine And.intro R.1 ?_
    refine Or.inl ⟨_, (ra_r55 R), ?_⟩
    refine Or.inl ⟨(ra_k55 R), vp_cst (ra_l55 R) H.1, ?_⟩
    replace H := H.2
    refine And.intro (fun c => ?_) (fun c => ?_)
    · replace H := H.1 c
      refine And.intro (fun c => ?_) (fun c => ?_)
      · replace H := H.1 c
        refine And.intro (fun c => ?_) (fun c => ?_)
        · replace H := H.1 c
          refine And.intro (fun c => ?_) (fun c => ?_)
          · replace H := H.1 c
            exact At.keep [0, 1, 2, 3, 4] H
          · replace H := H.2 c
            exact At.keep [0, 1, 2, 3, 4] H
        · replace H := H.2 c
          refine And.intro (fun c => ?_) (fun c => ?_)
          · replace H := H.1 c
            exact At.keep [0, 1, 2, 3, 4] H
          · replace H := H.2 c
            exact At.keep [0, 1, 2, 3, 4] H
      · replace H := H.2 c
        exact ⟨fun h => absurd h (by decide), _, rfl, H⟩
    · replace H := H.2 c
      exact H
