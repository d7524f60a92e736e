/-! THE REFERENCE, block by block: by program (wip/tools/refall.py) -/
theorem r_basesMoved {G : GT} {d m : Nat} {M : Mem} (R : RefAt M m) {a1 : Int32} {a2 : Int32} {a3 : Int32} {Q : Mem → Prop} (H : At G (d + 1) 256 6 [(0, .ref m), (1, .int a1), (2, .int a2), (3, .int a3), (4, .int (0 : Int32)), (5, .int (0 : Int32))] [] M (qV Q)) : CV G (d + 1) 256 [.ref m, .int a1, .int a2, .int a3] M Q := by
  refine Cl.ofM (Nat.le_of_ble_eq_true rfl) rfl ?_
  refine vcc ok256 0 [6, 20] ?_
  exact H

theorem r_basesMoved_6 {G : GT} {d m : Nat} {M : Mem} (R : RefAt M m) {l1 : Int32} {l2 : Int32} {l3 : Int32} {l4 : Int32} {l5 : Int32} {Q : Mem → Prop} (H : vp_in (0 : Int32) 3 ∧ (((vi M (m + 1) ((0 : Int32)).toNatClampNeg) < l5 → ∀ M1, M1 = seti M m 57 l4 → Q M1) ∧ (¬ (vi M (m + 1) ((0 : Int32)).toNatClampNeg) < l5 → At G (d + 1) 256 20 [(0, .ref m), (1, .int l1), (2, .int l2), (3, .int l3), (4, .int l4), (5, .int l5), (6, .int l1)] [] M (qV Q)))) : At G (d + 1) 256 6 [(0, .ref m), (1, .int l1), (2, .int l2), (3, .int l3), (4, .int l4), (5, .int l5)] [] M (qV Q) := by
  refine vcc ok256 4 [20] ?_
  refine And.intro R.1 ?_
  refine Or.inl ⟨_, (ra_r1 R), ?_⟩
  refine Or.inl ⟨(ra_k1 R), vp_cst (ra_l1 R) H.1, ?_⟩
  replace H := H.2
  refine And.intro (fun c => ?_) (fun c => ?_)
  · replace H := H.1 c
    refine And.intro R.1 ?_
    refine And.intro (Or.inl rfl) (And.intro (fun h => absurd h (by decide)) ?_)
    replace H := H _ rfl
    exact ⟨rfl, H⟩
  · replace H := H.2 c
    exact H

theorem r_basesMoved_20 {G : GT} {d m : Nat} {M : Mem} (R : RefAt M m) {l1 : Int32} {l2 : Int32} {l3 : Int32} {l4 : Int32} {l5 : Int32} {l6 : Int32} {Q : Mem → Prop} (H : (l2 ≤ l6 → vp_in (0 : Int32) 3 ∧ (((vi M (m + 1) ((0 : Int32)).toNatClampNeg) ≤ l5 → At G (d + 1) 256 6 [(0, .ref m), (1, .int l1), (2, .int l2), (3, .int l3), (4, .int l4), (5, .int (l5 + (1 : Int32)))] [] M (qV Q)) ∧ (¬ (vi M (m + 1) ((0 : Int32)).toNatClampNeg) ≤ l5 → (l5 < l1 → vp_in l5 200 ∧ (vp_in l4 200 ∧ (∀ M2, M2 = seti M (m + 41) (l4).toNatClampNeg (vi M (m + 2) (l5).toNatClampNeg) → At G (d + 1) 256 6 [(0, .ref m), (1, .int l1), (2, .int l2), (3, .int l3), (4, .int (l4 + (1 : Int32))), (5, .int (l5 + (1 : Int32)))] [] M2 (qV Q)))) ∧ (¬ l5 < l1 → (l5 < l2 → At G (d + 1) 256 6 [(0, .ref m), (1, .int l1), (2, .int l2), (3, .int l3), (4, .int l4), (5, .int (l5 + (1 : Int32)))] [] M (qV Q)) ∧ (¬ l5 < l2 → vp_in l5 200 ∧ (vp_in l4 200 ∧ (∀ M3, M3 = seti M (m + 41) (l4).toNatClampNeg (vi M (m + 2) (l5).toNatClampNeg) → At G (d + 1) 256 6 [(0, .ref m), (1, .int l1), (2, .int l2), (3, .int l3), (4, .int (l4 + (1 : Int32))), (5, .int (l5 + (1 : Int32)))] [] M3 (qV Q)))))))) ∧ (¬ l2 ≤ l6 → (¬ l5 = l3 → vp_in (0 : Int32) 3 ∧ (((vi M (m + 1) ((0 : Int32)).toNatClampNeg) ≤ l5 → At G (d + 1) 256 6 [(0, .ref m), (1, .int l1), (2, .int l2), (3, .int l3), (4, .int l4), (5, .int (l5 + (1 : Int32)))] [] M (qV Q)) ∧ (¬ (vi M (m + 1) ((0 : Int32)).toNatClampNeg) ≤ l5 → (l5 < l1 → vp_in l5 200 ∧ (vp_in l4 200 ∧ (∀ M4, M4 = seti M (m + 41) (l4).toNatClampNeg (vi M (m + 2) (l5).toNatClampNeg) → At G (d + 1) 256 6 [(0, .ref m), (1, .int l1), (2, .int l2), (3, .int l3), (4, .int (l4 + (1 : Int32))), (5, .int (l5 + (1 : Int32)))] [] M4 (qV Q)))) ∧ (¬ l5 < l1 → (l5 < l2 → At G (d + 1) 256 6 [(0, .ref m), (1, .int l1), (2, .int l2), (3, .int l3), (4, .int l4), (5, .int (l5 + (1 : Int32)))] [] M (qV Q)) ∧ (¬ l5 < l2 → vp_in l5 200 ∧ (vp_in l4 200 ∧ (∀ M5, M5 = seti M (m + 41) (l4).toNatClampNeg (vi M (m + 2) (l5).toNatClampNeg) → At G (d + 1) 256 6 [(0, .ref m), (1, .int l1), (2, .int l2), (3, .int l3), (4, .int (l4 + (1 : Int32))), (5, .int (l5 + (1 : Int32)))] [] M5 (qV Q)))))))) ∧ (l5 = l3 → vp_in l6 200 ∧ (vp_in l4 200 ∧ (∀ M6, M6 = seti M (m + 41) (l4).toNatClampNeg (vi M (m + 2) (l6).toNatClampNeg) → At G (d + 1) 256 20 [(0, .ref m), (1, .int l1), (2, .int l2), (3, .int l3), (4, .int (l4 + (1 : Int32))), (5, .int l5), (6, .int (l6 + (1 : Int32)))] [] M6 (qV Q)))))) : At G (d + 1) 256 20 [(0, .ref m), (1, .int l1), (2, .int l2), (3, .int l3), (4, .int l4), (5, .int l5), (6, .int l6)] [] M (qV Q) := by
  refine vcc ok256 12 [6] ?_
  refine And.intro (fun c => ?_) (fun c => ?_)
  · replace H := H.1 c
    refine And.intro R.1 ?_
    refine Or.inl ⟨_, (ra_r1 R), ?_⟩
    refine Or.inl ⟨(ra_k1 R), vp_cst (ra_l1 R) H.1, ?_⟩
    replace H := H.2
    refine And.intro (fun c => ?_) (fun c => ?_)
    · replace H := H.1 c
      exact At.keep [0, 1, 2, 3, 4, 5] H
    · replace H := H.2 c
      refine And.intro (fun c => ?_) (fun c => ?_)
      · replace H := H.1 c
        refine And.intro R.1 ?_
        refine Or.inl ⟨_, (ra_r56 R), ?_⟩
        refine And.intro R.1 ?_
        refine Or.inl ⟨_, (ra_r2 R), ?_⟩
        refine Or.inl ⟨(ra_k2 R), vp_cst (ra_l2 R) H.1, ?_⟩
        replace H := H.2
        refine ⟨(ra_k56 R), vp_cst (ra_l56 R) H.1, ?_⟩
        replace H := H.2
        replace H := H _ rfl
        exact At.keep [0, 1, 2, 3, 4, 5] H
      · replace H := H.2 c
        refine And.intro (fun c => ?_) (fun c => ?_)
        · replace H := H.1 c
          exact At.keep [0, 1, 2, 3, 4, 5] H
        · replace H := H.2 c
          refine And.intro R.1 ?_
          refine Or.inl ⟨_, (ra_r56 R), ?_⟩
          refine And.intro R.1 ?_
          refine Or.inl ⟨_, (ra_r2 R), ?_⟩
          refine Or.inl ⟨(ra_k2 R), vp_cst (ra_l2 R) H.1, ?_⟩
          replace H := H.2
          refine ⟨(ra_k56 R), vp_cst (ra_l56 R) H.1, ?_⟩
          replace H := H.2
          replace H := H _ rfl
          exact At.keep [0, 1, 2, 3, 4, 5] H
  · replace H := H.2 c
    refine And.intro (fun c => ?_) (fun c => ?_)
    · replace H := H.1 c
      refine And.intro R.1 ?_
      refine Or.inl ⟨_, (ra_r1 R), ?_⟩
      refine Or.inl ⟨(ra_k1 R), vp_cst (ra_l1 R) H.1, ?_⟩
      replace H := H.2
      refine And.intro (fun c => ?_) (fun c => ?_)
      · replace H := H.1 c
        exact At.keep [0, 1, 2, 3, 4, 5] H
      · replace H := H.2 c
        refine And.intro (fun c => ?_) (fun c => ?_)
        · replace H := H.1 c
          refine And.intro R.1 ?_
          refine Or.inl ⟨_, (ra_r56 R), ?_⟩
          refine And.intro R.1 ?_
          refine Or.inl ⟨_, (ra_r2 R), ?_⟩
          refine Or.inl ⟨(ra_k2 R), vp_cst (ra_l2 R) H.1, ?_⟩
          replace H := H.2
          refine ⟨(ra_k56 R), vp_cst (ra_l56 R) H.1, ?_⟩
          replace H := H.2
          replace H := H _ rfl
          exact At.keep [0, 1, 2, 3, 4, 5] H
        · replace H := H.2 c
          refine And.intro (fun c => ?_) (fun c => ?_)
          · replace H := H.1 c
            exact At.keep [0, 1, 2, 3, 4, 5] H
          · replace H := H.2 c
            refine And.intro R.1 ?_
            refine Or.inl ⟨_, (ra_r56 R), ?_⟩
            refine And.intro R.1 ?_
            refine Or.inl ⟨_, (ra_r2 R), ?_⟩
            refine Or.inl ⟨(ra_k2 R), vp_cst (ra_l2 R) H.1, ?_⟩
            replace H := H.2
            refine ⟨(ra_k56 R), vp_cst (ra_l56 R) H.1, ?_⟩
            replace H := H.2
            replace H := H _ rfl
            exact At.keep [0, 1, 2, 3, 4, 5] H
    · replace H := H.2 c
      refine And.intro R.1 ?_
      refine Or.inl ⟨_, (ra_r56 R), ?_⟩
      refine And.intro R.1 ?_
      refine Or.inl ⟨_, (ra_r2 R), ?_⟩
      refine Or.inl ⟨(ra_k2 R), vp_cst (ra_l2 R) H.1, ?_⟩
      replace H := H.2
      refine ⟨(ra_k56 R), vp_cst (ra_l56 R) H.1, ?_⟩
      replace H := H.2
      replace H := H _ rfl
      exact H

theorem r_triesMove {G : GT} {d m : Nat} {M : Mem} (R : RefAt M m) {a1 : Int32} {a2 : Int32} {a3 : Int32} {Q : Mem → Prop} (H : CV G d 256 [.ref m, .int a1, .int a2, .int a3] M (fun M1 => RefAt M1 m ∧ (CV G d 254 [.ref m] M1 (fun M2 => RefAt M2 m ∧ (vp_in (4 : Int32) 7 ∧ (vp_in (0 : Int32) 40401 ∧ (((vi M2 m 61) ≤ (((vi M2 (m + 6) ((4 : Int32)).toNatClampNeg) * (a2 - a1)) + (vi M2 (m + 40) ((0 : Int32)).toNatClampNeg)) → Q M2) ∧ (¬ (vi M2 m 61) ≤ (((vi M2 (m + 6) ((4 : Int32)).toNatClampNeg) * (a2 - a1)) + (vi M2 (m + 40) ((0 : Int32)).toNatClampNeg)) → ∀ M3, M3 = seti M2 m 61 (((vi M2 (m + 6) ((4 : Int32)).toNatClampNeg) * (a2 - a1)) + (vi M2 (m + 40) ((0 : Int32)).toNatClampNeg)) → ∀ M4, M4 = seti M3 m 58 a1 → ∀ M5, M5 = seti M4 m 59 a2 → ∀ M6, M6 = seti M5 m 60 a3 → Q M6)))))))) : CV G (d + 1) 257 [.ref m, .int a1, .int a2, .int a3] M Q := by
  refine Cl.ofM (Nat.le_of_ble_eq_true rfl) rfl ?_
  refine vcc ok257 0 [] ?_
  refine And.intro (Nat.le_of_ble_eq_true rfl) ?_
  refine And.intro (Nat.le_of_ble_eq_true rfl) (And.intro R.1 ?_)
  refine Cl.mono H (fun r M1 h => ?_)
  obtain ⟨rfl, H⟩ := h
  obtain ⟨R, H⟩ := H
  refine And.intro (Nat.le_of_ble_eq_true rfl) ?_
  refine And.intro (Nat.le_of_ble_eq_true rfl) (And.intro R.1 ?_)
  refine Cl.mono H (fun r M2 h => ?_)
  obtain ⟨rfl, H⟩ := h
  obtain ⟨R, H⟩ := H
  refine And.intro R.1 ?_
  refine Or.inl ⟨_, (ra_r6 R), ?_⟩
  refine Or.inl ⟨(ra_k6 R), vp_cst (ra_l6 R) H.1, ?_⟩
  replace H := H.2
  refine And.intro R.1 ?_
  refine Or.inl ⟨_, (ra_r55 R), ?_⟩
  refine Or.inl ⟨(ra_k55 R), vp_cst (ra_l55 R) H.1, ?_⟩
  replace H := H.2
  refine And.intro R.1 ?_
  refine And.intro (fun c => ?_) (fun c => ?_)
  · replace H := H.1 c
    exact ⟨rfl, H⟩
  · replace H := H.2 c
    refine And.intro R.1 ?_
    refine And.intro (Or.inl rfl) (And.intro (fun h => absurd h (by decide)) ?_)
    replace H := H _ rfl
    refine And.intro R.1 ?_
    refine And.intro (Or.inl rfl) (And.intro (fun h => absurd h (by decide)) ?_)
    replace H := H _ rfl
    refine And.intro R.1 ?_
    refine And.intro (Or.inl rfl) (And.intro (fun h => absurd h (by decide)) ?_)
    replace H := H _ rfl
    refine And.intro R.1 ?_
    refine And.intro (Or.inl rfl) (And.intro (fun h => absurd h (by decide)) ?_)
    replace H := H _ rfl
    exact ⟨rfl, H⟩

theorem r_moved {G : GT} {d m : Nat} {M : Mem} (R : RefAt M m) {a1 : Int32} {Q : Int32 → Mem → Prop} (H : vp_in (0 : Int32) 3 ∧ (CI G d 155 [.long ((a1).toInt64), .long (0 : Int64), .long (3 : Int64)] M (fun v2 M1 => RefAt M1 m ∧ ((v2 = 0 → Q (-1 : Int32) M1) ∧ (¬ v2 = 0 → ((vi M (m + 1) ((0 : Int32)).toNatClampNeg) ≤ (24 : Int32) → CI G d 255 [.ref m, .int (-1 : Int32)] M1 (fun v4 M3 => RefAt M3 m ∧ (∀ M5, M5 = seti M3 m 61 v4 → ∀ M6, M6 = seti M5 m 58 (-2 : Int32) → ∀ M7, M7 = seti M6 m 59 (-2 : Int32) → ∀ M8, M8 = seti M7 m 60 (-2 : Int32) → At G (d + 1) 258 56 [(0, .ref m), (1, .int a1), (2, .int (vi M (m + 1) ((0 : Int32)).toNatClampNeg)), (3, .int (0 : Int32))] [] M8 (qI Q)))) ∧ (¬ (vi M (m + 1) ((0 : Int32)).toNatClampNeg) ≤ (24 : Int32) → Q (-1 : Int32) M1)))))) : CI G (d + 1) 258 [.ref m, .int a1] M Q := by
  refine Cl.ofM (Nat.le_of_ble_eq_true rfl) rfl ?_
  refine vcc ok258 0 [56, 66, 75] ?_
  refine And.intro R.1 ?_
  refine Or.inl ⟨_, (ra_r1 R), ?_⟩
  refine Or.inl ⟨(ra_k1 R), vp_cst (ra_l1 R) H.1, ?_⟩
  replace H := H.2
  refine And.intro (Nat.le_of_ble_eq_true rfl) ?_
  refine And.intro (Nat.le_of_ble_eq_true rfl) ?_
  refine Cl.mono H (fun r M1 h => ?_)
  obtain ⟨v2, rfl, H⟩ := h
  obtain ⟨R, H⟩ := H
  refine And.intro (fun c => ?_) (fun c => ?_)
  · replace H := H.1 c
    exact ⟨fun h => absurd h (by decide), _, rfl, H⟩
  · replace H := H.2 c
    refine And.intro (fun c => ?_) (fun c => ?_)
    · replace H := H.1 c
      refine And.intro (Nat.le_of_ble_eq_true rfl) ?_
      refine And.intro (Nat.le_of_ble_eq_true rfl) (And.intro R.1 ?_)
      refine Cl.mono H (fun r M3 h => ?_)
      obtain ⟨v4, rfl, H⟩ := h
      obtain ⟨R, H⟩ := H
      refine And.intro R.1 ?_
      refine And.intro (Or.inl rfl) (And.intro (fun h => absurd h (by decide)) ?_)
      replace H := H _ rfl
      refine And.intro R.1 ?_
      refine And.intro (Or.inl rfl) (And.intro (fun h => absurd h (by decide)) ?_)
      replace H := H _ rfl
      refine And.intro R.1 ?_
      refine And.intro (Or.inl rfl) (And.intro (fun h => absurd h (by decide)) ?_)
      replace H := H _ rfl
      refine And.intro R.1 ?_
      refine And.intro (Or.inl rfl) (And.intro (fun h => absurd h (by decide)) ?_)
      replace H := H _ rfl
      exact H
    · replace H := H.2 c
      exact ⟨fun h => absurd h (by decide), _, rfl, H⟩

theorem r_moved_56 {G : GT} {d m : Nat} {M : Mem} (R : RefAt M m) {l1 : Int32} {l2 : Int32} {l3 : Int32} {Q : Int32 → Mem → Prop} (H : (l2 ≤ l3 → (¬ l1 = 0 → (¬ l1 = (1 : Int32) → (¬ l1 = (2 : Int32) → Q (vi M m 60) M) ∧ (l1 = (2 : Int32) → Q (vi M m 59) M)) ∧ (l1 = (1 : Int32) → Q (vi M m 58) M)) ∧ (l1 = 0 → Q (vi M m 61) M)) ∧ (¬ l2 ≤ l3 → At G (d + 1) 258 66 [(0, .ref m), (1, .int l1), (2, .int l2), (3, .int l3), (4, .int (l3 + (1 : Int32)))] [] M (qI Q))) : At G (d + 1) 258 56 [(0, .ref m), (1, .int l1), (2, .int l2), (3, .int l3)] [] M (qI Q) := by
  refine vcc ok258 32 [66, 75] ?_
  refine And.intro (fun c => ?_) (fun c => ?_)
  · replace H := H.1 c
    refine And.intro (fun c => ?_) (fun c => ?_)
    · replace H := H.1 c
      refine And.intro (fun c => ?_) (fun c => ?_)
      · replace H := H.1 c
        refine And.intro (fun c => ?_) (fun c => ?_)
        · replace H := H.1 c
          refine And.intro R.1 ?_
          exact ⟨fun h => absurd h (by decide), _, rfl, H⟩
        · replace H := H.2 c
          refine And.intro R.1 ?_
          exact ⟨fun h => absurd h (by decide), _, rfl, H⟩
      · replace H := H.2 c
        refine And.intro R.1 ?_
        exact ⟨fun h => absurd h (by decide), _, rfl, H⟩
    · replace H := H.2 c
      refine And.intro R.1 ?_
      exact ⟨fun h => absurd h (by decide), _, rfl, H⟩
  · replace H := H.2 c
    exact H

theorem r_moved_66 {G : GT} {d m : Nat} {M : Mem} (R : RefAt M m) {l1 : Int32} {l2 : Int32} {l3 : Int32} {l4 : Int32} {Q : Int32 → Mem → Prop} (H : (l2 < l4 → At G (d + 1) 258 56 [(0, .ref m), (1, .int l1), (2, .int l2), (3, .int (l3 + (1 : Int32)))] [] M (qI Q)) ∧ (¬ l2 < l4 → At G (d + 1) 258 75 [(0, .ref m), (1, .int l1), (2, .int l2), (3, .int l3), (4, .int l4), (5, .int (0 : Int32))] [] M (qI Q))) : At G (d + 1) 258 66 [(0, .ref m), (1, .int l1), (2, .int l2), (3, .int l3), (4, .int l4)] [] M (qI Q) := by
  refine vcc ok258 39 [56, 75] ?_
  refine And.intro (fun c => ?_) (fun c => ?_)
  · replace H := H.1 c
    exact At.keep [0, 1, 2, 3] H
  · replace H := H.2 c
    exact H

theorem r_moved_75 {G : GT} {d m : Nat} {M : Mem} (R : RefAt M m) {l1 : Int32} {l2 : Int32} {l3 : Int32} {l4 : Int32} {l5 : Int32} {Q : Int32 → Mem → Prop} (H : (l2 < l5 → At G (d + 1) 258 66 [(0, .ref m), (1, .int l1), (2, .int l2), (3, .int l3), (4, .int (l4 + (1 : Int32)))] [] M (qI Q)) ∧ (¬ l2 < l5 → (l5 < l3 → CV G d 257 [.ref m, .int l3, .int l4, .int l5] M (fun M9 => RefAt M9 m ∧ (At G (d + 1) 258 75 [(0, .ref m), (1, .int l1), (2, .int l2), (3, .int l3), (4, .int l4), (5, .int (l5 + (1 : Int32)))] [] M9 (qI Q)))) ∧ (¬ l5 < l3 → (l5 ≤ l4 → At G (d + 1) 258 75 [(0, .ref m), (1, .int l1), (2, .int l2), (3, .int l3), (4, .int l4), (5, .int (l5 + (1 : Int32)))] [] M (qI Q)) ∧ (¬ l5 ≤ l4 → CV G d 257 [.ref m, .int l3, .int l4, .int l5] M (fun M10 => RefAt M10 m ∧ (At G (d + 1) 258 75 [(0, .ref m), (1, .int l1), (2, .int l2), (3, .int l3), (4, .int l4), (5, .int (l5 + (1 : Int32)))] [] M10 (qI Q))))))) : At G (d + 1) 258 75 [(0, .ref m), (1, .int l1), (2, .int l2), (3, .int l3), (4, .int l4), (5, .int l5)] [] M (qI Q) := by
  refine vcc ok258 44 [56, 66] ?_
  refine And.intro (fun c => ?_) (fun c => ?_)
  · replace H := H.1 c
    exact At.keep [0, 1, 2, 3, 4] H
  · replace H := H.2 c
    refine And.intro (fun c => ?_) (fun c => ?_)
    · replace H := H.1 c
      refine And.intro (Nat.le_of_ble_eq_true rfl) ?_
      refine And.intro (Nat.le_of_ble_eq_true rfl) (And.intro R.1 ?_)
      refine Cl.mono H (fun r M9 h => ?_)
      obtain ⟨rfl, H⟩ := h
      obtain ⟨R, H⟩ := H
      exact H
    · replace H := H.2 c
      refine And.intro (fun c => ?_) (fun c => ?_)
      · replace H := H.1 c
        exact H
      · replace H := H.2 c
        refine And.intro (Nat.le_of_ble_eq_true rfl) ?_
        refine And.intro (Nat.le_of_ble_eq_true rfl) (And.intro R.1 ?_)
        refine Cl.mono H (fun r M10 h => ?_)
        obtain ⟨rfl, H⟩ := h
        obtain ⟨R, H⟩ := H
        exact H

theorem r_allMarks {G : GT} {d m : Nat} {M : Mem} (R : RefAt M m)  {Q : Int32 → Mem → Prop} (H : At G (d + 1) 259 4 [(0, .ref m), (1, .int (0 : Int32)), (2, .int (0 : Int32))] [] M (qI Q)) : CI G (d + 1) 259 [.ref m] M Q := by
  refine Cl.ofM (Nat.le_of_ble_eq_true rfl) rfl ?_
  refine vcc ok259 0 [4] ?_
  exact H

theorem r_allMarks_4 {G : GT} {d m : Nat} {M : Mem} (R : RefAt M m) {l1 : Int32} {l2 : Int32} {Q : Int32 → Mem → Prop} (H : vp_in (2 : Int32) 3 ∧ (((vi M (m + 1) ((2 : Int32)).toNatClampNeg) ≤ l2 → Q l1 M) ∧ (¬ (vi M (m + 1) ((2 : Int32)).toNatClampNeg) ≤ l2 → vp_in l2 4 ∧ (At G (d + 1) 259 4 [(0, .ref m), (1, .int (l1 + (vi M (m + 5) (l2).toNatClampNeg))), (2, .int (l2 + (1 : Int32)))] [] M (qI Q))))) : At G (d + 1) 259 4 [(0, .ref m), (1, .int l1), (2, .int l2)] [] M (qI Q) := by
  refine vcc ok259 4 [] ?_
  refine And.intro R.1 ?_
  refine Or.inl ⟨_, (ra_r1 R), ?_⟩
  refine Or.inl ⟨(ra_k1 R), vp_cst (ra_l1 R) H.1, ?_⟩
  replace H := H.2
  refine And.intro (fun c => ?_) (fun c => ?_)
  · replace H := H.1 c
    exact ⟨fun h => absurd h (by decide), _, rfl, H⟩
  · replace H := H.2 c
    refine And.intro R.1 ?_
    refine Or.inl ⟨_, (ra_r5 R), ?_⟩
    refine Or.inl ⟨(ra_k5 R), vp_cst (ra_l5 R) H.1, ?_⟩
    replace H := H.2
    exact H

theorem r_isWished {G : GT} {d m : Nat} {M : Mem} (R : RefAt M m)  {Q : Int32 → Mem → Prop} (H : vp_in (1 : Int32) 3 ∧ ((¬ (vi M m 44) = (vi M (m + 1) ((1 : Int32)).toNatClampNeg) → At G (d + 1) 260 21 [(0, .ref m), (1, .int (0 : Int32)), (2, .int (0 : Int32))] [] M (qI Q)) ∧ ((vi M m 44) = (vi M (m + 1) ((1 : Int32)).toNatClampNeg) → At G (d + 1) 260 21 [(0, .ref m), (1, .int (1 : Int32)), (2, .int (0 : Int32))] [] M (qI Q)))) : CI G (d + 1) 260 [.ref m] M Q := by
  refine Cl.ofM (Nat.le_of_ble_eq_true rfl) rfl ?_
  refine vcc ok260 0 [21] ?_
  refine And.intro R.1 ?_
  refine And.intro R.1 ?_
  refine Or.inl ⟨_, (ra_r1 R), ?_⟩
  refine Or.inl ⟨(ra_k1 R), vp_cst (ra_l1 R) H.1, ?_⟩
  replace H := H.2
  refine And.intro (fun c => ?_) (fun c => ?_)
  · replace H := H.1 c
    exact H
  · replace H := H.2 c
    exact H

theorem r_isWished_21 {G : GT} {d m : Nat} {M : Mem} (R : RefAt M m) {l1 : Int32} {l2 : Int32} {Q : Int32 → Mem → Prop} (H : vp_in (1 : Int32) 3 ∧ (((vi M (m + 1) ((1 : Int32)).toNatClampNeg) ≤ l2 → (l1 = 0 ∨ l1 = 1) ∧ Q l1 M) ∧ (¬ (vi M (m + 1) ((1 : Int32)).toNatClampNeg) ≤ l2 → (l1 = 0 → (l1 = 0 ∨ l1 = 1) ∧ Q l1 M) ∧ (¬ l1 = 0 → vp_in l2 2000 ∧ (vp_in l2 200 ∧ ((¬ (vi M (m + 30) (l2).toNatClampNeg) = (vi M (m + 3) (l2).toNatClampNeg) → At G (d + 1) 260 21 [(0, .ref m), (1, .int (0 : Int32)), (2, .int (l2 + (1 : Int32)))] [] M (qI Q)) ∧ ((vi M (m + 30) (l2).toNatClampNeg) = (vi M (m + 3) (l2).toNatClampNeg) → At G (d + 1) 260 21 [(0, .ref m), (1, .int (1 : Int32)), (2, .int (l2 + (1 : Int32)))] [] M (qI Q)))))))) : At G (d + 1) 260 21 [(0, .ref m), (1, .int l1), (2, .int l2)] [] M (qI Q) := by
  refine vcc ok260 13 [] ?_
  refine And.intro R.1 ?_
  refine Or.inl ⟨_, (ra_r1 R), ?_⟩
  refine Or.inl ⟨(ra_k1 R), vp_cst (ra_l1 R) H.1, ?_⟩
  replace H := H.2
  refine And.intro (fun c => ?_) (fun c => ?_)
  · replace H := H.1 c
    exact ⟨fun _ => H.1, _, rfl, H.2⟩
  · replace H := H.2 c
    refine And.intro (fun c => ?_) (fun c => ?_)
    · replace H := H.1 c
      exact ⟨fun _ => H.1, _, rfl, H.2⟩
    · replace H := H.2 c
      refine And.intro R.1 ?_
      refine Or.inl ⟨_, (ra_r40 R), ?_⟩
      refine Or.inl ⟨(ra_k40 R), vp_cst (ra_l40 R) H.1, ?_⟩
      replace H := H.2
      refine And.intro R.1 ?_
      refine Or.inl ⟨_, (ra_r3 R), ?_⟩
      refine Or.inl ⟨(ra_k3 R), vp_cst (ra_l3 R) H.1, ?_⟩
      replace H := H.2
      refine And.intro (fun c => ?_) (fun c => ?_)
      · replace H := H.1 c
        exact H
      · replace H := H.2 c
        exact H

theorem r_isGood {G : GT} {d m : Nat} {M : Mem} (R : RefAt M m) {a1 : Int32} {a2 : Int32} {Q : Int32 → Mem → Prop} (H : At G (d + 1) 261 2 [(0, .ref m), (1, .int a1), (2, .int a2), (3, .int (0 : Int32))] [] M (qI Q)) : CI G (d + 1) 261 [.ref m, .int a1, .int a2] M Q := by
  refine Cl.ofM (Nat.le_of_ble_eq_true rfl) rfl ?_
  refine vcc ok261 0 [2, 36, 57] ?_
  exact H

theorem r_isGood_2 {G : GT} {d m : Nat} {M : Mem} (R : RefAt M m) {l1 : Int32} {l2 : Int32} {l3 : Int32} {Q : Int32 → Mem → Prop} (H : (l1 ≤ l3 → At G (d + 1) 261 36 [(0, .ref m), (1, .int l1), (2, .int l2), (3, .int (0 : Int32))] [] M (qI Q)) ∧ (¬ l1 ≤ l3 → CI G d 156 [.int l2, .int l3] M (fun v2 M1 => RefAt M1 m ∧ ((v2 = 0 → At G (d + 1) 261 2 [(0, .ref m), (1, .int l1), (2, .int l2), (3, .int (l3 + (1 : Int32)))] [] M1 (qI Q)) ∧ (¬ v2 = 0 → vp_in l3 12 ∧ ((((vi M1 (m + 43) (l3).toNatClampNeg) &&& l2) = 0 → At G (d + 1) 261 2 [(0, .ref m), (1, .int l1), (2, .int l2), (3, .int (l3 + (1 : Int32)))] [] M1 (qI Q)) ∧ (¬ ((vi M1 (m + 43) (l3).toNatClampNeg) &&& l2) = 0 → ((0 : Int32) = 0 ∨ (0 : Int32) = 1) ∧ Q (0 : Int32) M1))))))) : At G (d + 1) 261 2 [(0, .ref m), (1, .int l1), (2, .int l2), (3, .int l3)] [] M (qI Q) := by
  refine vcc ok261 2 [36, 57] ?_
  refine And.intro (fun c => ?_) (fun c => ?_)
  · replace H := H.1 c
    exact H
  · replace H := H.2 c
    refine And.intro (Nat.le_of_ble_eq_true rfl) ?_
    refine And.intro (Nat.le_of_ble_eq_true rfl) ?_
    refine Cl.mono H (fun r M1 h => ?_)
    obtain ⟨v2, rfl, H⟩ := h
    obtain ⟨R, H⟩ := H
    refine And.intro (fun c => ?_) (fun c => ?_)
    · replace H := H.1 c
      exact H
    · replace H := H.2 c
      refine And.intro R.1 ?_
      refine Or.inl ⟨_, (ra_r63 R), ?_⟩
      refine Or.inl ⟨(ra_k63 R), vp_cst (ra_l63 R) H.1, ?_⟩
      replace H := H.2
      refine And.intro (fun c => ?_) (fun c => ?_)
      · replace H := H.1 c
        exact H
      · replace H := H.2 c
        exact ⟨fun _ => H.1, _, rfl, H.2⟩

theorem r_isGood_36 {G : GT} {d m : Nat} {M : Mem} (R : RefAt M m) {l1 : Int32} {l2 : Int32} {l3 : Int32} {Q : Int32 → Mem → Prop} (H : ((64 : Int32) ≤ l3 → At G (d + 1) 261 57 [(0, .ref m), (1, .int l1), (2, .int l2), (3, .int (0 : Int32))] [] M (qI Q)) ∧ (¬ (64 : Int32) ≤ l3 → vp_in l3 64 ∧ (∀ M3, M3 = seti M (m + 31) (l3).toNatClampNeg (vp_nar .boolean (0 : Int32)) → At G (d + 1) 261 36 [(0, .ref m), (1, .int l1), (2, .int l2), (3, .int (l3 + (1 : Int32)))] [] M3 (qI Q)))) : At G (d + 1) 261 36 [(0, .ref m), (1, .int l1), (2, .int l2), (3, .int l3)] [] M (qI Q) := by
  refine vcc ok261 22 [2, 57] ?_
  refine And.intro (fun c => ?_) (fun c => ?_)
  · replace H := H.1 c
    exact H
  · replace H := H.2 c
    refine And.intro R.1 ?_
    refine Or.inl ⟨_, (ra_r41 R), ?_⟩
    refine Or.inr ⟨(ra_k41 R), vp_cst (ra_l41 R) H.1, ?_⟩
    replace H := H.2
    replace H := H _ rfl
    exact H

theorem r_isGood_57 {G : GT} {d m : Nat} {M : Mem} (R : RefAt M m) {l1 : Int32} {l2 : Int32} {l3 : Int32} {Q : Int32 → Mem → Prop} (H : (l1 ≤ l3 → CV G d 237 [.ref m] M (fun M4 => RefAt M4 m ∧ (CI G d 260 [.ref m] M4 (fun v6 M5 => RefAt M5 m ∧ ((v6 = 0 ∨ v6 = 1) ∧ Q v6 M5))))) ∧ (¬ l1 ≤ l3 → vp_in l3 12 ∧ (CI G d 156 [.int l2, .int l3] M (fun v8 M7 => RefAt M7 m ∧ (vp_in (vi M (m + 42) (l3).toNatClampNeg) 64 ∧ (∀ M9, M9 = seti M7 (m + 31) ((vi M (m + 42) (l3).toNatClampNeg)).toNatClampNeg (vp_nar .boolean v8) → At G (d + 1) 261 57 [(0, .ref m), (1, .int l1), (2, .int l2), (3, .int (l3 + (1 : Int32)))] [] M9 (qI Q))))))) : At G (d + 1) 261 57 [(0, .ref m), (1, .int l1), (2, .int l2), (3, .int l3)] [] M (qI Q) := by
  refine vcc ok261 34 [2, 36] ?_
  refine And.intro (fun c => ?_) (fun c => ?_)
  · replace H := H.1 c
    refine And.intro (Nat.le_of_ble_eq_true rfl) ?_
    refine And.intro (Nat.le_of_ble_eq_true rfl) (And.intro R.1 ?_)
    refine Cl.mono H (fun r M4 h => ?_)
    obtain ⟨rfl, H⟩ := h
    obtain ⟨R, H⟩ := H
    refine And.intro (Nat.le_of_ble_eq_true rfl) ?_
    refine And.intro (Nat.le_of_ble_eq_true rfl) (And.intro R.1 ?_)
    refine Cl.mono H (fun r M5 h => ?_)
    obtain ⟨v6, rfl, H⟩ := h
    obtain ⟨R, H⟩ := H
    exact ⟨fun _ => H.1, _, rfl, H.2⟩
  · replace H := H.2 c
    refine And.intro R.1 ?_
    refine Or.inl ⟨_, (ra_r41 R), ?_⟩
    refine And.intro R.1 ?_
    refine Or.inl ⟨_, (ra_r62 R), ?_⟩
    refine Or.inl ⟨(ra_k62 R), vp_cst (ra_l62 R) H.1, ?_⟩
    replace H := H.2
    refine And.intro (Nat.le_of_ble_eq_true rfl) ?_
    refine And.intro (Nat.le_of_ble_eq_true rfl) ?_
    refine Cl.mono H (fun r M7 h => ?_)
    obtain ⟨v8, rfl, H⟩ := h
    obtain ⟨R, H⟩ := H
    refine Or.inr ⟨(ra_k41 R), vp_cst (ra_l41 R) H.1, ?_⟩
    replace H := H.2
    replace H := H _ rfl
    exact H

theorem r_fewest {G : GT} {d m : Nat} {M : Mem} (R : RefAt M m)  {Q : Int32 → Mem → Prop} (H : CI G d 259 [.ref m] M (fun v2 M1 => RefAt M1 m ∧ ((v2 ≤ (12 : Int32) → At G (d + 1) 262 17 [(0, .ref m), (1, .int v2), (2, .int (0 : Int32)), (3, .int (0 : Int32))] [] M1 (qI Q)) ∧ (¬ v2 ≤ (12 : Int32) → Q (-1 : Int32) M1)))) : CI G (d + 1) 262 [.ref m] M Q := by
  refine Cl.ofM (Nat.le_of_ble_eq_true rfl) rfl ?_
  refine vcc ok262 0 [17, 49, 64, 127, 135] ?_
  refine And.intro (Nat.le_of_ble_eq_true rfl) ?_
  refine And.intro (Nat.le_of_ble_eq_true rfl) (And.intro R.1 ?_)
  refine Cl.mono H (fun r M1 h => ?_)
  obtain ⟨v2, rfl, H⟩ := h
  obtain ⟨R, H⟩ := H
  refine And.intro (fun c => ?_) (fun c => ?_)
  · replace H := H.1 c
    exact H
  · replace H := H.2 c
    exact ⟨fun h => absurd h (by decide), _, rfl, H⟩

theorem r_fewest_17 {G : GT} {d m : Nat} {M : Mem} (R : RefAt M m) {l1 : Int32} {l2 : Int32} {l3 : Int32} {Q : Int32 → Mem → Prop} (H : ((64 : Int32) ≤ l3 → At G (d + 1) 262 49 [(0, .ref m), (1, .int l1), (3, .int (0 : Int32))] [] M (qI Q)) ∧ (¬ (64 : Int32) ≤ l3 → CI G d 161 [.ref m, .int l3] M (fun v4 M3 => RefAt M3 m ∧ ((v4 = 0 → At G (d + 1) 262 17 [(0, .ref m), (1, .int l1), (2, .int l2), (3, .int (l3 + (1 : Int32)))] [] M3 (qI Q)) ∧ (¬ v4 = 0 → vp_in l2 12 ∧ (∀ M5, M5 = seti M3 (m + 42) (l2).toNatClampNeg l3 → At G (d + 1) 262 17 [(0, .ref m), (1, .int l1), (2, .int (l2 + (1 : Int32))), (3, .int (l3 + (1 : Int32)))] [] M5 (qI Q))))))) : At G (d + 1) 262 17 [(0, .ref m), (1, .int l1), (2, .int l2), (3, .int l3)] [] M (qI Q) := by
  refine vcc ok262 12 [49, 64, 127, 135] ?_
  refine And.intro (fun c => ?_) (fun c => ?_)
  · replace H := H.1 c
    exact At.keep [0, 1, 3] H
  · replace H := H.2 c
    refine And.intro (Nat.le_of_ble_eq_true rfl) ?_
    refine And.intro (Nat.le_of_ble_eq_true rfl) (And.intro R.1 ?_)
    refine Cl.mono H (fun r M3 h => ?_)
    obtain ⟨v4, rfl, H⟩ := h
    obtain ⟨R, H⟩ := H
    refine And.intro (fun c => ?_) (fun c => ?_)
    · replace H := H.1 c
      exact H
    · replace H := H.2 c
      refine And.intro R.1 ?_
      refine Or.inl ⟨_, (ra_r62 R), ?_⟩
      refine ⟨(ra_k62 R), vp_cst (ra_l62 R) H.1, ?_⟩
      replace H := H.2
      replace H := H _ rfl
      exact H

theorem r_fewest_49 {G : GT} {d m : Nat} {M : Mem} (R : RefAt M m) {l1 : Int32} {l3 : Int32} {Q : Int32 → Mem → Prop} (H : (l1 ≤ l3 → At G (d + 1) 262 127 [(0, .ref m), (1, .int l1), (3, .int (0 : Int32))] [] M (qI Q)) ∧ (¬ l1 ≤ l3 → vp_in l3 12 ∧ (∀ M6, M6 = seti M (m + 43) (l3).toNatClampNeg (0 : Int32) → At G (d + 1) 262 64 [(0, .ref m), (1, .int l1), (3, .int l3), (4, .int (0 : Int32))] [] M6 (qI Q)))) : At G (d + 1) 262 49 [(0, .ref m), (1, .int l1), (3, .int l3)] [] M (qI Q) := by
  refine vcc ok262 29 [17, 64, 127, 135] ?_
  refine And.intro (fun c => ?_) (fun c => ?_)
  · replace H := H.1 c
    exact H
  · replace H := H.2 c
    refine And.intro R.1 ?_
    refine Or.inl ⟨_, (ra_r63 R), ?_⟩
    refine ⟨(ra_k63 R), vp_cst (ra_l63 R) H.1, ?_⟩
    replace H := H.2
    replace H := H _ rfl
    exact H

theorem r_fewest_64 {G : GT} {d m : Nat} {M : Mem} (R : RefAt M m) {l1 : Int32} {l3 : Int32} {l4 : Int32} {Q : Int32 → Mem → Prop} (H : (l1 ≤ l4 → At G (d + 1) 262 49 [(0, .ref m), (1, .int l1), (3, .int (l3 + (1 : Int32)))] [] M (qI Q)) ∧ (¬ l1 ≤ l4 → vp_in l3 12 ∧ ((l3 = l4 → vp_in l3 12 ∧ (∀ M7, M7 = seti M (m + 43) (l3).toNatClampNeg ((vi M (m + 43) (l3).toNatClampNeg) ||| (0 : Int32)) → At G (d + 1) 262 64 [(0, .ref m), (1, .int l1), (3, .int l3), (4, .int (l4 + (1 : Int32)))] [] M7 (qI Q))) ∧ (¬ l3 = l4 → vp_in l3 12 ∧ (vp_in l4 12 ∧ (CI G d 216 [.ref m, .int (vi M (m + 42) (l3).toNatClampNeg), .int (vi M (m + 42) (l4).toNatClampNeg)] M (fun v9 M8 => RefAt M8 m ∧ ((v9 ≤ 0 → vp_in l3 12 ∧ (∀ M10, M10 = seti M8 (m + 43) (l3).toNatClampNeg ((vi M (m + 43) (l3).toNatClampNeg) ||| (0 : Int32)) → At G (d + 1) 262 64 [(0, .ref m), (1, .int l1), (3, .int l3), (4, .int (l4 + (1 : Int32)))] [] M10 (qI Q))) ∧ (¬ v9 ≤ 0 → vp_in l3 12 ∧ (∀ M11, M11 = seti M8 (m + 43) (l3).toNatClampNeg ((vi M (m + 43) (l3).toNatClampNeg) ||| ((1 : Int32) <<< (l4 &&& 31))) → At G (d + 1) 262 64 [(0, .ref m), (1, .int l1), (3, .int l3), (4, .int (l4 + (1 : Int32)))] [] M11 (qI Q))))))))))) : At G (d + 1) 262 64 [(0, .ref m), (1, .int l1), (3, .int l3), (4, .int l4)] [] M (qI Q) := by
  refine vcc ok262 39 [17, 49, 127, 135] ?_
  refine And.intro (fun c => ?_) (fun c => ?_)
  · replace H := H.1 c
    exact At.keep [0, 1, 3] H
  · replace H := H.2 c
    refine And.intro R.1 ?_
    refine Or.inl ⟨_, (ra_r63 R), ?_⟩
    refine Or.inl ⟨(ra_k63 R), vp_cst (ra_l63 R) H.1, ?_⟩
    replace H := H.2
    refine And.intro (fun c => ?_) (fun c => ?_)
    · replace H := H.1 c
      refine ⟨(ra_k63 R), vp_cst (ra_l63 R) H.1, ?_⟩
      replace H := H.2
      replace H := H _ rfl
      exact H
    · replace H := H.2 c
      refine And.intro R.1 ?_
      refine Or.inl ⟨_, (ra_r62 R), ?_⟩
      refine Or.inl ⟨(ra_k62 R), vp_cst (ra_l62 R) H.1, ?_⟩
      replace H := H.2
      refine And.intro R.1 ?_
      refine Or.inl ⟨_, (ra_r62 R), ?_⟩
      refine Or.inl ⟨(ra_k62 R), vp_cst (ra_l62 R) H.1, ?_⟩
      replace H := H.2
      refine And.intro (Nat.le_of_ble_eq_true rfl) ?_
      refine And.intro (Nat.le_of_ble_eq_true rfl) (And.intro R.1 ?_)
      refine Cl.mono H (fun r M8 h => ?_)
      obtain ⟨v9, rfl, H⟩ := h
      obtain ⟨R, H⟩ := H
      refine And.intro (fun c => ?_) (fun c => ?_)
      · replace H := H.1 c
        refine ⟨(ra_k63 R), vp_cst (ra_l63 R) H.1, ?_⟩
        replace H := H.2
        replace H := H _ rfl
        exact H
      · replace H := H.2 c
        refine ⟨(ra_k63 R), vp_cst (ra_l63 R) H.1, ?_⟩
        replace H := H.2
        replace H := H _ rfl
        exact H

theorem r_fewest_127 {G : GT} {d m : Nat} {M : Mem} (R : RefAt M m) {l1 : Int32} {l3 : Int32} {Q : Int32 → Mem → Prop} (H : (l1 < l3 → Q (-2 : Int32) M) ∧ (¬ l1 < l3 → At G (d + 1) 262 135 [(0, .ref m), (1, .int l1), (3, .int l3), (4, .int (0 : Int32))] [] M (qI Q))) : At G (d + 1) 262 127 [(0, .ref m), (1, .int l1), (3, .int l3)] [] M (qI Q) := by
  refine vcc ok262 74 [17, 49, 64, 135] ?_
  refine And.intro (fun c => ?_) (fun c => ?_)
  · replace H := H.1 c
    exact ⟨fun h => absurd h (by decide), _, rfl, H⟩
  · replace H := H.2 c
    exact H

theorem r_fewest_135 {G : GT} {d m : Nat} {M : Mem} (R : RefAt M m) {l1 : Int32} {l3 : Int32} {l4 : Int32} {Q : Int32 → Mem → Prop} (H : (((1 : Int32) <<< (l1 &&& 31)) ≤ l4 → At G (d + 1) 262 127 [(0, .ref m), (1, .int l1), (3, .int (l3 + (1 : Int32)))] [] M (qI Q)) ∧ (¬ ((1 : Int32) <<< (l1 &&& 31)) ≤ l4 → CI G d 157 [.int l4] M (fun v13 M12 => RefAt M12 m ∧ ((¬ v13 = l3 → At G (d + 1) 262 135 [(0, .ref m), (1, .int l1), (3, .int l3), (4, .int (l4 + (1 : Int32)))] [] M12 (qI Q)) ∧ (v13 = l3 → CI G d 261 [.ref m, .int l1, .int l4] M12 (fun v15 M14 => RefAt M14 m ∧ ((v15 = 0 → At G (d + 1) 262 135 [(0, .ref m), (1, .int l1), (3, .int l3), (4, .int (l4 + (1 : Int32)))] [] M14 (qI Q)) ∧ (¬ v15 = 0 → Q l4 M14)))))))) : At G (d + 1) 262 135 [(0, .ref m), (1, .int l1), (3, .int l3), (4, .int l4)] [] M (qI Q) := by
  refine vcc ok262 79 [17, 49, 64, 127] ?_
  refine And.intro (fun c => ?_) (fun c => ?_)
  · replace H := H.1 c
    exact At.keep [0, 1, 3] H
  · replace H := H.2 c
    refine And.intro (Nat.le_of_ble_eq_true rfl) ?_
    refine And.intro (Nat.le_of_ble_eq_true rfl) ?_
    refine Cl.mono H (fun r M12 h => ?_)
    obtain ⟨v13, rfl, H⟩ := h
    obtain ⟨R, H⟩ := H
    refine And.intro (fun c => ?_) (fun c => ?_)
    · replace H := H.1 c
      exact H
    · replace H := H.2 c
      refine And.intro (Nat.le_of_ble_eq_true rfl) ?_
      refine And.intro (Nat.le_of_ble_eq_true rfl) (And.intro R.1 ?_)
      refine Cl.mono H (fun r M14 h => ?_)
      obtain ⟨v15, rfl, H⟩ := h
      obtain ⟨R, H⟩ := H
      refine And.intro (fun c => ?_) (fun c => ?_)
      · replace H := H.1 c
        exact H
      · replace H := H.2 c
        exact ⟨fun h => absurd h (by decide), _, rfl, H⟩

theorem r_isFirst {G : GT} {d m : Nat} {M : Mem} (R : RefAt M m) {a1 : Int32} {Q : Int32 → Mem → Prop} (H : ¬ (16 : Int32) = 0 ∧ (At G (d + 1) 263 10 [(0, .ref m), (1, .int a1), (2, .int (1 : Int32)), (3, .int ((16 : Int32) * (a1 / (16 : Int32))))] [] M (qI Q))) : CI G (d + 1) 263 [.ref m, .int a1] M Q := by
  refine Cl.ofM (Nat.le_of_ble_eq_true rfl) rfl ?_
  refine vcc ok263 0 [10] ?_
  refine And.intro H.1 ?_
  replace H := H.2
  exact H

theorem r_isFirst_10 {G : GT} {d m : Nat} {M : Mem} (R : RefAt M m) {l1 : Int32} {l2 : Int32} {l3 : Int32} {Q : Int32 → Mem → Prop} (H : (l1 ≤ l3 → (l2 = 0 ∨ l2 = 1) ∧ Q l2 M) ∧ (¬ l1 ≤ l3 → (l2 = 0 → At G (d + 1) 263 10 [(0, .ref m), (1, .int l1), (2, .int (0 : Int32)), (3, .int (l3 + (1 : Int32)))] [] M (qI Q)) ∧ (¬ l2 = 0 → CI G d 204 [.ref m, .int l3, .int l1] M (fun v2 M1 => RefAt M1 m ∧ ((¬ v2 = 0 → At G (d + 1) 263 10 [(0, .ref m), (1, .int l1), (2, .int (0 : Int32)), (3, .int (l3 + (1 : Int32)))] [] M1 (qI Q)) ∧ (v2 = 0 → At G (d + 1) 263 10 [(0, .ref m), (1, .int l1), (2, .int (1 : Int32)), (3, .int (l3 + (1 : Int32)))] [] M1 (qI Q))))))) : At G (d + 1) 263 10 [(0, .ref m), (1, .int l1), (2, .int l2), (3, .int l3)] [] M (qI Q) := by
  refine vcc ok263 8 [] ?_
  refine And.intro (fun c => ?_) (fun c => ?_)
  · replace H := H.1 c
    exact ⟨fun _ => H.1, _, rfl, H.2⟩
  · replace H := H.2 c
    refine And.intro (fun c => ?_) (fun c => ?_)
    · replace H := H.1 c
      exact H
    · replace H := H.2 c
      refine And.intro (Nat.le_of_ble_eq_true rfl) ?_
      refine And.intro (Nat.le_of_ble_eq_true rfl) (And.intro R.1 ?_)
      refine Cl.mono H (fun r M1 h => ?_)
      obtain ⟨v2, rfl, H⟩ := h
      obtain ⟨R, H⟩ := H
      refine And.intro (fun c => ?_) (fun c => ?_)
      · replace H := H.1 c
        exact H
      · replace H := H.2 c
        exact H

theorem r_told {G : GT} {d m : Nat} {M : Mem} (R : RefAt M m) {a1 : Int32} {a2 : Int32} {a3 : Int32} {a4 : Int32} {Q : Int32 → Mem → Prop} (H : At G (d + 1) 264 9 [(0, .ref m), (1, .int a1), (2, .int a2), (3, .int a3), (4, .int a4), (5, .int (0 : Int32)), (6, .int ((16 : Int32) * a1))] [] M (qI Q)) : CI G (d + 1) 264 [.ref m, .int a1, .int a2, .int a3, .int a4] M Q := by
  refine Cl.ofM (Nat.le_of_ble_eq_true rfl) rfl ?_
  refine vcc ok264 0 [9] ?_
  exact H

theorem r_told_9 {G : GT} {d m : Nat} {M : Mem} (R : RefAt M m) {l1 : Int32} {l2 : Int32} {l3 : Int32} {l4 : Int32} {l5 : Int32} {l6 : Int32} {Q : Int32 → Mem → Prop} (H : vp_in l1 4 ∧ (((((16 : Int32) * l1) + (vi M (m + 5) (l1).toNatClampNeg)) ≤ l6 → Q l5 M) ∧ (¬ (((16 : Int32) * l1) + (vi M (m + 5) (l1).toNatClampNeg)) ≤ l6 → CI G d 263 [.ref m, .int l6] M (fun v2 M1 => RefAt M1 m ∧ ((v2 = 0 → At G (d + 1) 264 9 [(0, .ref m), (1, .int l1), (2, .int l2), (3, .int l3), (4, .int l4), (5, .int (l5 + (0 : Int32))), (6, .int (l6 + (1 : Int32)))] [] M1 (qI Q)) ∧ (¬ v2 = 0 → (l3 = (6 : Int32) → CI G d 205 [.ref m, .int l2, .int l6] M1 (fun v4 M3 => RefAt M3 m ∧ ((¬ v4 = l4 → At G (d + 1) 264 9 [(0, .ref m), (1, .int l1), (2, .int l2), (3, .int l3), (4, .int l4), (5, .int (l5 + (0 : Int32))), (6, .int (l6 + (1 : Int32)))] [] M3 (qI Q)) ∧ (v4 = l4 → At G (d + 1) 264 9 [(0, .ref m), (1, .int l1), (2, .int l2), (3, .int l3), (4, .int l4), (5, .int (l5 + (1 : Int32))), (6, .int (l6 + (1 : Int32)))] [] M3 (qI Q))))) ∧ (¬ l3 = (6 : Int32) → vp_in l6 64 ∧ ((¬ (vi M1 (m + 7) (l6).toNatClampNeg) = l3 → At G (d + 1) 264 9 [(0, .ref m), (1, .int l1), (2, .int l2), (3, .int l3), (4, .int l4), (5, .int (l5 + (0 : Int32))), (6, .int (l6 + (1 : Int32)))] [] M1 (qI Q)) ∧ ((vi M1 (m + 7) (l6).toNatClampNeg) = l3 → CI G d 205 [.ref m, .int l2, .int l6] M1 (fun v6 M5 => RefAt M5 m ∧ ((¬ v6 = l4 → At G (d + 1) 264 9 [(0, .ref m), (1, .int l1), (2, .int l2), (3, .int l3), (4, .int l4), (5, .int (l5 + (0 : Int32))), (6, .int (l6 + (1 : Int32)))] [] M5 (qI Q)) ∧ (v6 = l4 → At G (d + 1) 264 9 [(0, .ref m), (1, .int l1), (2, .int l2), (3, .int l3), (4, .int l4), (5, .int (l5 + (1 : Int32))), (6, .int (l6 + (1 : Int32)))] [] M5 (qI Q))))))))))))) : At G (d + 1) 264 9 [(0, .ref m), (1, .int l1), (2, .int l2), (3, .int l3), (4, .int l4), (5, .int l5), (6, .int l6)] [] M (qI Q) := by
  refine vcc ok264 6 [] ?_
  refine And.intro R.1 ?_
  refine Or.inl ⟨_, (ra_r5 R), ?_⟩
  refine Or.inl ⟨(ra_k5 R), vp_cst (ra_l5 R) H.1, ?_⟩
  replace H := H.2
  refine And.intro (fun c => ?_) (fun c => ?_)
  · replace H := H.1 c
    exact ⟨fun h => absurd h (by decide), _, rfl, H⟩
  · replace H := H.2 c
    refine And.intro (Nat.le_of_ble_eq_true rfl) ?_
    refine And.intro (Nat.le_of_ble_eq_true rfl) (And.intro R.1 ?_)
    refine Cl.mono H (fun r M1 h => ?_)
    obtain ⟨v2, rfl, H⟩ := h
    obtain ⟨R, H⟩ := H
    refine And.intro (fun c => ?_) (fun c => ?_)
    · replace H := H.1 c
      exact H
    · replace H := H.2 c
      refine And.intro (fun c => ?_) (fun c => ?_)
      · replace H := H.1 c
        refine And.intro (Nat.le_of_ble_eq_true rfl) ?_
        refine And.intro (Nat.le_of_ble_eq_true rfl) (And.intro R.1 ?_)
        refine Cl.mono H (fun r M3 h => ?_)
        obtain ⟨v4, rfl, H⟩ := h
        obtain ⟨R, H⟩ := H
        refine And.intro (fun c => ?_) (fun c => ?_)
        · replace H := H.1 c
          exact H
        · replace H := H.2 c
          exact H
      · replace H := H.2 c
        refine And.intro R.1 ?_
        refine Or.inl ⟨_, (ra_r7 R), ?_⟩
        refine Or.inl ⟨(ra_k7 R), vp_cst (ra_l7 R) H.1, ?_⟩
        replace H := H.2
        refine And.intro (fun c => ?_) (fun c => ?_)
        · replace H := H.1 c
          exact H
        · replace H := H.2 c
          refine And.intro (Nat.le_of_ble_eq_true rfl) ?_
          refine And.intro (Nat.le_of_ble_eq_true rfl) (And.intro R.1 ?_)
          refine Cl.mono H (fun r M5 h => ?_)
          obtain ⟨v6, rfl, H⟩ := h
          obtain ⟨R, H⟩ := H
          refine And.intro (fun c => ?_) (fun c => ?_)
          · replace H := H.1 c
            exact H
          · replace H := H.2 c
            exact H

theorem r_unseen {G : GT} {d m : Nat} {M : Mem} (R : RefAt M m) {a1 : Int32} {a2 : Int32} {a3 : Int32} {a4 : Int32} {Q : Int32 → Mem → Prop} (H : CI G d 159 [.ref m, .int a1] M (fun v2 M1 => RefAt M1 m ∧ ((v2 = 0 → Q (-1 : Int32) M1) ∧ (¬ v2 = 0 → CI G d 159 [.ref m, .int a2] M1 (fun v4 M3 => RefAt M3 m ∧ ((v4 = 0 → Q (-1 : Int32) M3) ∧ (¬ v4 = 0 → (a1 = a2 → Q (-1 : Int32) M3) ∧ (¬ a1 = a2 → CI G d 155 [.long ((a3).toInt64), .long (0 : Int64), .long (6 : Int64)] M3 (fun v6 M5 => RefAt M5 m ∧ ((v6 = 0 → Q (-1 : Int32) M5) ∧ (¬ v6 = 0 → CI G d 155 [.long ((a4).toInt64), .long (0 : Int64), .long (1 : Int64)] M5 (fun v8 M7 => RefAt M7 m ∧ ((¬ v8 = 0 → CI G d 264 [.ref m, .int a1, .int a2, .int a3, .int (1 : Int32)] M7 (fun v10 M9 => RefAt M9 m ∧ ((¬ v10 = 0 → CI G d 264 [.ref m, .int a1, .int a2, .int a3, .int (0 : Int32)] M9 (fun v12 M11 => RefAt M11 m ∧ (CI G d 264 [.ref m, .int a2, .int a1, .int a3, .int (0 : Int32)] M11 (fun v14 M13 => RefAt M13 m ∧ (CI G d 158 [.int (v12 * v14), .int v10] M13 (fun v16 M15 => RefAt M15 m ∧ ((¬ a4 = 0 → ¬ v16 = 0 ∧ (Q (v10 / v16) M15)) ∧ (a4 = 0 → ¬ v16 = 0 ∧ (Q ((v12 * v14) / v16) M15))))))))) ∧ (v10 = 0 → Q (-2 : Int32) M9)))) ∧ (v8 = 0 → Q (-1 : Int32) M7)))))))))))))) : CI G (d + 1) 265 [.ref m, .int a1, .int a2, .int a3, .int a4] M Q := by
  refine Cl.ofM (Nat.le_of_ble_eq_true rfl) rfl ?_
  refine vcc ok265 0 [] ?_
  refine And.intro (Nat.le_of_ble_eq_true rfl) ?_
  refine And.intro (Nat.le_of_ble_eq_true rfl) (And.intro R.1 ?_)
  refine Cl.mono H (fun r M1 h => ?_)
  obtain ⟨v2, rfl, H⟩ := h
  obtain ⟨R, H⟩ := H
  refine And.intro (fun c => ?_) (fun c => ?_)
  · replace H := H.1 c
    exact ⟨fun h => absurd h (by decide), _, rfl, H⟩
  · replace H := H.2 c
    refine And.intro (Nat.le_of_ble_eq_true rfl) ?_
    refine And.intro (Nat.le_of_ble_eq_true rfl) (And.intro R.1 ?_)
    refine Cl.mono H (fun r M3 h => ?_)
    obtain ⟨v4, rfl, H⟩ := h
    obtain ⟨R, H⟩ := H
    refine And.intro (fun c => ?_) (fun c => ?_)
    · replace H := H.1 c
      exact ⟨fun h => absurd h (by decide), _, rfl, H⟩
    · replace H := H.2 c
      refine And.intro (fun c => ?_) (fun c => ?_)
      · replace H := H.1 c
        exact ⟨fun h => absurd h (by decide), _, rfl, H⟩
      · replace H := H.2 c
        refine And.intro (Nat.le_of_ble_eq_true rfl) ?_
        refine And.intro (Nat.le_of_ble_eq_true rfl) ?_
        refine Cl.mono H (fun r M5 h => ?_)
        obtain ⟨v6, rfl, H⟩ := h
        obtain ⟨R, H⟩ := H
        refine And.intro (fun c => ?_) (fun c => ?_)
        · replace H := H.1 c
          exact ⟨fun h => absurd h (by decide), _, rfl, H⟩
        · replace H := H.2 c
          refine And.intro (Nat.le_of_ble_eq_true rfl) ?_
          refine And.intro (Nat.le_of_ble_eq_true rfl) ?_
          refine Cl.mono H (fun r M7 h => ?_)
          obtain ⟨v8, rfl, H⟩ := h
          obtain ⟨R, H⟩ := H
          refine And.intro (fun c => ?_) (fun c => ?_)
          · replace H := H.1 c
            refine And.intro (Nat.le_of_ble_eq_true rfl) ?_
            refine And.intro (Nat.le_of_ble_eq_true rfl) (And.intro R.1 ?_)
            refine Cl.mono H (fun r M9 h => ?_)
            obtain ⟨v10, rfl, H⟩ := h
            obtain ⟨R, H⟩ := H
            refine And.intro (fun c => ?_) (fun c => ?_)
            · replace H := H.1 c
              refine And.intro (Nat.le_of_ble_eq_true rfl) ?_
              refine And.intro (Nat.le_of_ble_eq_true rfl) (And.intro R.1 ?_)
              refine Cl.mono H (fun r M11 h => ?_)
              obtain ⟨v12, rfl, H⟩ := h
              obtain ⟨R, H⟩ := H
              refine And.intro (Nat.le_of_ble_eq_true rfl) ?_
              refine And.intro (Nat.le_of_ble_eq_true rfl) (And.intro R.1 ?_)
              refine Cl.mono H (fun r M13 h => ?_)
              obtain ⟨v14, rfl, H⟩ := h
              obtain ⟨R, H⟩ := H
              refine And.intro (Nat.le_of_ble_eq_true rfl) ?_
              refine And.intro (Nat.le_of_ble_eq_true rfl) ?_
              refine Cl.mono H (fun r M15 h => ?_)
              obtain ⟨v16, rfl, H⟩ := h
              obtain ⟨R, H⟩ := H
              refine And.intro (fun c => ?_) (fun c => ?_)
              · replace H := H.1 c
                refine And.intro H.1 ?_
                replace H := H.2
                exact ⟨fun h => absurd h (by decide), _, rfl, H⟩
              · replace H := H.2 c
                refine And.intro H.1 ?_
                replace H := H.2
                exact ⟨fun h => absurd h (by decide), _, rfl, H⟩
            · replace H := H.2 c
              exact ⟨fun h => absurd h (by decide), _, rfl, H⟩
          · replace H := H.2 c
            exact ⟨fun h => absurd h (by decide), _, rfl, H⟩

theorem r_rate {G : GT} {d m : Nat} {M : Mem} (R : RefAt M m) {a1 : Int32} {a2 : Int32} {Q : Int32 → Mem → Prop} (H : CI G d 159 [.ref m, .int a1] M (fun v2 M1 => RefAt M1 m ∧ ((v2 = 0 → Q (-1 : Int32) M1) ∧ (¬ v2 = 0 → CI G d 155 [.long ((a2).toInt64), .long (0 : Int64), .long (1 : Int64)] M1 (fun v4 M3 => RefAt M3 m ∧ ((¬ v4 = 0 → At G (d + 1) 266 28 [(0, .ref m), (1, .int a1), (2, .int a2), (3, .int (0 : Int32)), (4, .int (0 : Int32)), (5, .int (0 : Int32))] [] M3 (qI Q)) ∧ (v4 = 0 → Q (-1 : Int32) M3))))))) : CI G (d + 1) 266 [.ref m, .int a1, .int a2] M Q := by
  refine Cl.ofM (Nat.le_of_ble_eq_true rfl) rfl ?_
  refine vcc ok266 0 [28, 63] ?_
  refine And.intro (Nat.le_of_ble_eq_true rfl) ?_
  refine And.intro (Nat.le_of_ble_eq_true rfl) (And.intro R.1 ?_)
  refine Cl.mono H (fun r M1 h => ?_)
  obtain ⟨v2, rfl, H⟩ := h
  obtain ⟨R, H⟩ := H
  refine And.intro (fun c => ?_) (fun c => ?_)
  · replace H := H.1 c
    exact ⟨fun h => absurd h (by decide), _, rfl, H⟩
  · replace H := H.2 c
    refine And.intro (Nat.le_of_ble_eq_true rfl) ?_
    refine And.intro (Nat.le_of_ble_eq_true rfl) ?_
    refine Cl.mono H (fun r M3 h => ?_)
    obtain ⟨v4, rfl, H⟩ := h
    obtain ⟨R, H⟩ := H
    refine And.intro (fun c => ?_) (fun c => ?_)
    · replace H := H.1 c
      exact H
    · replace H := H.2 c
      exact ⟨fun h => absurd h (by decide), _, rfl, H⟩

theorem r_rate_28 {G : GT} {d m : Nat} {M : Mem} (R : RefAt M m) {l1 : Int32} {l2 : Int32} {l3 : Int32} {l4 : Int32} {l5 : Int32} {Q : Int32 → Mem → Prop} (H : ((64 : Int32) ≤ l5 → (¬ l3 = 0 → CI G d 158 [.int l4, .int l3] M (fun v6 M5 => RefAt M5 m ∧ ((¬ l2 = 0 → ¬ v6 = 0 ∧ (Q (l3 / v6) M5)) ∧ (l2 = 0 → ¬ v6 = 0 ∧ (Q (l4 / v6) M5))))) ∧ (l3 = 0 → Q (-2 : Int32) M)) ∧ (¬ (64 : Int32) ≤ l5 → CI G d 161 [.ref m, .int l5] M (fun v8 M7 => RefAt M7 m ∧ ((v8 = 0 → At G (d + 1) 266 63 [(0, .ref m), (1, .int l1), (2, .int l2), (3, .int l3), (4, .int l4), (5, .int l5), (6, .int (0 : Int32)), (7, .int (0 : Int32))] [] M7 (qI Q)) ∧ (¬ v8 = 0 → ¬ (16 : Int32) = 0 ∧ (((l5 / (16 : Int32)) = l1 → At G (d + 1) 266 63 [(0, .ref m), (1, .int l1), (2, .int l2), (3, .int l3), (4, .int l4), (5, .int l5), (6, .int (0 : Int32)), (7, .int (0 : Int32))] [] M7 (qI Q)) ∧ (¬ (l5 / (16 : Int32)) = l1 → At G (d + 1) 266 63 [(0, .ref m), (1, .int l1), (2, .int l2), (3, .int l3), (4, .int l4), (5, .int l5), (6, .int (1 : Int32)), (7, .int (0 : Int32))] [] M7 (qI Q)))))))) : At G (d + 1) 266 28 [(0, .ref m), (1, .int l1), (2, .int l2), (3, .int l3), (4, .int l4), (5, .int l5)] [] M (qI Q) := by
  refine vcc ok266 18 [63] ?_
  refine And.intro (fun c => ?_) (fun c => ?_)
  · replace H := H.1 c
    refine And.intro (fun c => ?_) (fun c => ?_)
    · replace H := H.1 c
      refine And.intro (Nat.le_of_ble_eq_true rfl) ?_
      refine And.intro (Nat.le_of_ble_eq_true rfl) ?_
      refine Cl.mono H (fun r M5 h => ?_)
      obtain ⟨v6, rfl, H⟩ := h
      obtain ⟨R, H⟩ := H
      refine And.intro (fun c => ?_) (fun c => ?_)
      · replace H := H.1 c
        refine And.intro H.1 ?_
        replace H := H.2
        exact ⟨fun h => absurd h (by decide), _, rfl, H⟩
      · replace H := H.2 c
        refine And.intro H.1 ?_
        replace H := H.2
        exact ⟨fun h => absurd h (by decide), _, rfl, H⟩
    · replace H := H.2 c
      exact ⟨fun h => absurd h (by decide), _, rfl, H⟩
  · replace H := H.2 c
    refine And.intro (Nat.le_of_ble_eq_true rfl) ?_
    refine And.intro (Nat.le_of_ble_eq_true rfl) (And.intro R.1 ?_)
    refine Cl.mono H (fun r M7 h => ?_)
    obtain ⟨v8, rfl, H⟩ := h
    obtain ⟨R, H⟩ := H
    refine And.intro (fun c => ?_) (fun c => ?_)
    · replace H := H.1 c
      exact H
    · replace H := H.2 c
      refine And.intro H.1 ?_
      replace H := H.2
      refine And.intro (fun c => ?_) (fun c => ?_)
      · replace H := H.1 c
        exact H
      · replace H := H.2 c
        exact H

theorem r_rate_63 {G : GT} {d m : Nat} {M : Mem} (R : RefAt M m) {l1 : Int32} {l2 : Int32} {l3 : Int32} {l4 : Int32} {l5 : Int32} {l6 : Int32} {l7 : Int32} {Q : Int32 → Mem → Prop} (H : (l5 ≤ l7 → (l6 = 0 → (l6 = 0 → At G (d + 1) 266 28 [(0, .ref m), (1, .int l1), (2, .int l2), (3, .int (l3 + (0 : Int32))), (4, .int (l4 + (0 : Int32))), (5, .int (l5 + (1 : Int32)))] [] M (qI Q)) ∧ (¬ l6 = 0 → CI G d 205 [.ref m, .int l1, .int l5] M (fun v10 M9 => RefAt M9 m ∧ ((v10 = 0 → At G (d + 1) 266 28 [(0, .ref m), (1, .int l1), (2, .int l2), (3, .int (l3 + (0 : Int32))), (4, .int (l4 + (0 : Int32))), (5, .int (l5 + (1 : Int32)))] [] M9 (qI Q)) ∧ (¬ v10 = 0 → At G (d + 1) 266 28 [(0, .ref m), (1, .int l1), (2, .int l2), (3, .int (l3 + (0 : Int32))), (4, .int (l4 + (1 : Int32))), (5, .int (l5 + (1 : Int32)))] [] M9 (qI Q)))))) ∧ (¬ l6 = 0 → (l6 = 0 → At G (d + 1) 266 28 [(0, .ref m), (1, .int l1), (2, .int l2), (3, .int (l3 + (1 : Int32))), (4, .int (l4 + (0 : Int32))), (5, .int (l5 + (1 : Int32)))] [] M (qI Q)) ∧ (¬ l6 = 0 → CI G d 205 [.ref m, .int l1, .int l5] M (fun v12 M11 => RefAt M11 m ∧ ((v12 = 0 → At G (d + 1) 266 28 [(0, .ref m), (1, .int l1), (2, .int l2), (3, .int (l3 + (1 : Int32))), (4, .int (l4 + (0 : Int32))), (5, .int (l5 + (1 : Int32)))] [] M11 (qI Q)) ∧ (¬ v12 = 0 → At G (d + 1) 266 28 [(0, .ref m), (1, .int l1), (2, .int l2), (3, .int (l3 + (1 : Int32))), (4, .int (l4 + (1 : Int32))), (5, .int (l5 + (1 : Int32)))] [] M11 (qI Q))))))) ∧ (¬ l5 ≤ l7 → (l6 = 0 → (l6 = 0 → (l6 = 0 → At G (d + 1) 266 28 [(0, .ref m), (1, .int l1), (2, .int l2), (3, .int (l3 + (0 : Int32))), (4, .int (l4 + (0 : Int32))), (5, .int (l5 + (1 : Int32)))] [] M (qI Q)) ∧ (¬ l6 = 0 → CI G d 205 [.ref m, .int l1, .int l5] M (fun v14 M13 => RefAt M13 m ∧ ((v14 = 0 → At G (d + 1) 266 28 [(0, .ref m), (1, .int l1), (2, .int l2), (3, .int (l3 + (0 : Int32))), (4, .int (l4 + (0 : Int32))), (5, .int (l5 + (1 : Int32)))] [] M13 (qI Q)) ∧ (¬ v14 = 0 → At G (d + 1) 266 28 [(0, .ref m), (1, .int l1), (2, .int l2), (3, .int (l3 + (0 : Int32))), (4, .int (l4 + (1 : Int32))), (5, .int (l5 + (1 : Int32)))] [] M13 (qI Q)))))) ∧ (¬ l6 = 0 → (l6 = 0 → At G (d + 1) 266 28 [(0, .ref m), (1, .int l1), (2, .int l2), (3, .int (l3 + (1 : Int32))), (4, .int (l4 + (0 : Int32))), (5, .int (l5 + (1 : Int32)))] [] M (qI Q)) ∧ (¬ l6 = 0 → CI G d 205 [.ref m, .int l1, .int l5] M (fun v16 M15 => RefAt M15 m ∧ ((v16 = 0 → At G (d + 1) 266 28 [(0, .ref m), (1, .int l1), (2, .int l2), (3, .int (l3 + (1 : Int32))), (4, .int (l4 + (0 : Int32))), (5, .int (l5 + (1 : Int32)))] [] M15 (qI Q)) ∧ (¬ v16 = 0 → At G (d + 1) 266 28 [(0, .ref m), (1, .int l1), (2, .int l2), (3, .int (l3 + (1 : Int32))), (4, .int (l4 + (1 : Int32))), (5, .int (l5 + (1 : Int32)))] [] M15 (qI Q))))))) ∧ (¬ l6 = 0 → CI G d 161 [.ref m, .int l7] M (fun v18 M17 => RefAt M17 m ∧ ((v18 = 0 → At G (d + 1) 266 63 [(0, .ref m), (1, .int l1), (2, .int l2), (3, .int l3), (4, .int l4), (5, .int l5), (6, .int (1 : Int32)), (7, .int (l7 + (1 : Int32)))] [] M17 (qI Q)) ∧ (¬ v18 = 0 → ¬ (16 : Int32) = 0 ∧ (((l7 / (16 : Int32)) = l1 → At G (d + 1) 266 63 [(0, .ref m), (1, .int l1), (2, .int l2), (3, .int l3), (4, .int l4), (5, .int l5), (6, .int (1 : Int32)), (7, .int (l7 + (1 : Int32)))] [] M17 (qI Q)) ∧ (¬ (l7 / (16 : Int32)) = l1 → CI G d 204 [.ref m, .int l7, .int l5] M17 (fun v20 M19 => RefAt M19 m ∧ ((¬ v20 = 0 → At G (d + 1) 266 63 [(0, .ref m), (1, .int l1), (2, .int l2), (3, .int l3), (4, .int l4), (5, .int l5), (6, .int (0 : Int32)), (7, .int (l7 + (1 : Int32)))] [] M19 (qI Q)) ∧ (v20 = 0 → At G (d + 1) 266 63 [(0, .ref m), (1, .int l1), (2, .int l2), (3, .int l3), (4, .int l4), (5, .int l5), (6, .int (1 : Int32)), (7, .int (l7 + (1 : Int32)))] [] M19 (qI Q)))))))))))) : At G (d + 1) 266 63 [(0, .ref m), (1, .int l1), (2, .int l2), (3, .int l3), (4, .int l4), (5, .int l5), (6, .int l6), (7, .int l7)] [] M (qI Q) := by
  refine vcc ok266 36 [28] ?_
  refine And.intro (fun c => ?_) (fun c => ?_)
  · replace H := H.1 c
    refine And.intro (fun c => ?_) (fun c => ?_)
    · replace H := H.1 c
      refine And.intro (fun c => ?_) (fun c => ?_)
      · replace H := H.1 c
        exact At.keep [0, 1, 2, 3, 4, 5] H
      · replace H := H.2 c
        refine And.intro (Nat.le_of_ble_eq_true rfl) ?_
        refine And.intro (Nat.le_of_ble_eq_true rfl) (And.intro R.1 ?_)
        refine Cl.mono H (fun r M9 h => ?_)
        obtain ⟨v10, rfl, H⟩ := h
        obtain ⟨R, H⟩ := H
        refine And.intro (fun c => ?_) (fun c => ?_)
        · replace H := H.1 c
          exact At.keep [0, 1, 2, 3, 4, 5] H
        · replace H := H.2 c
          exact At.keep [0, 1, 2, 3, 4, 5] H
    · replace H := H.2 c
      refine And.intro (fun c => ?_) (fun c => ?_)
      · replace H := H.1 c
        exact At.keep [0, 1, 2, 3, 4, 5] H
      · replace H := H.2 c
        refine And.intro (Nat.le_of_ble_eq_true rfl) ?_
        refine And.intro (Nat.le_of_ble_eq_true rfl) (And.intro R.1 ?_)
        refine Cl.mono H (fun r M11 h => ?_)
        obtain ⟨v12, rfl, H⟩ := h
        obtain ⟨R, H⟩ := H
        refine And.intro (fun c => ?_) (fun c => ?_)
        · replace H := H.1 c
          exact At.keep [0, 1, 2, 3, 4, 5] H
        · replace H := H.2 c
          exact At.keep [0, 1, 2, 3, 4, 5] H
  · replace H := H.2 c
    refine And.intro (fun c => ?_) (fun c => ?_)
    · replace H := H.1 c
      refine And.intro (fun c => ?_) (fun c => ?_)
      · replace H := H.1 c
        refine And.intro (fun c => ?_) (fun c => ?_)
        · replace H := H.1 c
          exact At.keep [0, 1, 2, 3, 4, 5] H
        · replace H := H.2 c
          refine And.intro (Nat.le_of_ble_eq_true rfl) ?_
          refine And.intro (Nat.le_of_ble_eq_true rfl) (And.intro R.1 ?_)
          refine Cl.mono H (fun r M13 h => ?_)
          obtain ⟨v14, rfl, H⟩ := h
          obtain ⟨R, H⟩ := H
          refine And.intro (fun c => ?_) (fun c => ?_)
          · replace H := H.1 c
            exact At.keep [0, 1, 2, 3, 4, 5] H
          · replace H := H.2 c
            exact At.keep [0, 1, 2, 3, 4, 5] H
      · replace H := H.2 c
        refine And.intro (fun c => ?_) (fun c => ?_)
        · replace H := H.1 c
          exact At.keep [0, 1, 2, 3, 4, 5] H
        · replace H := H.2 c
          refine And.intro (Nat.le_of_ble_eq_true rfl) ?_
          refine And.intro (Nat.le_of_ble_eq_true rfl) (And.intro R.1 ?_)
          refine Cl.mono H (fun r M15 h => ?_)
          obtain ⟨v16, rfl, H⟩ := h
          obtain ⟨R, H⟩ := H
          refine And.intro (fun c => ?_) (fun c => ?_)
          · replace H := H.1 c
            exact At.keep [0, 1, 2, 3, 4, 5] H
          · replace H := H.2 c
            exact At.keep [0, 1, 2, 3, 4, 5] H
    · replace H := H.2 c
      refine And.intro (Nat.le_of_ble_eq_true rfl) ?_
      refine And.intro (Nat.le_of_ble_eq_true rfl) (And.intro R.1 ?_)
      refine Cl.mono H (fun r M17 h => ?_)
      obtain ⟨v18, rfl, H⟩ := h
      obtain ⟨R, H⟩ := H
      refine And.intro (fun c => ?_) (fun c => ?_)
      · replace H := H.1 c
        exact H
      · replace H := H.2 c
        refine And.intro H.1 ?_
        replace H := H.2
        refine And.intro (fun c => ?_) (fun c => ?_)
        · replace H := H.1 c
          exact H
        · replace H := H.2 c
          refine And.intro (Nat.le_of_ble_eq_true rfl) ?_
          refine And.intro (Nat.le_of_ble_eq_true rfl) (And.intro R.1 ?_)
          refine Cl.mono H (fun r M19 h => ?_)
          obtain ⟨v20, rfl, H⟩ := h
          obtain ⟨R, H⟩ := H
          refine And.intro (fun c => ?_) (fun c => ?_)
          · replace H := H.1 c
            exact H
          · replace H := H.2 c
            exact H

theorem r_count {G : GT} {d m : Nat} {M : Mem} (R : RefAt M m) {a1 : Int32} {Q : Int32 → Mem → Prop} (H : ((a1).toInt < 0 ∨ 5 < (a1).toInt → CI G d 155 [.long ((a1).toInt64), .long (6 : Int64), .long (9 : Int64)] M (fun v2 M1 => RefAt M1 m ∧ ((v2 = 0 → Q (-1 : Int32) M1) ∧ (¬ v2 = 0 → CI G d 159 [.ref m, .int (a1 - (6 : Int32))] M1 (fun v4 M3 => RefAt M3 m ∧ ((v4 = 0 → Q (-1 : Int32) M3) ∧ (¬ v4 = 0 → vp_in (a1 - (6 : Int32)) 4 ∧ (Q (vi M3 (m + 5) ((a1 - (6 : Int32))).toNatClampNeg) M3)))))))) ∧ ((a1).toInt = 0 → vp_in (0 : Int32) 3 ∧ (Q (vi M (m + 1) ((0 : Int32)).toNatClampNeg) M)) ∧ ((a1).toInt = 1 → vp_in (1 : Int32) 3 ∧ (Q (vi M (m + 1) ((1 : Int32)).toNatClampNeg) M)) ∧ ((a1).toInt = 2 → vp_in (2 : Int32) 3 ∧ (Q (vi M (m + 1) ((2 : Int32)).toNatClampNeg) M)) ∧ ((a1).toInt = 3 → CI G d 259 [.ref m] M (fun v6 M5 => RefAt M5 m ∧ (Q v6 M5))) ∧ ((a1).toInt = 4 → Q (vi M m 17) M) ∧ ((a1).toInt = 5 → Q (vi M m 13) M) ∧ True) : CI G (d + 1) 267 [.ref m, .int a1] M Q := by
  refine Cl.ofM (Nat.le_of_ble_eq_true rfl) rfl ?_
  refine vcc ok267 0 [] ?_
  refine And.intro (fun c => ?_) ?_
  · replace H := H.1 c
    refine And.intro (Nat.le_of_ble_eq_true rfl) ?_
    refine And.intro (Nat.le_of_ble_eq_true rfl) ?_
    refine Cl.mono H (fun r M1 h => ?_)
    obtain ⟨v2, rfl, H⟩ := h
    obtain ⟨R, H⟩ := H
    refine And.intro (fun c => ?_) (fun c => ?_)
    · replace H := H.1 c
      exact ⟨fun h => absurd h (by decide), _, rfl, H⟩
    · replace H := H.2 c
      refine And.intro (Nat.le_of_ble_eq_true rfl) ?_
      refine And.intro (Nat.le_of_ble_eq_true rfl) (And.intro R.1 ?_)
      refine Cl.mono H (fun r M3 h => ?_)
      obtain ⟨v4, rfl, H⟩ := h
      obtain ⟨R, H⟩ := H
      refine And.intro (fun c => ?_) (fun c => ?_)
      · replace H := H.1 c
        exact ⟨fun h => absurd h (by decide), _, rfl, H⟩
      · replace H := H.2 c
        refine And.intro R.1 ?_
        refine Or.inl ⟨_, (ra_r5 R), ?_⟩
        refine Or.inl ⟨(ra_k5 R), vp_cst (ra_l5 R) H.1, ?_⟩
        replace H := H.2
        exact ⟨fun h => absurd h (by decide), _, rfl, H⟩
  replace H := H.2
  refine And.intro (fun c => ?_) ?_
  · replace H := H.1 c
    refine And.intro R.1 ?_
    refine Or.inl ⟨_, (ra_r1 R), ?_⟩
    refine Or.inl ⟨(ra_k1 R), vp_cst (ra_l1 R) H.1, ?_⟩
    replace H := H.2
    exact ⟨fun h => absurd h (by decide), _, rfl, H⟩
  replace H := H.2
  refine And.intro (fun c => ?_) ?_
  · replace H := H.1 c
    refine And.intro R.1 ?_
    refine Or.inl ⟨_, (ra_r1 R), ?_⟩
    refine Or.inl ⟨(ra_k1 R), vp_cst (ra_l1 R) H.1, ?_⟩
    replace H := H.2
    exact ⟨fun h => absurd h (by decide), _, rfl, H⟩
  replace H := H.2
  refine And.intro (fun c => ?_) ?_
  · replace H := H.1 c
    refine And.intro R.1 ?_
    refine Or.inl ⟨_, (ra_r1 R), ?_⟩
    refine Or.inl ⟨(ra_k1 R), vp_cst (ra_l1 R) H.1, ?_⟩
    replace H := H.2
    exact ⟨fun h => absurd h (by decide), _, rfl, H⟩
  replace H := H.2
  refine And.intro (fun c => ?_) ?_
  · replace H := H.1 c
    refine And.intro (Nat.le_of_ble_eq_true rfl) ?_
    refine And.intro (Nat.le_of_ble_eq_true rfl) (And.intro R.1 ?_)
    refine Cl.mono H (fun r M5 h => ?_)
    obtain ⟨v6, rfl, H⟩ := h
    obtain ⟨R, H⟩ := H
    exact ⟨fun h => absurd h (by decide), _, rfl, H⟩
  replace H := H.2
  refine And.intro (fun c => ?_) ?_
  · replace H := H.1 c
    refine And.intro R.1 ?_
    exact ⟨fun h => absurd h (by decide), _, rfl, H⟩
  replace H := H.2
  refine And.intro (fun c => ?_) ?_
  · replace H := H.1 c
    refine And.intro R.1 ?_
    exact ⟨fun h => absurd h (by decide), _, rfl, H⟩
  replace H := H.2
  exact trivial

theorem r_carry {G : GT} {d m : Nat} {M : Mem} (R : RefAt M m) {a1 : Nat} {Q : Mem → Prop} (H : At G (d + 1) 268 2 [(0, .ref m), (1, .ref a1), (2, .int (0 : Int32))] [] M (qV Q)) : CV G (d + 1) 268 [.ref m, .ref a1] M Q := by
  refine Cl.ofM (Nat.le_of_ble_eq_true rfl) rfl ?_
  refine vcc ok268 0 [2] ?_
  exact H

theorem r_carry_2 {G : GT} {d m : Nat} {M : Mem} (R : RefAt M m) {a1 : Nat} {l2 : Int32} {Q : Mem → Prop} (H : (14 ≤ mK M a1 ∧ mK M a1 ≤ 21) ∧ (((nI (mA M a1)) ≤ l2 → Q M) ∧ (¬ (nI (mA M a1)) ≤ l2 → ((vi M m 67) = 0 → mK M a1 = 15 ∧ vp_in l2 (mA M a1) ∧ (vp_in (vi M m 66) 8400 ∧ (∀ M1, M1 = seti M (m + 44) ((vi M m 66)).toNatClampNeg (vi M a1 (l2).toNatClampNeg) → ∀ M2, M2 = seti M1 m 66 ((vi M1 m 66) + (1 : Int32)) → At G (d + 1) 268 2 [(0, .ref m), (1, .ref a1), (2, .int (l2 + (1 : Int32)))] [] M2 (qV Q)))) ∧ (¬ (vi M m 67) = 0 → vp_in (vi M m 66) 8400 ∧ (mK M a1 = 15 ∧ vp_in l2 (mA M a1) ∧ (∀ M3, M3 = seti M a1 (l2).toNatClampNeg (vi M (m + 44) ((vi M m 66)).toNatClampNeg) → ∀ M4, M4 = seti M3 m 66 ((vi M3 m 66) + (1 : Int32)) → At G (d + 1) 268 2 [(0, .ref m), (1, .ref a1), (2, .int (l2 + (1 : Int32)))] [] M4 (qV Q))))))) : At G (d + 1) 268 2 [(0, .ref m), (1, .ref a1), (2, .int l2)] [] M (qV Q) := by
  refine vcc ok268 2 [] ?_
  refine Or.inl ⟨H.1, ?_⟩
  replace H := H.2
  refine And.intro (fun c => ?_) (fun c => ?_)
  · replace H := H.1 c
    exact ⟨rfl, H⟩
  · replace H := H.2 c
    refine And.intro R.1 ?_
    refine And.intro (fun c => ?_) (fun c => ?_)
    · replace H := H.1 c
      refine And.intro R.1 ?_
      refine Or.inl ⟨_, (ra_r64 R), ?_⟩
      refine And.intro R.1 ?_
      refine Or.inl ⟨H.1, H.2.1, ?_⟩
      replace H := H.2.2
      refine ⟨(ra_k64 R), vp_cst (ra_l64 R) H.1, ?_⟩
      replace H := H.2
      replace H := H _ rfl
      refine And.intro R.1 ?_
      refine And.intro R.1 ?_
      refine And.intro (Or.inl rfl) (And.intro (fun h => absurd h (by decide)) ?_)
      replace H := H _ rfl
      exact H
    · replace H := H.2 c
      refine And.intro R.1 ?_
      refine Or.inl ⟨_, (ra_r64 R), ?_⟩
      refine And.intro R.1 ?_
      refine Or.inl ⟨(ra_k64 R), vp_cst (ra_l64 R) H.1, ?_⟩
      replace H := H.2
      refine ⟨H.1, H.2.1, ?_⟩
      replace H := H.2.2
      replace H := H _ rfl
      refine And.intro R.1 ?_
      refine And.intro R.1 ?_
      refine And.intro (Or.inl rfl) (And.intro (fun h => absurd h (by decide)) ?_)
      replace H := H _ rfl
      exact H

theorem r_carriesAll {G : GT} {d m : Nat} {M : Mem} (R : RefAt M m) {a1 : Int32} {a2 : Int32} {Q : Mem → Prop} (H : ∀ M1, M1 = seti M m 66 ((2100 : Int32) * a1) → (a2 = 0 ∨ a2 = 1) ∧ (∀ M2, M2 = seti M1 m 67 a2 → CV G d 268 [.ref m, .ref (m + 1)] M2 (fun M3 => RefAt M3 m ∧ (CV G d 268 [.ref m, .ref (m + 2)] M3 (fun M4 => RefAt M4 m ∧ (CV G d 268 [.ref m, .ref (m + 3)] M4 (fun M5 => RefAt M5 m ∧ (CV G d 268 [.ref m, .ref (m + 4)] M5 (fun M6 => RefAt M6 m ∧ (CV G d 268 [.ref m, .ref (m + 5)] M6 (fun M7 => RefAt M7 m ∧ (CV G d 268 [.ref m, .ref (m + 6)] M7 (fun M8 => RefAt M8 m ∧ (CV G d 268 [.ref m, .ref (m + 7)] M8 (fun M9 => RefAt M9 m ∧ (CV G d 268 [.ref m, .ref (m + 8)] M9 (fun M10 => RefAt M10 m ∧ (CV G d 268 [.ref m, .ref (m + 9)] M10 (fun M11 => RefAt M11 m ∧ (CV G d 268 [.ref m, .ref (m + 10)] M11 (fun M12 => RefAt M12 m ∧ (CV G d 268 [.ref m, .ref (m + 11)] M12 (fun M13 => RefAt M13 m ∧ (CV G d 268 [.ref m, .ref (m + 12)] M13 (fun M14 => RefAt M14 m ∧ (Q M14)))))))))))))))))))))))))) : CV G (d + 1) 269 [.ref m, .int a1, .int a2] M Q := by
  refine Cl.ofM (Nat.le_of_ble_eq_true rfl) rfl ?_
  refine vcc ok269 0 [] ?_
  refine And.intro R.1 ?_
  refine And.intro (Or.inl rfl) (And.intro (fun h => absurd h (by decide)) ?_)
  replace H := H _ rfl
  refine And.intro R.1 ?_
  refine And.intro (Or.inr rfl) (And.intro (fun _ => H.1) ?_)
  replace H := H.2
  replace H := H _ rfl
  refine And.intro R.1 ?_
  refine Or.inl ⟨_, (ra_r1 R), ?_⟩
  refine And.intro (Nat.le_of_ble_eq_true rfl) ?_
  refine And.intro (Nat.le_of_ble_eq_true rfl) (And.intro R.1 ?_)
  refine Cl.mono H (fun r M3 h => ?_)
  obtain ⟨rfl, H⟩ := h
  obtain ⟨R, H⟩ := H
  refine And.intro R.1 ?_
  refine Or.inl ⟨_, (ra_r2 R), ?_⟩
  refine And.intro (Nat.le_of_ble_eq_true rfl) ?_
  refine And.intro (Nat.le_of_ble_eq_true rfl) (And.intro R.1 ?_)
  refine Cl.mono H (fun r M4 h => ?_)
  obtain ⟨rfl, H⟩ := h
  obtain ⟨R, H⟩ := H
  refine And.intro R.1 ?_
  refine Or.inl ⟨_, (ra_r3 R), ?_⟩
  refine And.intro (Nat.le_of_ble_eq_true rfl) ?_
  refine And.intro (Nat.le_of_ble_eq_true rfl) (And.intro R.1 ?_)
  refine Cl.mono H (fun r M5 h => ?_)
  obtain ⟨rfl, H⟩ := h
  obtain ⟨R, H⟩ := H
  refine And.intro R.1 ?_
  refine Or.inl ⟨_, (ra_r4 R), ?_⟩
  refine And.intro (Nat.le_of_ble_eq_true rfl) ?_
  refine And.intro (Nat.le_of_ble_eq_true rfl) (And.intro R.1 ?_)
  refine Cl.mono H (fun r M6 h => ?_)
  obtain ⟨rfl, H⟩ := h
  obtain ⟨R, H⟩ := H
  refine And.intro R.1 ?_
  refine Or.inl ⟨_, (ra_r5 R), ?_⟩
  refine And.intro (Nat.le_of_ble_eq_true rfl) ?_
  refine And.intro (Nat.le_of_ble_eq_true rfl) (And.intro R.1 ?_)
  refine Cl.mono H (fun r M7 h => ?_)
  obtain ⟨rfl, H⟩ := h
  obtain ⟨R, H⟩ := H
  refine And.intro R.1 ?_
  refine Or.inl ⟨_, (ra_r6 R), ?_⟩
  refine And.intro (Nat.le_of_ble_eq_true rfl) ?_
  refine And.intro (Nat.le_of_ble_eq_true rfl) (And.intro R.1 ?_)
  refine Cl.mono H (fun r M8 h => ?_)
  obtain ⟨rfl, H⟩ := h
  obtain ⟨R, H⟩ := H
  refine And.intro R.1 ?_
  refine Or.inl ⟨_, (ra_r7 R), ?_⟩
  refine And.intro (Nat.le_of_ble_eq_true rfl) ?_
  refine And.intro (Nat.le_of_ble_eq_true rfl) (And.intro R.1 ?_)
  refine Cl.mono H (fun r M9 h => ?_)
  obtain ⟨rfl, H⟩ := h
  obtain ⟨R, H⟩ := H
  refine And.intro R.1 ?_
  refine Or.inl ⟨_, (ra_r8 R), ?_⟩
  refine And.intro (Nat.le_of_ble_eq_true rfl) ?_
  refine And.intro (Nat.le_of_ble_eq_true rfl) (And.intro R.1 ?_)
  refine Cl.mono H (fun r M10 h => ?_)
  obtain ⟨rfl, H⟩ := h
  obtain ⟨R, H⟩ := H
  refine And.intro R.1 ?_
  refine Or.inl ⟨_, (ra_r9 R), ?_⟩
  refine And.intro (Nat.le_of_ble_eq_true rfl) ?_
  refine And.intro (Nat.le_of_ble_eq_true rfl) (And.intro R.1 ?_)
  refine Cl.mono H (fun r M11 h => ?_)
  obtain ⟨rfl, H⟩ := h
  obtain ⟨R, H⟩ := H
  refine And.intro R.1 ?_
  refine Or.inl ⟨_, (ra_r10 R), ?_⟩
  refine And.intro (Nat.le_of_ble_eq_true rfl) ?_
  refine And.intro (Nat.le_of_ble_eq_true rfl) (And.intro R.1 ?_)
  refine Cl.mono H (fun r M12 h => ?_)
  obtain ⟨rfl, H⟩ := h
  obtain ⟨R, H⟩ := H
  refine And.intro R.1 ?_
  refine Or.inl ⟨_, (ra_r11 R), ?_⟩
  refine And.intro (Nat.le_of_ble_eq_true rfl) ?_
  refine And.intro (Nat.le_of_ble_eq_true rfl) (And.intro R.1 ?_)
  refine Cl.mono H (fun r M13 h => ?_)
  obtain ⟨rfl, H⟩ := h
  obtain ⟨R, H⟩ := H
  refine And.intro R.1 ?_
  refine Or.inl ⟨_, (ra_r12 R), ?_⟩
  refine And.intro (Nat.le_of_ble_eq_true rfl) ?_
  refine And.intro (Nat.le_of_ble_eq_true rfl) (And.intro R.1 ?_)
  refine Cl.mono H (fun r M14 h => ?_)
  obtain ⟨rfl, H⟩ := h
  obtain ⟨R, H⟩ := H
  exact ⟨rfl, H⟩

theorem r_image {G : GT} {d m : Nat} {M : Mem} (R : RefAt M m) {a1 : Int32} {Q : Int32 → Mem → Prop} (H : CI G d 155 [.long ((a1).toInt64), .long (0 : Int64), .long (3 : Int64)] M (fun v2 M1 => RefAt M1 m ∧ ((¬ v2 = 0 → vp_in a1 4 ∧ (∀ M3, M3 = seti M1 (m + 45) (a1).toNatClampNeg (vp_nar .boolean (1 : Int32)) → CV G d 269 [.ref m, .int a1, .int (0 : Int32)] M3 (fun M4 => RefAt M4 m ∧ (vp_in (0 : Int32) 3 ∧ (Q (vi M4 (m + 1) ((0 : Int32)).toNatClampNeg) M4))))) ∧ (v2 = 0 → Q (-1 : Int32) M1)))) : CI G (d + 1) 270 [.ref m, .int a1] M Q := by
  refine Cl.ofM (Nat.le_of_ble_eq_true rfl) rfl ?_
  refine vcc ok270 0 [] ?_
  refine And.intro (Nat.le_of_ble_eq_true rfl) ?_
  refine And.intro (Nat.le_of_ble_eq_true rfl) ?_
  refine Cl.mono H (fun r M1 h => ?_)
  obtain ⟨v2, rfl, H⟩ := h
  obtain ⟨R, H⟩ := H
  refine And.intro (fun c => ?_) (fun c => ?_)
  · replace H := H.1 c
    refine And.intro R.1 ?_
    refine Or.inl ⟨_, (ra_r65 R), ?_⟩
    refine Or.inr ⟨(ra_k65 R), vp_cst (ra_l65 R) H.1, ?_⟩
    replace H := H.2
    replace H := H _ rfl
    refine And.intro (Nat.le_of_ble_eq_true rfl) ?_
    refine And.intro (Nat.le_of_ble_eq_true rfl) (And.intro R.1 ?_)
    refine Cl.mono H (fun r M4 h => ?_)
    obtain ⟨rfl, H⟩ := h
    obtain ⟨R, H⟩ := H
    refine And.intro R.1 ?_
    refine Or.inl ⟨_, (ra_r1 R), ?_⟩
    refine Or.inl ⟨(ra_k1 R), vp_cst (ra_l1 R) H.1, ?_⟩
    replace H := H.2
    exact ⟨fun h => absurd h (by decide), _, rfl, H⟩
  · replace H := H.2 c
    exact ⟨fun h => absurd h (by decide), _, rfl, H⟩

theorem r_back {G : GT} {d m : Nat} {M : Mem} (R : RefAt M m) {a1 : Int32} {Q : Int32 → Mem → Prop} (H : CI G d 155 [.long ((a1).toInt64), .long (0 : Int64), .long (3 : Int64)] M (fun v2 M1 => RefAt M1 m ∧ ((v2 = 0 → Q (-1 : Int32) M1) ∧ (¬ v2 = 0 → vp_in a1 4 ∧ ((¬ (vi M1 (m + 45) (a1).toNatClampNeg) = 0 → CV G d 269 [.ref m, .int a1, .int (1 : Int32)] M1 (fun M3 => RefAt M3 m ∧ (vp_in (0 : Int32) 3 ∧ (Q (vi M3 (m + 1) ((0 : Int32)).toNatClampNeg) M3)))) ∧ ((vi M1 (m + 45) (a1).toNatClampNeg) = 0 → Q (-1 : Int32) M1)))))) : CI G (d + 1) 271 [.ref m, .int a1] M Q := by
  refine Cl.ofM (Nat.le_of_ble_eq_true rfl) rfl ?_
  refine vcc ok271 0 [] ?_
  refine And.intro (Nat.le_of_ble_eq_true rfl) ?_
  refine And.intro (Nat.le_of_ble_eq_true rfl) ?_
  refine Cl.mono H (fun r M1 h => ?_)
  obtain ⟨v2, rfl, H⟩ := h
  obtain ⟨R, H⟩ := H
  refine And.intro (fun c => ?_) (fun c => ?_)
  · replace H := H.1 c
    exact ⟨fun h => absurd h (by decide), _, rfl, H⟩
  · replace H := H.2 c
    refine And.intro R.1 ?_
    refine Or.inl ⟨_, (ra_r65 R), ?_⟩
    refine ⟨(Or.inr (ra_k65 R)), vp_cst (ra_l65 R) H.1, ?_⟩
    replace H := H.2
    refine And.intro (fun c => ?_) (fun c => ?_)
    · replace H := H.1 c
      refine And.intro (Nat.le_of_ble_eq_true rfl) ?_
      refine And.intro (Nat.le_of_ble_eq_true rfl) (And.intro R.1 ?_)
      refine Cl.mono H (fun r M3 h => ?_)
      obtain ⟨rfl, H⟩ := h
      obtain ⟨R, H⟩ := H
      refine And.intro R.1 ?_
      refine Or.inl ⟨_, (ra_r1 R), ?_⟩
      refine Or.inl ⟨(ra_k1 R), vp_cst (ra_l1 R) H.1, ?_⟩
      replace H := H.2
      exact ⟨fun h => absurd h (by decide), _, rfl, H⟩
    · replace H := H.2 c
      exact ⟨fun h => absurd h (by decide), _, rfl, H⟩
