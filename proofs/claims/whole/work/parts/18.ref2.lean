/-! THE REFERENCE, block by block: by program (wip/tools/refall.py) -/
theorem r_greatest {G : GT} {d m : Nat} {M : Mem} (R : RefAt M m) {a1 : Int32} {Q : Int32 → Mem → Prop} (H : vp_in a1 64 ∧ (vp_in a1 64 ∧ (((vi M (m + 10) (a1).toNatClampNeg) ≤ (vi M (m + 9) (a1).toNatClampNeg) → vp_in a1 64 ∧ (Q (vi M (m + 9) (a1).toNatClampNeg) M)) ∧ (¬ (vi M (m + 10) (a1).toNatClampNeg) ≤ (vi M (m + 9) (a1).toNatClampNeg) → vp_in a1 64 ∧ (Q (vi M (m + 10) (a1).toNatClampNeg) M))))) : CI G (d + 1) 211 [.ref m, .int a1] M Q := by
  refine Cl.ofM (Nat.le_of_ble_eq_true rfl) rfl ?_
  refine vcc ok211 0 [] ?_
  refine And.intro R.1 ?_
  refine Or.inl ⟨_, (ra_r10 R), ?_⟩
  refine Or.inl ⟨(ra_k10 R), vp_cst (ra_l10 R) H.1, ?_⟩
  replace H := H.2
  refine And.intro R.1 ?_
  refine Or.inl ⟨_, (ra_r9 R), ?_⟩
  refine Or.inl ⟨(ra_k9 R), vp_cst (ra_l9 R) H.1, ?_⟩
  replace H := H.2
  refine And.intro (fun c => ?_) (fun c => ?_)
  · replace H := H.1 c
    refine And.intro R.1 ?_
    refine Or.inl ⟨_, (ra_r9 R), ?_⟩
    refine Or.inl ⟨(ra_k9 R), vp_cst (ra_l9 R) H.1, ?_⟩
    replace H := H.2
    exact ⟨fun h => absurd h (by decide), _, rfl, H⟩
  · replace H := H.2 c
    refine And.intro R.1 ?_
    refine Or.inl ⟨_, (ra_r10 R), ?_⟩
    refine Or.inl ⟨(ra_k10 R), vp_cst (ra_l10 R) H.1, ?_⟩
    replace H := H.2
    exact ⟨fun h => absurd h (by decide), _, rfl, H⟩

theorem r_isBetween {G : GT} {d m : Nat} {M : Mem} (R : RefAt M m) {a1 : Int32} {a2 : Int32} {a3 : Int32} {Q : Int32 → Mem → Prop} (H : vp_in a1 64 ∧ (((vi M (m + 8) (a1).toNatClampNeg) < a2 → ((0 : Int32) = 0 ∨ (0 : Int32) = 1) ∧ Q (0 : Int32) M) ∧ (¬ (vi M (m + 8) (a1).toNatClampNeg) < a2 → vp_in a1 64 ∧ ((a3 < (vi M (m + 9) (a1).toNatClampNeg) → ((0 : Int32) = 0 ∨ (0 : Int32) = 1) ∧ Q (0 : Int32) M) ∧ (¬ a3 < (vi M (m + 9) (a1).toNatClampNeg) → vp_in a1 64 ∧ (((vi M (m + 10) (a1).toNatClampNeg) ≤ a2 → ((0 : Int32) = 0 ∨ (0 : Int32) = 1) ∧ Q (0 : Int32) M) ∧ (¬ (vi M (m + 10) (a1).toNatClampNeg) ≤ a2 → vp_in a1 64 ∧ ((a3 ≤ (vi M (m + 10) (a1).toNatClampNeg) → ((0 : Int32) = 0 ∨ (0 : Int32) = 1) ∧ Q (0 : Int32) M) ∧ (¬ a3 ≤ (vi M (m + 10) (a1).toNatClampNeg) → ((1 : Int32) = 0 ∨ (1 : Int32) = 1) ∧ Q (1 : Int32) M))))))))) : CI G (d + 1) 212 [.ref m, .int a1, .int a2, .int a3] M Q := by
  refine Cl.ofM (Nat.le_of_ble_eq_true rfl) rfl ?_
  refine vcc ok212 0 [] ?_
  refine And.intro R.1 ?_
  refine Or.inl ⟨_, (ra_r8 R), ?_⟩
  refine Or.inl ⟨(ra_k8 R), vp_cst (ra_l8 R) H.1, ?_⟩
  replace H := H.2
  refine And.intro (fun c => ?_) (fun c => ?_)
  · replace H := H.1 c
    exact ⟨fun _ => H.1, _, rfl, H.2⟩
  · replace H := H.2 c
    refine And.intro R.1 ?_
    refine Or.inl ⟨_, (ra_r9 R), ?_⟩
    refine Or.inl ⟨(ra_k9 R), vp_cst (ra_l9 R) H.1, ?_⟩
    replace H := H.2
    refine And.intro (fun c => ?_) (fun c => ?_)
    · replace H := H.1 c
      exact ⟨fun _ => H.1, _, rfl, H.2⟩
    · replace H := H.2 c
      refine And.intro R.1 ?_
      refine Or.inl ⟨_, (ra_r10 R), ?_⟩
      refine Or.inl ⟨(ra_k10 R), vp_cst (ra_l10 R) H.1, ?_⟩
      replace H := H.2
      refine And.intro (fun c => ?_) (fun c => ?_)
      · replace H := H.1 c
        exact ⟨fun _ => H.1, _, rfl, H.2⟩
      · replace H := H.2 c
        refine And.intro R.1 ?_
        refine Or.inl ⟨_, (ra_r10 R), ?_⟩
        refine Or.inl ⟨(ra_k10 R), vp_cst (ra_l10 R) H.1, ?_⟩
        replace H := H.2
        refine And.intro (fun c => ?_) (fun c => ?_)
        · replace H := H.1 c
          exact ⟨fun _ => H.1, _, rfl, H.2⟩
        · replace H := H.2 c
          exact ⟨fun _ => H.1, _, rfl, H.2⟩

theorem r_isWithin {G : GT} {d m : Nat} {M : Mem} (R : RefAt M m) {a1 : Int32} {a2 : Int32} {Q : Int32 → Mem → Prop} (H : vp_in a2 64 ∧ (vp_in a2 64 ∧ (((vi M (m + 8) (a2).toNatClampNeg) ≤ (vi M (m + 10) (a2).toNatClampNeg) → vp_in a2 64 ∧ (At G (d + 1) 213 30 [(0, .ref m), (1, .int a1), (2, .int a2)] [.int (vi M (m + 9) (a2).toNatClampNeg)] M (qI Q))) ∧ (¬ (vi M (m + 8) (a2).toNatClampNeg) ≤ (vi M (m + 10) (a2).toNatClampNeg) → vp_in a2 64 ∧ (At G (d + 1) 213 30 [(0, .ref m), (1, .int a1), (2, .int a2)] [.int (vi M (m + 10) (a2).toNatClampNeg)] M (qI Q)))))) : CI G (d + 1) 213 [.ref m, .int a1, .int a2] M Q := by
  refine Cl.ofM (Nat.le_of_ble_eq_true rfl) rfl ?_
  refine vcc ok213 0 [30, 61, 94, 99] ?_
  refine And.intro R.1 ?_
  refine Or.inl ⟨_, (ra_r10 R), ?_⟩
  refine Or.inl ⟨(ra_k10 R), vp_cst (ra_l10 R) H.1, ?_⟩
  replace H := H.2
  refine And.intro R.1 ?_
  refine Or.inl ⟨_, (ra_r8 R), ?_⟩
  refine Or.inl ⟨(ra_k8 R), vp_cst (ra_l8 R) H.1, ?_⟩
  replace H := H.2
  refine And.intro (fun c => ?_) (fun c => ?_)
  · replace H := H.1 c
    refine And.intro R.1 ?_
    refine Or.inl ⟨_, (ra_r9 R), ?_⟩
    refine Or.inl ⟨(ra_k9 R), vp_cst (ra_l9 R) H.1, ?_⟩
    replace H := H.2
    exact H
  · replace H := H.2 c
    refine And.intro R.1 ?_
    refine Or.inl ⟨_, (ra_r10 R), ?_⟩
    refine Or.inl ⟨(ra_k10 R), vp_cst (ra_l10 R) H.1, ?_⟩
    replace H := H.2
    exact H

theorem r_isWithin_30 {G : GT} {d m : Nat} {M : Mem} (R : RefAt M m) {l1 : Int32} {l2 : Int32} {t0 : Int32} {Q : Int32 → Mem → Prop} (H : vp_in l2 64 ∧ (vp_in l2 64 ∧ (((vi M (m + 8) (l2).toNatClampNeg) ≤ (vi M (m + 10) (l2).toNatClampNeg) → vp_in l2 64 ∧ (At G (d + 1) 213 61 [(0, .ref m), (1, .int l1), (2, .int l2), (3, .int t0)] [.int (vi M (m + 10) (l2).toNatClampNeg)] M (qI Q))) ∧ (¬ (vi M (m + 8) (l2).toNatClampNeg) ≤ (vi M (m + 10) (l2).toNatClampNeg) → vp_in l2 64 ∧ (At G (d + 1) 213 61 [(0, .ref m), (1, .int l1), (2, .int l2), (3, .int t0)] [.int (vi M (m + 8) (l2).toNatClampNeg)] M (qI Q)))))) : At G (d + 1) 213 30 [(0, .ref m), (1, .int l1), (2, .int l2)] [.int t0] M (qI Q) := by
  refine vcc ok213 18 [61, 94, 99] ?_
  refine And.intro R.1 ?_
  refine Or.inl ⟨_, (ra_r10 R), ?_⟩
  refine Or.inl ⟨(ra_k10 R), vp_cst (ra_l10 R) H.1, ?_⟩
  replace H := H.2
  refine And.intro R.1 ?_
  refine Or.inl ⟨_, (ra_r8 R), ?_⟩
  refine Or.inl ⟨(ra_k8 R), vp_cst (ra_l8 R) H.1, ?_⟩
  replace H := H.2
  refine And.intro (fun c => ?_) (fun c => ?_)
  · replace H := H.1 c
    refine And.intro R.1 ?_
    refine Or.inl ⟨_, (ra_r10 R), ?_⟩
    refine Or.inl ⟨(ra_k10 R), vp_cst (ra_l10 R) H.1, ?_⟩
    replace H := H.2
    exact H
  · replace H := H.2 c
    refine And.intro R.1 ?_
    refine Or.inl ⟨_, (ra_r8 R), ?_⟩
    refine Or.inl ⟨(ra_k8 R), vp_cst (ra_l8 R) H.1, ?_⟩
    replace H := H.2
    exact H

theorem r_isWithin_61 {G : GT} {d m : Nat} {M : Mem} (R : RefAt M m) {l1 : Int32} {l2 : Int32} {l3 : Int32} {t0 : Int32} {Q : Int32 → Mem → Prop} (H : vp_in l2 64 ∧ (vp_in l2 64 ∧ (CI G d 212 [.ref m, .int l1, .int (vi M (m + 8) (l2).toNatClampNeg), .int (vi M (m + 9) (l2).toNatClampNeg)] M (fun v2 M1 => RefAt M1 m ∧ ((¬ v2 = 0 → At G (d + 1) 213 94 [] [] M1 (qI Q)) ∧ (v2 = 0 → CI G d 212 [.ref m, .int l1, .int l3, .int t0] M1 (fun v4 M3 => RefAt M3 m ∧ ((v4 = 0 → At G (d + 1) 213 99 [] [.int (0 : Int32)] M3 (qI Q)) ∧ (¬ v4 = 0 → At G (d + 1) 213 94 [] [] M3 (qI Q)))))))))) : At G (d + 1) 213 61 [(0, .ref m), (1, .int l1), (2, .int l2), (3, .int l3)] [.int t0] M (qI Q) := by
  refine vcc ok213 37 [30, 94, 99] ?_
  refine And.intro R.1 ?_
  refine Or.inl ⟨_, (ra_r8 R), ?_⟩
  refine Or.inl ⟨(ra_k8 R), vp_cst (ra_l8 R) H.1, ?_⟩
  replace H := H.2
  refine And.intro R.1 ?_
  refine Or.inl ⟨_, (ra_r9 R), ?_⟩
  refine Or.inl ⟨(ra_k9 R), vp_cst (ra_l9 R) H.1, ?_⟩
  replace H := H.2
  refine And.intro (Nat.le_of_ble_eq_true rfl) ?_
  refine And.intro (Nat.le_of_ble_eq_true rfl) (And.intro R.1 ?_)
  refine Cl.mono H (fun r M1 h => ?_)
  obtain ⟨v2, rfl, H⟩ := h
  obtain ⟨R, H⟩ := H
  refine And.intro (fun c => ?_) (fun c => ?_)
  · replace H := H.1 c
    exact At.keep [] H
  · replace H := H.2 c
    refine And.intro (Nat.le_of_ble_eq_true rfl) ?_
    refine And.intro (Nat.le_of_ble_eq_true rfl) (And.intro R.1 ?_)
    refine Cl.mono H (fun r M3 h => ?_)
    obtain ⟨v4, rfl, H⟩ := h
    obtain ⟨R, H⟩ := H
    refine And.intro (fun c => ?_) (fun c => ?_)
    · replace H := H.1 c
      exact At.keep [] H
    · replace H := H.2 c
      exact At.keep [] H

theorem r_isWithin_94 {G : GT} {d m : Nat} {M : Mem} (R : RefAt M m)  {Q : Int32 → Mem → Prop} (H : At G (d + 1) 213 99 [] [.int (1 : Int32)] M (qI Q)) : At G (d + 1) 213 94 [] [] M (qI Q) := by
  refine vcc ok213 56 [30, 61, 99] ?_
  exact H

theorem r_isWithin_99 {G : GT} {d m : Nat} {M : Mem} (R : RefAt M m) {t0 : Int32} {Q : Int32 → Mem → Prop} (H : (t0 = 0 ∨ t0 = 1) ∧ Q t0 M) : At G (d + 1) 213 99 [] [.int t0] M (qI Q) := by
  refine vcc ok213 59 [30, 61, 94] ?_
  exact ⟨fun _ => H.1, _, rfl, H.2⟩

theorem r_moveClash {G : GT} {d m : Nat} {M : Mem} (R : RefAt M m) {a1 : Int32} {a2 : Int32} {Q : Int32 → Mem → Prop} (H : CI G d 211 [.ref m, .int a1] M (fun v2 M1 => RefAt M1 m ∧ (CI G d 210 [.ref m, .int a2] M1 (fun v4 M3 => RefAt M3 m ∧ ((v2 ≤ v4 → At G (d + 1) 214 26 [(0, .ref m), (1, .int a1), (2, .int a2)] [] M3 (qI Q)) ∧ (¬ v2 ≤ v4 → CI G d 211 [.ref m, .int a2] M3 (fun v6 M5 => RefAt M5 m ∧ (CI G d 210 [.ref m, .int a1] M5 (fun v8 M7 => RefAt M7 m ∧ ((v8 < v6 → At G (d + 1) 214 45 [(0, .ref m), (1, .int a1), (2, .int a2)] [] M7 (qI Q)) ∧ (¬ v8 < v6 → At G (d + 1) 214 26 [(0, .ref m), (1, .int a1), (2, .int a2)] [] M7 (qI Q)))))))))))) : CI G (d + 1) 214 [.ref m, .int a1, .int a2] M Q := by
  refine Cl.ofM (Nat.le_of_ble_eq_true rfl) rfl ?_
  refine vcc ok214 0 [26, 45, 46, 82, 83] ?_
  refine And.intro (Nat.le_of_ble_eq_true rfl) ?_
  refine And.intro (Nat.le_of_ble_eq_true rfl) (And.intro R.1 ?_)
  refine Cl.mono H (fun r M1 h => ?_)
  obtain ⟨v2, rfl, H⟩ := h
  obtain ⟨R, H⟩ := H
  refine And.intro (Nat.le_of_ble_eq_true rfl) ?_
  refine And.intro (Nat.le_of_ble_eq_true rfl) (And.intro R.1 ?_)
  refine Cl.mono H (fun r M3 h => ?_)
  obtain ⟨v4, rfl, H⟩ := h
  obtain ⟨R, H⟩ := H
  refine And.intro (fun c => ?_) (fun c => ?_)
  · replace H := H.1 c
    exact H
  · replace H := H.2 c
    refine And.intro (Nat.le_of_ble_eq_true rfl) ?_
    refine And.intro (Nat.le_of_ble_eq_true rfl) (And.intro R.1 ?_)
    refine Cl.mono H (fun r M5 h => ?_)
    obtain ⟨v6, rfl, H⟩ := h
    obtain ⟨R, H⟩ := H
    refine And.intro (Nat.le_of_ble_eq_true rfl) ?_
    refine And.intro (Nat.le_of_ble_eq_true rfl) (And.intro R.1 ?_)
    refine Cl.mono H (fun r M7 h => ?_)
    obtain ⟨v8, rfl, H⟩ := h
    obtain ⟨R, H⟩ := H
    refine And.intro (fun c => ?_) (fun c => ?_)
    · replace H := H.1 c
      exact H
    · replace H := H.2 c
      exact H

theorem r_moveClash_26 {G : GT} {d m : Nat} {M : Mem} (R : RefAt M m) {l1 : Int32} {l2 : Int32} {Q : Int32 → Mem → Prop} (H : vp_in l1 64 ∧ (vp_in l2 64 ∧ (((vi M (m + 10) (l1).toNatClampNeg) = (vi M (m + 10) (l2).toNatClampNeg) → At G (d + 1) 214 45 [(0, .ref m), (1, .int l1), (2, .int l2)] [] M (qI Q)) ∧ (¬ (vi M (m + 10) (l1).toNatClampNeg) = (vi M (m + 10) (l2).toNatClampNeg) → At G (d + 1) 214 46 [(0, .ref m), (1, .int l1), (2, .int l2)] [.int (1 : Int32)] M (qI Q))))) : At G (d + 1) 214 26 [(0, .ref m), (1, .int l1), (2, .int l2)] [] M (qI Q) := by
  refine vcc ok214 14 [45, 46, 82, 83] ?_
  refine And.intro R.1 ?_
  refine Or.inl ⟨_, (ra_r10 R), ?_⟩
  refine Or.inl ⟨(ra_k10 R), vp_cst (ra_l10 R) H.1, ?_⟩
  replace H := H.2
  refine And.intro R.1 ?_
  refine Or.inl ⟨_, (ra_r10 R), ?_⟩
  refine Or.inl ⟨(ra_k10 R), vp_cst (ra_l10 R) H.1, ?_⟩
  replace H := H.2
  refine And.intro (fun c => ?_) (fun c => ?_)
  · replace H := H.1 c
    exact H
  · replace H := H.2 c
    exact H

theorem r_moveClash_45 {G : GT} {d m : Nat} {M : Mem} (R : RefAt M m) {l1 : Int32} {l2 : Int32} {Q : Int32 → Mem → Prop} (H : At G (d + 1) 214 46 [(0, .ref m), (1, .int l1), (2, .int l2)] [.int (0 : Int32)] M (qI Q)) : At G (d + 1) 214 45 [(0, .ref m), (1, .int l1), (2, .int l2)] [] M (qI Q) := by
  refine vcc ok214 25 [26, 46, 82, 83] ?_
  exact H

theorem r_moveClash_46 {G : GT} {d m : Nat} {M : Mem} (R : RefAt M m) {l1 : Int32} {l2 : Int32} {t0 : Int32} {Q : Int32 → Mem → Prop} (H : CI G d 204 [.ref m, .int l1, .int l2] M (fun v10 M9 => RefAt M9 m ∧ ((¬ v10 = 0 → At G (d + 1) 214 82 [] [] M9 (qI Q)) ∧ (v10 = 0 → (¬ t0 = 0 → At G (d + 1) 214 82 [] [] M9 (qI Q)) ∧ (t0 = 0 → CI G d 213 [.ref m, .int l1, .int l2] M9 (fun v12 M11 => RefAt M11 m ∧ ((¬ v12 = 0 → At G (d + 1) 214 82 [] [] M11 (qI Q)) ∧ (v12 = 0 → CI G d 213 [.ref m, .int l2, .int l1] M11 (fun v14 M13 => RefAt M13 m ∧ ((¬ v14 = 0 → At G (d + 1) 214 82 [] [] M13 (qI Q)) ∧ (v14 = 0 → At G (d + 1) 214 83 [] [.int (1 : Int32)] M13 (qI Q)))))))))))) : At G (d + 1) 214 46 [(0, .ref m), (1, .int l1), (2, .int l2)] [.int t0] M (qI Q) := by
  refine vcc ok214 26 [26, 45, 82, 83] ?_
  refine And.intro (Nat.le_of_ble_eq_true rfl) ?_
  refine And.intro (Nat.le_of_ble_eq_true rfl) (And.intro R.1 ?_)
  refine Cl.mono H (fun r M9 h => ?_)
  obtain ⟨v10, rfl, H⟩ := h
  obtain ⟨R, H⟩ := H
  refine And.intro (fun c => ?_) (fun c => ?_)
  · replace H := H.1 c
    exact At.keep [] H
  · replace H := H.2 c
    refine And.intro (fun c => ?_) (fun c => ?_)
    · replace H := H.1 c
      exact At.keep [] H
    · replace H := H.2 c
      refine And.intro (Nat.le_of_ble_eq_true rfl) ?_
      refine And.intro (Nat.le_of_ble_eq_true rfl) (And.intro R.1 ?_)
      refine Cl.mono H (fun r M11 h => ?_)
      obtain ⟨v12, rfl, H⟩ := h
      obtain ⟨R, H⟩ := H
      refine And.intro (fun c => ?_) (fun c => ?_)
      · replace H := H.1 c
        exact At.keep [] H
      · replace H := H.2 c
        refine And.intro (Nat.le_of_ble_eq_true rfl) ?_
        refine And.intro (Nat.le_of_ble_eq_true rfl) (And.intro R.1 ?_)
        refine Cl.mono H (fun r M13 h => ?_)
        obtain ⟨v14, rfl, H⟩ := h
        obtain ⟨R, H⟩ := H
        refine And.intro (fun c => ?_) (fun c => ?_)
        · replace H := H.1 c
          exact At.keep [] H
        · replace H := H.2 c
          exact At.keep [] H

theorem r_moveClash_82 {G : GT} {d m : Nat} {M : Mem} (R : RefAt M m)  {Q : Int32 → Mem → Prop} (H : At G (d + 1) 214 83 [] [.int (0 : Int32)] M (qI Q)) : At G (d + 1) 214 82 [] [] M (qI Q) := by
  refine vcc ok214 46 [26, 45, 46, 83] ?_
  exact H

theorem r_moveClash_83 {G : GT} {d m : Nat} {M : Mem} (R : RefAt M m) {t0 : Int32} {Q : Int32 → Mem → Prop} (H : (t0 = 0 ∨ t0 = 1) ∧ Q t0 M) : At G (d + 1) 214 83 [] [.int t0] M (qI Q) := by
  refine vcc ok214 47 [26, 45, 46, 82] ?_
  exact ⟨fun _ => H.1, _, rfl, H.2⟩

theorem r_isInside {G : GT} {d m : Nat} {M : Mem} (R : RefAt M m) {a1 : Int32} {a2 : Int32} {Q : Int32 → Mem → Prop} (H : vp_in a1 64 ∧ (vp_in a2 64 ∧ (((vi M (m + 8) (a1).toNatClampNeg) ≤ (vi M (m + 8) (a2).toNatClampNeg) → ((0 : Int32) = 0 ∨ (0 : Int32) = 1) ∧ Q (0 : Int32) M) ∧ (¬ (vi M (m + 8) (a1).toNatClampNeg) ≤ (vi M (m + 8) (a2).toNatClampNeg) → vp_in a1 64 ∧ (vp_in a2 64 ∧ (((vi M (m + 9) (a2).toNatClampNeg) ≤ (vi M (m + 8) (a1).toNatClampNeg) → ((0 : Int32) = 0 ∨ (0 : Int32) = 1) ∧ Q (0 : Int32) M) ∧ (¬ (vi M (m + 9) (a2).toNatClampNeg) ≤ (vi M (m + 8) (a1).toNatClampNeg) → ((1 : Int32) = 0 ∨ (1 : Int32) = 1) ∧ Q (1 : Int32) M))))))) : CI G (d + 1) 215 [.ref m, .int a1, .int a2] M Q := by
  refine Cl.ofM (Nat.le_of_ble_eq_true rfl) rfl ?_
  refine vcc ok215 0 [] ?_
  refine And.intro R.1 ?_
  refine Or.inl ⟨_, (ra_r8 R), ?_⟩
  refine Or.inl ⟨(ra_k8 R), vp_cst (ra_l8 R) H.1, ?_⟩
  replace H := H.2
  refine And.intro R.1 ?_
  refine Or.inl ⟨_, (ra_r8 R), ?_⟩
  refine Or.inl ⟨(ra_k8 R), vp_cst (ra_l8 R) H.1, ?_⟩
  replace H := H.2
  refine And.intro (fun c => ?_) (fun c => ?_)
  · replace H := H.1 c
    exact ⟨fun _ => H.1, _, rfl, H.2⟩
  · replace H := H.2 c
    refine And.intro R.1 ?_
    refine Or.inl ⟨_, (ra_r8 R), ?_⟩
    refine Or.inl ⟨(ra_k8 R), vp_cst (ra_l8 R) H.1, ?_⟩
    replace H := H.2
    refine And.intro R.1 ?_
    refine Or.inl ⟨_, (ra_r9 R), ?_⟩
    refine Or.inl ⟨(ra_k9 R), vp_cst (ra_l9 R) H.1, ?_⟩
    replace H := H.2
    refine And.intro (fun c => ?_) (fun c => ?_)
    · replace H := H.1 c
      exact ⟨fun _ => H.1, _, rfl, H.2⟩
    · replace H := H.2 c
      exact ⟨fun _ => H.1, _, rfl, H.2⟩

theorem r_clashOf {G : GT} {d m : Nat} {M : Mem} (R : RefAt M m) {a1 : Int32} {a2 : Int32} {Q : Int32 → Mem → Prop} (H : vp_in a1 64 ∧ (vp_in a2 64 ∧ (((vi M (m + 7) (a2).toNatClampNeg) < (vi M (m + 7) (a1).toNatClampNeg) → At G (d + 1) 216 20 [(0, .ref m), (1, .int a1), (2, .int a2)] [.int a2] M (qI Q)) ∧ (¬ (vi M (m + 7) (a2).toNatClampNeg) < (vi M (m + 7) (a1).toNatClampNeg) → At G (d + 1) 216 20 [(0, .ref m), (1, .int a1), (2, .int a2)] [.int a1] M (qI Q))))) : CI G (d + 1) 216 [.ref m, .int a1, .int a2] M Q := by
  refine Cl.ofM (Nat.le_of_ble_eq_true rfl) rfl ?_
  refine vcc ok216 0 [20, 31, 90, 91, 104, 128, 129, 158, 159, 189, 191, 205, 221, 222] ?_
  refine And.intro R.1 ?_
  refine Or.inl ⟨_, (ra_r7 R), ?_⟩
  refine Or.inl ⟨(ra_k7 R), vp_cst (ra_l7 R) H.1, ?_⟩
  replace H := H.2
  refine And.intro R.1 ?_
  refine Or.inl ⟨_, (ra_r7 R), ?_⟩
  refine Or.inl ⟨(ra_k7 R), vp_cst (ra_l7 R) H.1, ?_⟩
  replace H := H.2
  refine And.intro (fun c => ?_) (fun c => ?_)
  · replace H := H.1 c
    exact H
  · replace H := H.2 c
    exact H

theorem r_clashOf_20 {G : GT} {d m : Nat} {M : Mem} (R : RefAt M m) {l1 : Int32} {l2 : Int32} {t0 : Int32} {Q : Int32 → Mem → Prop} (H : (¬ t0 = l1 → At G (d + 1) 216 31 [(0, .ref m), (3, .int t0)] [.int l1] M (qI Q)) ∧ (t0 = l1 → At G (d + 1) 216 31 [(0, .ref m), (3, .int t0)] [.int l2] M (qI Q))) : At G (d + 1) 216 20 [(0, .ref m), (1, .int l1), (2, .int l2)] [.int t0] M (qI Q) := by
  refine vcc ok216 12 [31, 90, 91, 104, 128, 129, 158, 159, 189, 191, 205, 221, 222] ?_
  refine And.intro (fun c => ?_) (fun c => ?_)
  · replace H := H.1 c
    exact At.keep [0, 3] H
  · replace H := H.2 c
    exact At.keep [0, 3] H

theorem r_clashOf_31 {G : GT} {d m : Nat} {M : Mem} (R : RefAt M m) {l3 : Int32} {t0 : Int32} {Q : Int32 → Mem → Prop} (H : vp_in l3 64 ∧ (vp_in t0 64 ∧ ((¬ (vi M (m + 7) (l3).toNatClampNeg) = 0 → (¬ (vi M (m + 7) (l3).toNatClampNeg) = (4 : Int32) → At G (d + 1) 216 159 [(0, .ref m), (3, .int l3), (4, .int t0), (5, .int (vi M (m + 7) (l3).toNatClampNeg)), (6, .int (vi M (m + 7) (t0).toNatClampNeg))] [] M (qI Q)) ∧ ((vi M (m + 7) (l3).toNatClampNeg) = (4 : Int32) → (¬ (vi M (m + 7) (t0).toNatClampNeg) = (4 : Int32) → At G (d + 1) 216 159 [(0, .ref m), (3, .int l3), (4, .int t0), (5, .int (vi M (m + 7) (l3).toNatClampNeg)), (6, .int (vi M (m + 7) (t0).toNatClampNeg))] [] M (qI Q)) ∧ ((vi M (m + 7) (t0).toNatClampNeg) = (4 : Int32) → CI G d 214 [.ref m, .int l3, .int t0] M (fun v2 M1 => RefAt M1 m ∧ ((v2 = 0 → At G (d + 1) 216 158 [] [.int (0 : Int32)] M1 (qI Q)) ∧ (¬ v2 = 0 → At G (d + 1) 216 158 [] [.int (6 : Int32)] M1 (qI Q))))))) ∧ ((vi M (m + 7) (l3).toNatClampNeg) = 0 → (¬ (vi M (m + 7) (t0).toNatClampNeg) = 0 → ((vi M (m + 7) (t0).toNatClampNeg) = (1 : Int32) → At G (d + 1) 216 104 [(0, .ref m), (3, .int l3), (4, .int t0), (6, .int (vi M (m + 7) (t0).toNatClampNeg))] [] M (qI Q)) ∧ (¬ (vi M (m + 7) (t0).toNatClampNeg) = (1 : Int32) → (¬ (vi M (m + 7) (t0).toNatClampNeg) = (5 : Int32) → At G (d + 1) 216 128 [] [] M (qI Q)) ∧ ((vi M (m + 7) (t0).toNatClampNeg) = (5 : Int32) → At G (d + 1) 216 104 [(0, .ref m), (3, .int l3), (4, .int t0), (6, .int (vi M (m + 7) (t0).toNatClampNeg))] [] M (qI Q)))) ∧ ((vi M (m + 7) (t0).toNatClampNeg) = 0 → vp_in l3 64 ∧ (vp_in t0 64 ∧ ((¬ (vi M (m + 8) (l3).toNatClampNeg) = (vi M (m + 8) (t0).toNatClampNeg) → At G (d + 1) 216 90 [] [] M (qI Q)) ∧ ((vi M (m + 8) (l3).toNatClampNeg) = (vi M (m + 8) (t0).toNatClampNeg) → CI G d 204 [.ref m, .int l3, .int t0] M (fun v4 M3 => RefAt M3 m ∧ ((¬ v4 = 0 → At G (d + 1) 216 90 [] [] M3 (qI Q)) ∧ (v4 = 0 → At G (d + 1) 216 91 [] [.int (3 : Int32)] M3 (qI Q)))))))))))) : At G (d + 1) 216 31 [(0, .ref m), (3, .int l3)] [.int t0] M (qI Q) := by
  refine vcc ok216 19 [20, 90, 91, 104, 128, 129, 158, 159, 189, 191, 205, 221, 222] ?_
  refine And.intro R.1 ?_
  refine Or.inl ⟨_, (ra_r7 R), ?_⟩
  refine Or.inl ⟨(ra_k7 R), vp_cst (ra_l7 R) H.1, ?_⟩
  replace H := H.2
  refine And.intro R.1 ?_
  refine Or.inl ⟨_, (ra_r7 R), ?_⟩
  refine Or.inl ⟨(ra_k7 R), vp_cst (ra_l7 R) H.1, ?_⟩
  replace H := H.2
  refine And.intro (fun c => ?_) (fun c => ?_)
  · replace H := H.1 c
    refine And.intro (fun c => ?_) (fun c => ?_)
    · replace H := H.1 c
      exact H
    · replace H := H.2 c
      refine And.intro (fun c => ?_) (fun c => ?_)
      · replace H := H.1 c
        exact H
      · replace H := H.2 c
        refine And.intro (Nat.le_of_ble_eq_true rfl) ?_
        refine And.intro (Nat.le_of_ble_eq_true rfl) (And.intro R.1 ?_)
        refine Cl.mono H (fun r M1 h => ?_)
        obtain ⟨v2, rfl, H⟩ := h
        obtain ⟨R, H⟩ := H
        refine And.intro (fun c => ?_) (fun c => ?_)
        · replace H := H.1 c
          exact At.keep [] H
        · replace H := H.2 c
          exact At.keep [] H
  · replace H := H.2 c
    refine And.intro (fun c => ?_) (fun c => ?_)
    · replace H := H.1 c
      refine And.intro (fun c => ?_) (fun c => ?_)
      · replace H := H.1 c
        exact At.keep [0, 3, 4, 6] H
      · replace H := H.2 c
        refine And.intro (fun c => ?_) (fun c => ?_)
        · replace H := H.1 c
          exact At.keep [] H
        · replace H := H.2 c
          exact At.keep [0, 3, 4, 6] H
    · replace H := H.2 c
      refine And.intro R.1 ?_
      refine Or.inl ⟨_, (ra_r8 R), ?_⟩
      refine Or.inl ⟨(ra_k8 R), vp_cst (ra_l8 R) H.1, ?_⟩
      replace H := H.2
      refine And.intro R.1 ?_
      refine Or.inl ⟨_, (ra_r8 R), ?_⟩
      refine Or.inl ⟨(ra_k8 R), vp_cst (ra_l8 R) H.1, ?_⟩
      replace H := H.2
      refine And.intro (fun c => ?_) (fun c => ?_)
      · replace H := H.1 c
        exact At.keep [] H
      · replace H := H.2 c
        refine And.intro (Nat.le_of_ble_eq_true rfl) ?_
        refine And.intro (Nat.le_of_ble_eq_true rfl) (And.intro R.1 ?_)
        refine Cl.mono H (fun r M3 h => ?_)
        obtain ⟨v4, rfl, H⟩ := h
        obtain ⟨R, H⟩ := H
        refine And.intro (fun c => ?_) (fun c => ?_)
        · replace H := H.1 c
          exact At.keep [] H
        · replace H := H.2 c
          exact At.keep [] H

theorem r_clashOf_90 {G : GT} {d m : Nat} {M : Mem} (R : RefAt M m)  {Q : Int32 → Mem → Prop} (H : At G (d + 1) 216 91 [] [.int (0 : Int32)] M (qI Q)) : At G (d + 1) 216 90 [] [] M (qI Q) := by
  refine vcc ok216 50 [20, 31, 91, 104, 128, 129, 158, 159, 189, 191, 205, 221, 222] ?_
  exact H

theorem r_clashOf_91 {G : GT} {d m : Nat} {M : Mem} (R : RefAt M m) {t0 : Int32} {Q : Int32 → Mem → Prop} (H : Q t0 M) : At G (d + 1) 216 91 [] [.int t0] M (qI Q) := by
  refine vcc ok216 51 [20, 31, 90, 104, 128, 129, 158, 159, 189, 191, 205, 221, 222] ?_
  exact ⟨fun h => absurd h (by decide), _, rfl, H⟩

theorem r_clashOf_104 {G : GT} {d m : Nat} {M : Mem} (R : RefAt M m) {l3 : Int32} {l4 : Int32} {l6 : Int32} {Q : Int32 → Mem → Prop} (H : CI G d 215 [.ref m, .int l3, .int l4] M (fun v6 M5 => RefAt M5 m ∧ ((v6 = 0 → At G (d + 1) 216 128 [] [] M5 (qI Q)) ∧ (¬ v6 = 0 → (¬ l6 = (1 : Int32) → At G (d + 1) 216 129 [] [.int (5 : Int32)] M5 (qI Q)) ∧ (l6 = (1 : Int32) → At G (d + 1) 216 129 [] [.int (4 : Int32)] M5 (qI Q)))))) : At G (d + 1) 216 104 [(0, .ref m), (3, .int l3), (4, .int l4), (6, .int l6)] [] M (qI Q) := by
  refine vcc ok216 58 [20, 31, 90, 91, 128, 129, 158, 159, 189, 191, 205, 221, 222] ?_
  refine And.intro (Nat.le_of_ble_eq_true rfl) ?_
  refine And.intro (Nat.le_of_ble_eq_true rfl) (And.intro R.1 ?_)
  refine Cl.mono H (fun r M5 h => ?_)
  obtain ⟨v6, rfl, H⟩ := h
  obtain ⟨R, H⟩ := H
  refine And.intro (fun c => ?_) (fun c => ?_)
  · replace H := H.1 c
    exact At.keep [] H
  · replace H := H.2 c
    refine And.intro (fun c => ?_) (fun c => ?_)
    · replace H := H.1 c
      exact At.keep [] H
    · replace H := H.2 c
      exact At.keep [] H

theorem r_clashOf_128 {G : GT} {d m : Nat} {M : Mem} (R : RefAt M m)  {Q : Int32 → Mem → Prop} (H : At G (d + 1) 216 129 [] [.int (0 : Int32)] M (qI Q)) : At G (d + 1) 216 128 [] [] M (qI Q) := by
  refine vcc ok216 70 [20, 31, 90, 91, 104, 129, 158, 159, 189, 191, 205, 221, 222] ?_
  exact H

theorem r_clashOf_129 {G : GT} {d m : Nat} {M : Mem} (R : RefAt M m) {t0 : Int32} {Q : Int32 → Mem → Prop} (H : Q t0 M) : At G (d + 1) 216 129 [] [.int t0] M (qI Q) := by
  refine vcc ok216 71 [20, 31, 90, 91, 104, 128, 158, 159, 189, 191, 205, 221, 222] ?_
  exact ⟨fun h => absurd h (by decide), _, rfl, H⟩

theorem r_clashOf_158 {G : GT} {d m : Nat} {M : Mem} (R : RefAt M m) {t0 : Int32} {Q : Int32 → Mem → Prop} (H : Q t0 M) : At G (d + 1) 216 158 [] [.int t0] M (qI Q) := by
  refine vcc ok216 86 [20, 31, 90, 91, 104, 128, 129, 159, 189, 191, 205, 221, 222] ?_
  exact ⟨fun h => absurd h (by decide), _, rfl, H⟩

theorem r_clashOf_159 {G : GT} {d m : Nat} {M : Mem} (R : RefAt M m) {l3 : Int32} {l4 : Int32} {l5 : Int32} {l6 : Int32} {Q : Int32 → Mem → Prop} (H : CI G d 209 [.ref m, .int l3, .int l4] M (fun v8 M7 => RefAt M7 m ∧ ((¬ v8 = 0 → (¬ l5 = (1 : Int32) → At G (d + 1) 216 191 [(5, .int l5), (6, .int l6)] [] M7 (qI Q)) ∧ (l5 = (1 : Int32) → (l6 = (2 : Int32) → At G (d + 1) 216 189 [] [] M7 (qI Q)) ∧ (¬ l6 = (2 : Int32) → (¬ l6 = (3 : Int32) → At G (d + 1) 216 191 [(5, .int l5), (6, .int l6)] [] M7 (qI Q)) ∧ (l6 = (3 : Int32) → At G (d + 1) 216 189 [] [] M7 (qI Q))))) ∧ (v8 = 0 → Q (0 : Int32) M7)))) : At G (d + 1) 216 159 [(0, .ref m), (3, .int l3), (4, .int l4), (5, .int l5), (6, .int l6)] [] M (qI Q) := by
  refine vcc ok216 87 [20, 31, 90, 91, 104, 128, 129, 158, 189, 191, 205, 221, 222] ?_
  refine And.intro (Nat.le_of_ble_eq_true rfl) ?_
  refine And.intro (Nat.le_of_ble_eq_true rfl) (And.intro R.1 ?_)
  refine Cl.mono H (fun r M7 h => ?_)
  obtain ⟨v8, rfl, H⟩ := h
  obtain ⟨R, H⟩ := H
  refine And.intro (fun c => ?_) (fun c => ?_)
  · replace H := H.1 c
    refine And.intro (fun c => ?_) (fun c => ?_)
    · replace H := H.1 c
      exact At.keep [5, 6] H
    · replace H := H.2 c
      refine And.intro (fun c => ?_) (fun c => ?_)
      · replace H := H.1 c
        exact At.keep [] H
      · replace H := H.2 c
        refine And.intro (fun c => ?_) (fun c => ?_)
        · replace H := H.1 c
          exact At.keep [5, 6] H
        · replace H := H.2 c
          exact At.keep [] H
  · replace H := H.2 c
    exact ⟨fun h => absurd h (by decide), _, rfl, H⟩

theorem r_clashOf_189 {G : GT} {d m : Nat} {M : Mem} (R : RefAt M m)  {Q : Int32 → Mem → Prop} (H : Q (1 : Int32) M) : At G (d + 1) 216 189 [] [] M (qI Q) := by
  refine vcc ok216 103 [20, 31, 90, 91, 104, 128, 129, 158, 159, 191, 205, 221, 222] ?_
  exact ⟨fun h => absurd h (by decide), _, rfl, H⟩

theorem r_clashOf_191 {G : GT} {d m : Nat} {M : Mem} (R : RefAt M m) {l5 : Int32} {l6 : Int32} {Q : Int32 → Mem → Prop} (H : (¬ l5 = (2 : Int32) → At G (d + 1) 216 205 [(5, .int l5), (6, .int l6)] [] M (qI Q)) ∧ (l5 = (2 : Int32) → (¬ l6 = (3 : Int32) → At G (d + 1) 216 205 [(5, .int l5), (6, .int l6)] [] M (qI Q)) ∧ (l6 = (3 : Int32) → Q (2 : Int32) M))) : At G (d + 1) 216 191 [(5, .int l5), (6, .int l6)] [] M (qI Q) := by
  refine vcc ok216 105 [20, 31, 90, 91, 104, 128, 129, 158, 159, 189, 205, 221, 222] ?_
  refine And.intro (fun c => ?_) (fun c => ?_)
  · replace H := H.1 c
    exact H
  · replace H := H.2 c
    refine And.intro (fun c => ?_) (fun c => ?_)
    · replace H := H.1 c
      exact H
    · replace H := H.2 c
      exact ⟨fun h => absurd h (by decide), _, rfl, H⟩

theorem r_clashOf_205 {G : GT} {d m : Nat} {M : Mem} (R : RefAt M m) {l5 : Int32} {l6 : Int32} {Q : Int32 → Mem → Prop} (H : (¬ l6 = (5 : Int32) → At G (d + 1) 216 221 [] [] M (qI Q)) ∧ (l6 = (5 : Int32) → (l5 = (5 : Int32) → At G (d + 1) 216 221 [] [] M (qI Q)) ∧ (¬ l5 = (5 : Int32) → At G (d + 1) 216 222 [] [.int (5 : Int32)] M (qI Q)))) : At G (d + 1) 216 205 [(5, .int l5), (6, .int l6)] [] M (qI Q) := by
  refine vcc ok216 113 [20, 31, 90, 91, 104, 128, 129, 158, 159, 189, 191, 221, 222] ?_
  refine And.intro (fun c => ?_) (fun c => ?_)
  · replace H := H.1 c
    exact At.keep [] H
  · replace H := H.2 c
    refine And.intro (fun c => ?_) (fun c => ?_)
    · replace H := H.1 c
      exact At.keep [] H
    · replace H := H.2 c
      exact At.keep [] H

theorem r_clashOf_221 {G : GT} {d m : Nat} {M : Mem} (R : RefAt M m)  {Q : Int32 → Mem → Prop} (H : At G (d + 1) 216 222 [] [.int (0 : Int32)] M (qI Q)) : At G (d + 1) 216 221 [] [] M (qI Q) := by
  refine vcc ok216 121 [20, 31, 90, 91, 104, 128, 129, 158, 159, 189, 191, 205, 222] ?_
  exact H

theorem r_clashOf_222 {G : GT} {d m : Nat} {M : Mem} (R : RefAt M m) {t0 : Int32} {Q : Int32 → Mem → Prop} (H : Q t0 M) : At G (d + 1) 216 222 [] [.int t0] M (qI Q) := by
  refine vcc ok216 122 [20, 31, 90, 91, 104, 128, 129, 158, 159, 189, 191, 205, 221] ?_
  exact ⟨fun h => absurd h (by decide), _, rfl, H⟩

theorem r_clash {G : GT} {d m : Nat} {M : Mem} (R : RefAt M m) {a1 : Int32} {a2 : Int32} {a3 : Int32} {a4 : Int32} {Q : Int32 → Mem → Prop} (H : CI G d 160 [.ref m, .int a1, .int a2] M (fun v2 M1 => RefAt M1 m ∧ ((v2 = 0 → Q (-1 : Int32) M1) ∧ (¬ v2 = 0 → CI G d 160 [.ref m, .int a3, .int a4] M1 (fun v4 M3 => RefAt M3 m ∧ ((v4 = 0 → Q (-1 : Int32) M3) ∧ (¬ v4 = 0 → (¬ a1 = a3 → CI G d 216 [.ref m, .int (((16 : Int32) * a1) + a2), .int (((16 : Int32) * a3) + a4)] M3 (fun v6 M5 => RefAt M5 m ∧ (Q v6 M5))) ∧ (a1 = a3 → (¬ a2 = a4 → CI G d 216 [.ref m, .int (((16 : Int32) * a1) + a2), .int (((16 : Int32) * a3) + a4)] M3 (fun v8 M7 => RefAt M7 m ∧ (Q v8 M7))) ∧ (a2 = a4 → Q (-1 : Int32) M3))))))))) : CI G (d + 1) 217 [.ref m, .int a1, .int a2, .int a3, .int a4] M Q := by
  refine Cl.ofM (Nat.le_of_ble_eq_true rfl) rfl ?_
  refine vcc ok217 0 [] ?_
  refine And.intro (Nat.le_of_ble_eq_true rfl) ?_
  refine And.intro (Nat.le_of_ble_eq_true rfl) (And.intro R.1 ?_)
  refine Cl.mono H (fun r M1 h => ?_)
  obtain ⟨v2, rfl, H⟩ := h
  obtain ⟨R, H⟩ := H
  refine And.intro (fun c => ?_) (fun c => ?_)
  · replace H := H.1 c
    exact ⟨fun h => absurd h (by decide), _, rfl, H⟩
  · replace H := H.2 c
    refine And.intro (Nat.le_of_ble_eq_true rfl) ?_
    refine And.intro (Nat.le_of_ble_eq_true rfl) (And.intro R.1 ?_)
    refine Cl.mono H (fun r M3 h => ?_)
    obtain ⟨v4, rfl, H⟩ := h
    obtain ⟨R, H⟩ := H
    refine And.intro (fun c => ?_) (fun c => ?_)
    · replace H := H.1 c
      exact ⟨fun h => absurd h (by decide), _, rfl, H⟩
    · replace H := H.2 c
      refine And.intro (fun c => ?_) (fun c => ?_)
      · replace H := H.1 c
        refine And.intro (Nat.le_of_ble_eq_true rfl) ?_
        refine And.intro (Nat.le_of_ble_eq_true rfl) (And.intro R.1 ?_)
        refine Cl.mono H (fun r M5 h => ?_)
        obtain ⟨v6, rfl, H⟩ := h
        obtain ⟨R, H⟩ := H
        exact ⟨fun h => absurd h (by decide), _, rfl, H⟩
      · replace H := H.2 c
        refine And.intro (fun c => ?_) (fun c => ?_)
        · replace H := H.1 c
          refine And.intro (Nat.le_of_ble_eq_true rfl) ?_
          refine And.intro (Nat.le_of_ble_eq_true rfl) (And.intro R.1 ?_)
          refine Cl.mono H (fun r M7 h => ?_)
          obtain ⟨v8, rfl, H⟩ := h
          obtain ⟨R, H⟩ := H
          exact ⟨fun h => absurd h (by decide), _, rfl, H⟩
        · replace H := H.2 c
          exact ⟨fun h => absurd h (by decide), _, rfl, H⟩

theorem r_clashes {G : GT} {d m : Nat} {M : Mem} (R : RefAt M m) {a1 : Int32} {Q : Int32 → Mem → Prop} (H : CI G d 155 [.long ((a1).toInt64), .long (0 : Int64), .long (6 : Int64)] M (fun v2 M1 => RefAt M1 m ∧ ((¬ v2 = 0 → At G (d + 1) 218 18 [(0, .ref m), (1, .int a1), (2, .int (0 : Int32)), (3, .int (0 : Int32))] [] M1 (qI Q)) ∧ (v2 = 0 → Q (-1 : Int32) M1)))) : CI G (d + 1) 218 [.ref m, .int a1] M Q := by
  refine Cl.ofM (Nat.le_of_ble_eq_true rfl) rfl ?_
  refine vcc ok218 0 [18, 27] ?_
  refine And.intro (Nat.le_of_ble_eq_true rfl) ?_
  refine And.intro (Nat.le_of_ble_eq_true rfl) ?_
  refine Cl.mono H (fun r M1 h => ?_)
  obtain ⟨v2, rfl, H⟩ := h
  obtain ⟨R, H⟩ := H
  refine And.intro (fun c => ?_) (fun c => ?_)
  · replace H := H.1 c
    exact H
  · replace H := H.2 c
    exact ⟨fun h => absurd h (by decide), _, rfl, H⟩

theorem r_clashes_18 {G : GT} {d m : Nat} {M : Mem} (R : RefAt M m) {l1 : Int32} {l2 : Int32} {l3 : Int32} {Q : Int32 → Mem → Prop} (H : ((64 : Int32) ≤ l3 → Q l2 M) ∧ (¬ (64 : Int32) ≤ l3 → At G (d + 1) 218 27 [(0, .ref m), (1, .int l1), (2, .int l2), (3, .int l3), (4, .int (0 : Int32))] [] M (qI Q))) : At G (d + 1) 218 18 [(0, .ref m), (1, .int l1), (2, .int l2), (3, .int l3)] [] M (qI Q) := by
  refine vcc ok218 12 [27] ?_
  refine And.intro (fun c => ?_) (fun c => ?_)
  · replace H := H.1 c
    exact ⟨fun h => absurd h (by decide), _, rfl, H⟩
  · replace H := H.2 c
    exact H

theorem r_clashes_27 {G : GT} {d m : Nat} {M : Mem} (R : RefAt M m) {l1 : Int32} {l2 : Int32} {l3 : Int32} {l4 : Int32} {Q : Int32 → Mem → Prop} (H : (l3 ≤ l4 → At G (d + 1) 218 18 [(0, .ref m), (1, .int l1), (2, .int l2), (3, .int (l3 + (1 : Int32)))] [] M (qI Q)) ∧ (¬ l3 ≤ l4 → CI G d 161 [.ref m, .int l3] M (fun v4 M3 => RefAt M3 m ∧ ((v4 = 0 → ((0 : Int32) ≤ 0 → At G (d + 1) 218 27 [(0, .ref m), (1, .int l1), (2, .int (l2 + (0 : Int32))), (3, .int l3), (4, .int (l4 + (1 : Int32)))] [] M3 (qI Q)) ∧ (¬ (0 : Int32) ≤ 0 → (l1 = 0 → At G (d + 1) 218 27 [(0, .ref m), (1, .int l1), (2, .int (l2 + (1 : Int32))), (3, .int l3), (4, .int (l4 + (1 : Int32)))] [] M3 (qI Q)) ∧ (¬ l1 = 0 → (¬ (0 : Int32) = l1 → At G (d + 1) 218 27 [(0, .ref m), (1, .int l1), (2, .int (l2 + (0 : Int32))), (3, .int l3), (4, .int (l4 + (1 : Int32)))] [] M3 (qI Q)) ∧ ((0 : Int32) = l1 → At G (d + 1) 218 27 [(0, .ref m), (1, .int l1), (2, .int (l2 + (1 : Int32))), (3, .int l3), (4, .int (l4 + (1 : Int32)))] [] M3 (qI Q))))) ∧ (¬ v4 = 0 → CI G d 161 [.ref m, .int l4] M3 (fun v6 M5 => RefAt M5 m ∧ ((v6 = 0 → ((0 : Int32) ≤ 0 → At G (d + 1) 218 27 [(0, .ref m), (1, .int l1), (2, .int (l2 + (0 : Int32))), (3, .int l3), (4, .int (l4 + (1 : Int32)))] [] M5 (qI Q)) ∧ (¬ (0 : Int32) ≤ 0 → (l1 = 0 → At G (d + 1) 218 27 [(0, .ref m), (1, .int l1), (2, .int (l2 + (1 : Int32))), (3, .int l3), (4, .int (l4 + (1 : Int32)))] [] M5 (qI Q)) ∧ (¬ l1 = 0 → (¬ (0 : Int32) = l1 → At G (d + 1) 218 27 [(0, .ref m), (1, .int l1), (2, .int (l2 + (0 : Int32))), (3, .int l3), (4, .int (l4 + (1 : Int32)))] [] M5 (qI Q)) ∧ ((0 : Int32) = l1 → At G (d + 1) 218 27 [(0, .ref m), (1, .int l1), (2, .int (l2 + (1 : Int32))), (3, .int l3), (4, .int (l4 + (1 : Int32)))] [] M5 (qI Q))))) ∧ (¬ v6 = 0 → CI G d 216 [.ref m, .int l3, .int l4] M5 (fun v8 M7 => RefAt M7 m ∧ ((v8 ≤ 0 → At G (d + 1) 218 27 [(0, .ref m), (1, .int l1), (2, .int (l2 + (0 : Int32))), (3, .int l3), (4, .int (l4 + (1 : Int32)))] [] M7 (qI Q)) ∧ (¬ v8 ≤ 0 → (l1 = 0 → At G (d + 1) 218 27 [(0, .ref m), (1, .int l1), (2, .int (l2 + (1 : Int32))), (3, .int l3), (4, .int (l4 + (1 : Int32)))] [] M7 (qI Q)) ∧ (¬ l1 = 0 → (¬ v8 = l1 → At G (d + 1) 218 27 [(0, .ref m), (1, .int l1), (2, .int (l2 + (0 : Int32))), (3, .int l3), (4, .int (l4 + (1 : Int32)))] [] M7 (qI Q)) ∧ (v8 = l1 → At G (d + 1) 218 27 [(0, .ref m), (1, .int l1), (2, .int (l2 + (1 : Int32))), (3, .int l3), (4, .int (l4 + (1 : Int32)))] [] M7 (qI Q)))))))))))))) : At G (d + 1) 218 27 [(0, .ref m), (1, .int l1), (2, .int l2), (3, .int l3), (4, .int l4)] [] M (qI Q) := by
  refine vcc ok218 17 [18] ?_
  refine And.intro (fun c => ?_) (fun c => ?_)
  · replace H := H.1 c
    exact At.keep [0, 1, 2, 3] H
  · replace H := H.2 c
    refine And.intro (Nat.le_of_ble_eq_true rfl) ?_
    refine And.intro (Nat.le_of_ble_eq_true rfl) (And.intro R.1 ?_)
    refine Cl.mono H (fun r M3 h => ?_)
    obtain ⟨v4, rfl, H⟩ := h
    obtain ⟨R, H⟩ := H
    refine And.intro (fun c => ?_) (fun c => ?_)
    · replace H := H.1 c
      refine And.intro (fun c => ?_) (fun c => ?_)
      · replace H := H.1 c
        exact At.keep [0, 1, 2, 3, 4] H
      · replace H := H.2 c
        refine And.intro (fun c => ?_) (fun c => ?_)
        · replace H := H.1 c
          exact At.keep [0, 1, 2, 3, 4] H
        · replace H := H.2 c
          refine And.intro (fun c => ?_) (fun c => ?_)
          · replace H := H.1 c
            exact At.keep [0, 1, 2, 3, 4] H
          · replace H := H.2 c
            exact At.keep [0, 1, 2, 3, 4] H
    · replace H := H.2 c
      refine And.intro (Nat.le_of_ble_eq_true rfl) ?_
      refine And.intro (Nat.le_of_ble_eq_true rfl) (And.intro R.1 ?_)
      refine Cl.mono H (fun r M5 h => ?_)
      obtain ⟨v6, rfl, H⟩ := h
      obtain ⟨R, H⟩ := H
      refine And.intro (fun c => ?_) (fun c => ?_)
      · replace H := H.1 c
        refine And.intro (fun c => ?_) (fun c => ?_)
        · replace H := H.1 c
          exact At.keep [0, 1, 2, 3, 4] H
        · replace H := H.2 c
          refine And.intro (fun c => ?_) (fun c => ?_)
          · replace H := H.1 c
            exact At.keep [0, 1, 2, 3, 4] H
          · replace H := H.2 c
            refine And.intro (fun c => ?_) (fun c => ?_)
            · replace H := H.1 c
              exact At.keep [0, 1, 2, 3, 4] H
            · replace H := H.2 c
              exact At.keep [0, 1, 2, 3, 4] H
      · replace H := H.2 c
        refine And.intro (Nat.le_of_ble_eq_true rfl) ?_
        refine And.intro (Nat.le_of_ble_eq_true rfl) (And.intro R.1 ?_)
        refine Cl.mono H (fun r M7 h => ?_)
        obtain ⟨v8, rfl, H⟩ := h
        obtain ⟨R, H⟩ := H
        refine And.intro (fun c => ?_) (fun c => ?_)
        · replace H := H.1 c
          exact At.keep [0, 1, 2, 3, 4] H
        · replace H := H.2 c
          refine And.intro (fun c => ?_) (fun c => ?_)
          · replace H := H.1 c
            exact At.keep [0, 1, 2, 3, 4] H
          · replace H := H.2 c
            refine And.intro (fun c => ?_) (fun c => ?_)
            · replace H := H.1 c
              exact At.keep [0, 1, 2, 3, 4] H
            · replace H := H.2 c
              exact At.keep [0, 1, 2, 3, 4] H

theorem r_weightOf {G : GT} {d m : Nat} {M : Mem} (R : RefAt M m) {a1 : Int32} {a2 : Int32} {Q : Int64 → Mem → Prop} (H : ¬ (16 : Int32) = 0 ∧ (vp_in (a2 / (16 : Int32)) 4 ∧ (vp_in (0 : Int32) 7 ∧ (∀ M1, M1 = setl M (m + 21) ((0 : Int32)).toNatClampNeg ((vi M (m + 4) ((a2 / (16 : Int32))).toNatClampNeg)).toInt64 → ¬ (16 : Int32) = 0 ∧ (vp_in (1 : Int32) 7 ∧ (∀ M2, M2 = setl M1 (m + 21) ((1 : Int32)).toNatClampNeg ((a2 / (16 : Int32))).toInt64 → ¬ (16 : Int32) = 0 ∧ (vp_in (2 : Int32) 7 ∧ (∀ M3, M3 = setl M2 (m + 21) ((2 : Int32)).toNatClampNeg ((a2 - a2 / (16 : Int32) * (16 : Int32))).toInt64 → vp_in a2 64 ∧ (vp_in (3 : Int32) 7 ∧ (∀ M4, M4 = setl M3 (m + 21) ((3 : Int32)).toNatClampNeg ((vi M3 (m + 7) (a2).toNatClampNeg)).toInt64 → vp_in a2 64 ∧ (vp_in (4 : Int32) 7 ∧ (∀ M5, M5 = setl M4 (m + 21) ((4 : Int32)).toNatClampNeg ((vi M4 (m + 11) (a2).toNatClampNeg)).toInt64 → vp_in a2 64 ∧ (vp_in (5 : Int32) 7 ∧ (∀ M6, M6 = setl M5 (m + 21) ((5 : Int32)).toNatClampNeg ((vi M5 (m + 8) (a2).toNatClampNeg)).toInt64 → CI G d 206 [.ref m, .int a2] M6 (fun v8 M7 => RefAt M7 m ∧ (vp_in (6 : Int32) 7 ∧ (∀ M9, M9 = setl M7 (m + 21) ((6 : Int32)).toNatClampNeg (v8).toInt64 → At G (d + 1) 219 95 [(0, .ref m), (1, .int a1), (3, .int ((12 : Int32) * a1))] [] M9 (qJ Q)))))))))))))))))) : CJ G (d + 1) 219 [.ref m, .int a1, .int a2] M Q := by
  refine Cl.ofM (Nat.le_of_ble_eq_true rfl) rfl ?_
  refine vcc ok219 0 [95] ?_
  refine And.intro R.1 ?_
  refine Or.inl ⟨_, (ra_r31 R), ?_⟩
  refine And.intro R.1 ?_
  refine Or.inl ⟨_, (ra_r4 R), ?_⟩
  refine And.intro H.1 ?_
  replace H := H.2
  refine Or.inl ⟨(ra_k4 R), vp_cst (ra_l4 R) H.1, ?_⟩
  replace H := H.2
  refine ⟨(ra_k31 R), vp_cst (ra_l31 R) H.1, ?_⟩
  replace H := H.2
  replace H := H _ rfl
  refine And.intro R.1 ?_
  refine Or.inl ⟨_, (ra_r31 R), ?_⟩
  refine And.intro H.1 ?_
  replace H := H.2
  refine ⟨(ra_k31 R), vp_cst (ra_l31 R) H.1, ?_⟩
  replace H := H.2
  replace H := H _ rfl
  refine And.intro R.1 ?_
  refine Or.inl ⟨_, (ra_r31 R), ?_⟩
  refine And.intro H.1 ?_
  replace H := H.2
  refine ⟨(ra_k31 R), vp_cst (ra_l31 R) H.1, ?_⟩
  replace H := H.2
  replace H := H _ rfl
  refine And.intro R.1 ?_
  refine Or.inl ⟨_, (ra_r31 R), ?_⟩
  refine And.intro R.1 ?_
  refine Or.inl ⟨_, (ra_r7 R), ?_⟩
  refine Or.inl ⟨(ra_k7 R), vp_cst (ra_l7 R) H.1, ?_⟩
  replace H := H.2
  refine ⟨(ra_k31 R), vp_cst (ra_l31 R) H.1, ?_⟩
  replace H := H.2
  replace H := H _ rfl
  refine And.intro R.1 ?_
  refine Or.inl ⟨_, (ra_r31 R), ?_⟩
  refine And.intro R.1 ?_
  refine Or.inl ⟨_, (ra_r11 R), ?_⟩
  refine Or.inl ⟨(ra_k11 R), vp_cst (ra_l11 R) H.1, ?_⟩
  replace H := H.2
  refine ⟨(ra_k31 R), vp_cst (ra_l31 R) H.1, ?_⟩
  replace H := H.2
  replace H := H _ rfl
  refine And.intro R.1 ?_
  refine Or.inl ⟨_, (ra_r31 R), ?_⟩
  refine And.intro R.1 ?_
  refine Or.inl ⟨_, (ra_r8 R), ?_⟩
  refine Or.inl ⟨(ra_k8 R), vp_cst (ra_l8 R) H.1, ?_⟩
  replace H := H.2
  refine ⟨(ra_k31 R), vp_cst (ra_l31 R) H.1, ?_⟩
  replace H := H.2
  replace H := H _ rfl
  refine And.intro R.1 ?_
  refine Or.inl ⟨_, (ra_r31 R), ?_⟩
  refine And.intro (Nat.le_of_ble_eq_true rfl) ?_
  refine And.intro (Nat.le_of_ble_eq_true rfl) (And.intro R.1 ?_)
  refine Cl.mono H (fun r M7 h => ?_)
  obtain ⟨v8, rfl, H⟩ := h
  obtain ⟨R, H⟩ := H
  refine ⟨(ra_k31 R), vp_cst (ra_l31 R) H.1, ?_⟩
  replace H := H.2
  replace H := H _ rfl
  exact At.keep [0, 1, 3] H

theorem r_weightOf_95 {G : GT} {d m : Nat} {M : Mem} (R : RefAt M m) {l1 : Int32} {l3 : Int32} {Q : Int64 → Mem → Prop} (H : vp_in l1 4 ∧ (((((12 : Int32) * l1) + (vi M (m + 16) (l1).toNatClampNeg)) ≤ l3 → Q (0 : Int64) M) ∧ (¬ (((12 : Int32) * l1) + (vi M (m + 16) (l1).toNatClampNeg)) ≤ l3 → vp_in l3 48 ∧ (vp_in l3 48 ∧ (((vi M (m + 18) (l3).toNatClampNeg) = (vi M (m + 19) (l3).toNatClampNeg) → vp_in l3 48 ∧ (vp_in l3 48 ∧ (CJ G d 202 [.ref m, .int l1, .int (vi M (m + 17) (l3).toNatClampNeg), .int (vi M (m + 18) (l3).toNatClampNeg)] M (fun v11 M10 => RefAt M10 m ∧ (Q v11 M10))))) ∧ (¬ (vi M (m + 18) (l3).toNatClampNeg) = (vi M (m + 19) (l3).toNatClampNeg) → vp_in l3 48 ∧ (vp_in l3 48 ∧ (CJ G d 202 [.ref m, .int l1, .int (vi M (m + 18) (l3).toNatClampNeg), .int (vi M (m + 19) (l3).toNatClampNeg)] M (fun v13 M12 => RefAt M12 m ∧ ((¬ (lg_cmp v13 (1 : Int64)) = 0 → At G (d + 1) 219 95 [(0, .ref m), (1, .int l1), (3, .int (l3 + (1 : Int32)))] [] M12 (qJ Q)) ∧ ((lg_cmp v13 (1 : Int64)) = 0 → vp_in l3 48 ∧ (vp_in l3 48 ∧ (CJ G d 202 [.ref m, .int l1, .int (vi M12 (m + 17) (l3).toNatClampNeg), .int (vi M12 (m + 18) (l3).toNatClampNeg)] M12 (fun v15 M14 => RefAt M14 m ∧ (Q v15 M14))))))))))))))) : At G (d + 1) 219 95 [(0, .ref m), (1, .int l1), (3, .int l3)] [] M (qJ Q) := by
  refine vcc ok219 66 [] ?_
  refine And.intro R.1 ?_
  refine Or.inl ⟨_, (ra_r26 R), ?_⟩
  refine Or.inl ⟨(ra_k26 R), vp_cst (ra_l26 R) H.1, ?_⟩
  replace H := H.2
  refine And.intro (fun c => ?_) (fun c => ?_)
  · replace H := H.1 c
    exact ⟨_, rfl, H⟩
  · replace H := H.2 c
    refine And.intro R.1 ?_
    refine Or.inl ⟨_, (ra_r28 R), ?_⟩
    refine Or.inl ⟨(ra_k28 R), vp_cst (ra_l28 R) H.1, ?_⟩
    replace H := H.2
    refine And.intro R.1 ?_
    refine Or.inl ⟨_, (ra_r29 R), ?_⟩
    refine Or.inl ⟨(ra_k29 R), vp_cst (ra_l29 R) H.1, ?_⟩
    replace H := H.2
    refine And.intro (fun c => ?_) (fun c => ?_)
    · replace H := H.1 c
      refine And.intro R.1 ?_
      refine Or.inl ⟨_, (ra_r27 R), ?_⟩
      refine Or.inl ⟨(ra_k27 R), vp_cst (ra_l27 R) H.1, ?_⟩
      replace H := H.2
      refine And.intro R.1 ?_
      refine Or.inl ⟨_, (ra_r28 R), ?_⟩
      refine Or.inl ⟨(ra_k28 R), vp_cst (ra_l28 R) H.1, ?_⟩
      replace H := H.2
      refine And.intro (Nat.le_of_ble_eq_true rfl) ?_
      refine And.intro (Nat.le_of_ble_eq_true rfl) (And.intro R.1 ?_)
      refine Cl.mono H (fun r M10 h => ?_)
      obtain ⟨v11, rfl, H⟩ := h
      obtain ⟨R, H⟩ := H
      exact ⟨_, rfl, H⟩
    · replace H := H.2 c
      refine And.intro R.1 ?_
      refine Or.inl ⟨_, (ra_r28 R), ?_⟩
      refine Or.inl ⟨(ra_k28 R), vp_cst (ra_l28 R) H.1, ?_⟩
      replace H := H.2
      refine And.intro R.1 ?_
      refine Or.inl ⟨_, (ra_r29 R), ?_⟩
      refine Or.inl ⟨(ra_k29 R), vp_cst (ra_l29 R) H.1, ?_⟩
      replace H := H.2
      refine And.intro (Nat.le_of_ble_eq_true rfl) ?_
      refine And.intro (Nat.le_of_ble_eq_true rfl) (And.intro R.1 ?_)
      refine Cl.mono H (fun r M12 h => ?_)
      obtain ⟨v13, rfl, H⟩ := h
      obtain ⟨R, H⟩ := H
      refine And.intro (fun c => ?_) (fun c => ?_)
      · replace H := H.1 c
        exact H
      · replace H := H.2 c
        refine And.intro R.1 ?_
        refine Or.inl ⟨_, (ra_r27 R), ?_⟩
        refine Or.inl ⟨(ra_k27 R), vp_cst (ra_l27 R) H.1, ?_⟩
        replace H := H.2
        refine And.intro R.1 ?_
        refine Or.inl ⟨_, (ra_r28 R), ?_⟩
        refine Or.inl ⟨(ra_k28 R), vp_cst (ra_l28 R) H.1, ?_⟩
        replace H := H.2
        refine And.intro (Nat.le_of_ble_eq_true rfl) ?_
        refine And.intro (Nat.le_of_ble_eq_true rfl) (And.intro R.1 ?_)
        refine Cl.mono H (fun r M14 h => ?_)
        obtain ⟨v15, rfl, H⟩ := h
        obtain ⟨R, H⟩ := H
        exact ⟨_, rfl, H⟩

theorem r_weight {G : GT} {d m : Nat} {M : Mem} (R : RefAt M m) {a1 : Int32} {a2 : Int32} {a3 : Int32} {Q : Int64 → Mem → Prop} (H : CI G d 199 [.ref m, .int a1] M (fun v2 M1 => RefAt M1 m ∧ ((v2 = 0 → Q (0 : Int64) M1) ∧ (¬ v2 = 0 → CI G d 160 [.ref m, .int a2, .int a3] M1 (fun v4 M3 => RefAt M3 m ∧ ((v4 = 0 → Q (0 : Int64) M3) ∧ (¬ v4 = 0 → CJ G d 219 [.ref m, .int a1, .int (((16 : Int32) * a2) + a3)] M3 (fun v6 M5 => RefAt M5 m ∧ (Q v6 M5))))))))) : CJ G (d + 1) 220 [.ref m, .int a1, .int a2, .int a3] M Q := by
  refine Cl.ofM (Nat.le_of_ble_eq_true rfl) rfl ?_
  refine vcc ok220 0 [] ?_
  refine And.intro (Nat.le_of_ble_eq_true rfl) ?_
  refine And.intro (Nat.le_of_ble_eq_true rfl) (And.intro R.1 ?_)
  refine Cl.mono H (fun r M1 h => ?_)
  obtain ⟨v2, rfl, H⟩ := h
  obtain ⟨R, H⟩ := H
  refine And.intro (fun c => ?_) (fun c => ?_)
  · replace H := H.1 c
    exact ⟨_, rfl, H⟩
  · replace H := H.2 c
    refine And.intro (Nat.le_of_ble_eq_true rfl) ?_
    refine And.intro (Nat.le_of_ble_eq_true rfl) (And.intro R.1 ?_)
    refine Cl.mono H (fun r M3 h => ?_)
    obtain ⟨v4, rfl, H⟩ := h
    obtain ⟨R, H⟩ := H
    refine And.intro (fun c => ?_) (fun c => ?_)
    · replace H := H.1 c
      exact ⟨_, rfl, H⟩
    · replace H := H.2 c
      refine And.intro (Nat.le_of_ble_eq_true rfl) ?_
      refine And.intro (Nat.le_of_ble_eq_true rfl) (And.intro R.1 ?_)
      refine Cl.mono H (fun r M5 h => ?_)
      obtain ⟨v6, rfl, H⟩ := h
      obtain ⟨R, H⟩ := H
      exact ⟨_, rfl, H⟩

theorem r_hasClash {G : GT} {d m : Nat} {M : Mem} (R : RefAt M m) {a1 : Int32} {a2 : Int32} {Q : Int32 → Mem → Prop} (H : At G (d + 1) 221 5 [(0, .ref m), (1, .int a1), (2, .int a2), (3, .int (0 : Int32)), (4, .int (0 : Int32))] [] M (qI Q)) : CI G (d + 1) 221 [.ref m, .int a1, .int a2] M Q := by
  refine Cl.ofM (Nat.le_of_ble_eq_true rfl) rfl ?_
  refine vcc ok221 0 [5] ?_
  exact H

theorem r_hasClash_5 {G : GT} {d m : Nat} {M : Mem} (R : RefAt M m) {l1 : Int32} {l2 : Int32} {l3 : Int32} {l4 : Int32} {Q : Int32 → Mem → Prop} (H : ((64 : Int32) ≤ l4 → (l3 = 0 ∨ l3 = 1) ∧ Q l3 M) ∧ (¬ (64 : Int32) ≤ l4 → (¬ l3 = 0 → (l3 = 0 ∨ l3 = 1) ∧ Q l3 M) ∧ (l3 = 0 → (l4 = l1 → At G (d + 1) 221 5 [(0, .ref m), (1, .int l1), (2, .int l2), (3, .int (0 : Int32)), (4, .int (l4 + (1 : Int32)))] [] M (qI Q)) ∧ (¬ l4 = l1 → CI G d 161 [.ref m, .int l4] M (fun v2 M1 => RefAt M1 m ∧ ((v2 = 0 → At G (d + 1) 221 5 [(0, .ref m), (1, .int l1), (2, .int l2), (3, .int (0 : Int32)), (4, .int (l4 + (1 : Int32)))] [] M1 (qI Q)) ∧ (¬ v2 = 0 → vp_in l4 64 ∧ ((¬ (vi M1 (m + 24) (l4).toNatClampNeg) = l2 → At G (d + 1) 221 5 [(0, .ref m), (1, .int l1), (2, .int l2), (3, .int (0 : Int32)), (4, .int (l4 + (1 : Int32)))] [] M1 (qI Q)) ∧ ((vi M1 (m + 24) (l4).toNatClampNeg) = l2 → CI G d 216 [.ref m, .int l1, .int l4] M1 (fun v4 M3 => RefAt M3 m ∧ ((v4 ≤ 0 → At G (d + 1) 221 5 [(0, .ref m), (1, .int l1), (2, .int l2), (3, .int (0 : Int32)), (4, .int (l4 + (1 : Int32)))] [] M3 (qI Q)) ∧ (¬ v4 ≤ 0 → At G (d + 1) 221 5 [(0, .ref m), (1, .int l1), (2, .int l2), (3, .int (1 : Int32)), (4, .int (l4 + (1 : Int32)))] [] M3 (qI Q))))))))))))) : At G (d + 1) 221 5 [(0, .ref m), (1, .int l1), (2, .int l2), (3, .int l3), (4, .int l4)] [] M (qI Q) := by
  refine vcc ok221 4 [] ?_
  refine And.intro (fun c => ?_) (fun c => ?_)
  · replace H := H.1 c
    exact ⟨fun _ => H.1, _, rfl, H.2⟩
  · replace H := H.2 c
    refine And.intro (fun c => ?_) (fun c => ?_)
    · replace H := H.1 c
      exact ⟨fun _ => H.1, _, rfl, H.2⟩
    · replace H := H.2 c
      refine And.intro (fun c => ?_) (fun c => ?_)
      · replace H := H.1 c
        exact H
      · replace H := H.2 c
        refine And.intro (Nat.le_of_ble_eq_true rfl) ?_
        refine And.intro (Nat.le_of_ble_eq_true rfl) (And.intro R.1 ?_)
        refine Cl.mono H (fun r M1 h => ?_)
        obtain ⟨v2, rfl, H⟩ := h
        obtain ⟨R, H⟩ := H
        refine And.intro (fun c => ?_) (fun c => ?_)
        · replace H := H.1 c
          exact H
        · replace H := H.2 c
          refine And.intro R.1 ?_
          refine Or.inl ⟨_, (ra_r34 R), ?_⟩
          refine Or.inl ⟨(ra_k34 R), vp_cst (ra_l34 R) H.1, ?_⟩
          replace H := H.2
          refine And.intro (fun c => ?_) (fun c => ?_)
          · replace H := H.1 c
            exact H
          · replace H := H.2 c
            refine And.intro (Nat.le_of_ble_eq_true rfl) ?_
            refine And.intro (Nat.le_of_ble_eq_true rfl) (And.intro R.1 ?_)
            refine Cl.mono H (fun r M3 h => ?_)
            obtain ⟨v4, rfl, H⟩ := h
            obtain ⟨R, H⟩ := H
            refine And.intro (fun c => ?_) (fun c => ?_)
            · replace H := H.1 c
              exact H
            · replace H := H.2 c
              exact H

theorem r_heaviest {G : GT} {d m : Nat} {M : Mem} (R : RefAt M m)  {Q : Int32 → Mem → Prop} (H : At G (d + 1) 222 4 [(0, .ref m), (1, .int (-1 : Int32)), (2, .int (0 : Int32))] [] M (qI Q)) : CI G (d + 1) 222 [.ref m] M Q := by
  refine Cl.ofM (Nat.le_of_ble_eq_true rfl) rfl ?_
  refine vcc ok222 0 [4] ?_
  exact H

theorem r_heaviest_4 {G : GT} {d m : Nat} {M : Mem} (R : RefAt M m) {l1 : Int32} {l2 : Int32} {Q : Int32 → Mem → Prop} (H : ((64 : Int32) ≤ l2 → Q l1 M) ∧ (¬ (64 : Int32) ≤ l2 → CI G d 161 [.ref m, .int l2] M (fun v2 M1 => RefAt M1 m ∧ ((v2 = 0 → At G (d + 1) 222 4 [(0, .ref m), (1, .int l1), (2, .int (l2 + (1 : Int32)))] [] M1 (qI Q)) ∧ (¬ v2 = 0 → vp_in l2 64 ∧ ((¬ (vi M1 (m + 24) (l2).toNatClampNeg) = (3 : Int32) → At G (d + 1) 222 4 [(0, .ref m), (1, .int l1), (2, .int (l2 + (1 : Int32)))] [] M1 (qI Q)) ∧ ((vi M1 (m + 24) (l2).toNatClampNeg) = (3 : Int32) → (l1 = (-1 : Int32) → At G (d + 1) 222 4 [(0, .ref m), (1, .int l2), (2, .int (l2 + (1 : Int32)))] [] M1 (qI Q)) ∧ (¬ l1 = (-1 : Int32) → vp_in l2 64 ∧ (vp_in l1 64 ∧ (((lg_cmp (vl M1 (m + 23) (l2).toNatClampNeg) (vl M1 (m + 23) (l1).toNatClampNeg)) ≤ 0 → At G (d + 1) 222 4 [(0, .ref m), (1, .int l1), (2, .int (l2 + (1 : Int32)))] [] M1 (qI Q)) ∧ (¬ (lg_cmp (vl M1 (m + 23) (l2).toNatClampNeg) (vl M1 (m + 23) (l1).toNatClampNeg)) ≤ 0 → At G (d + 1) 222 4 [(0, .ref m), (1, .int l2), (2, .int (l2 + (1 : Int32)))] [] M1 (qI Q)))))))))))) : At G (d + 1) 222 4 [(0, .ref m), (1, .int l1), (2, .int l2)] [] M (qI Q) := by
  refine vcc ok222 4 [] ?_
  refine And.intro (fun c => ?_) (fun c => ?_)
  · replace H := H.1 c
    exact ⟨fun h => absurd h (by decide), _, rfl, H⟩
  · replace H := H.2 c
    refine And.intro (Nat.le_of_ble_eq_true rfl) ?_
    refine And.intro (Nat.le_of_ble_eq_true rfl) (And.intro R.1 ?_)
    refine Cl.mono H (fun r M1 h => ?_)
    obtain ⟨v2, rfl, H⟩ := h
    obtain ⟨R, H⟩ := H
    refine And.intro (fun c => ?_) (fun c => ?_)
    · replace H := H.1 c
      exact H
    · replace H := H.2 c
      refine And.intro R.1 ?_
      refine Or.inl ⟨_, (ra_r34 R), ?_⟩
      refine Or.inl ⟨(ra_k34 R), vp_cst (ra_l34 R) H.1, ?_⟩
      replace H := H.2
      refine And.intro (fun c => ?_) (fun c => ?_)
      · replace H := H.1 c
        exact H
      · replace H := H.2 c
        refine And.intro (fun c => ?_) (fun c => ?_)
        · replace H := H.1 c
          exact H
        · replace H := H.2 c
          refine And.intro R.1 ?_
          refine Or.inl ⟨_, (ra_r33 R), ?_⟩
          refine ⟨(ra_k33 R), vp_cst (ra_l33 R) H.1, ?_⟩
          replace H := H.2
          refine And.intro R.1 ?_
          refine Or.inl ⟨_, (ra_r33 R), ?_⟩
          refine ⟨(ra_k33 R), vp_cst (ra_l33 R) H.1, ?_⟩
          replace H := H.2
          refine And.intro (fun c => ?_) (fun c => ?_)
          · replace H := H.1 c
            exact H
          · replace H := H.2 c
            exact H

theorem r_settles {G : GT} {d m : Nat} {M : Mem} (R : RefAt M m) {a1 : Int64} {Q : Mem → Prop} (H : At G (d + 1) 223 2 [(0, .ref m), (1, .long a1), (3, .int (0 : Int32))] [] M (qV Q)) : CV G (d + 1) 223 [.ref m, .long a1] M Q := by
  refine Cl.ofM (Nat.le_of_ble_eq_true rfl) rfl ?_
  refine vcc ok223 0 [2, 65, 117] ?_
  exact H

theorem r_settles_2 {G : GT} {d m : Nat} {M : Mem} (R : RefAt M m) {l1 : Int64} {l3 : Int32} {Q : Mem → Prop} (H : ((64 : Int32) ≤ l3 → At G (d + 1) 223 65 [(0, .ref m), (3, .int (0 : Int32))] [] M (qV Q)) ∧ (¬ (64 : Int32) ≤ l3 → CI G d 161 [.ref m, .int l3] M (fun v2 M1 => RefAt M1 m ∧ ((v2 = 0 → At G (d + 1) 223 2 [(0, .ref m), (1, .long l1), (3, .int (l3 + (1 : Int32)))] [] M1 (qV Q)) ∧ (¬ v2 = 0 → vp_in l3 64 ∧ ((¬ (vi M1 (m + 24) (l3).toNatClampNeg) = (3 : Int32) → At G (d + 1) 223 2 [(0, .ref m), (1, .long l1), (3, .int (l3 + (1 : Int32)))] [] M1 (qV Q)) ∧ ((vi M1 (m + 24) (l3).toNatClampNeg) = (3 : Int32) → vp_in l3 64 ∧ ((¬ (lg_cmp (vl M1 (m + 23) (l3).toNatClampNeg) l1) = 0 → At G (d + 1) 223 2 [(0, .ref m), (1, .long l1), (3, .int (l3 + (1 : Int32)))] [] M1 (qV Q)) ∧ ((lg_cmp (vl M1 (m + 23) (l3).toNatClampNeg) l1) = 0 → CI G d 221 [.ref m, .int l3, .int (1 : Int32)] M1 (fun v4 M3 => RefAt M3 m ∧ ((v4 = 0 → vp_in l3 64 ∧ (∀ M5, M5 = seti M3 (m + 24) (l3).toNatClampNeg (4 : Int32) → At G (d + 1) 223 2 [(0, .ref m), (1, .long l1), (3, .int (l3 + (1 : Int32)))] [] M5 (qV Q))) ∧ (¬ v4 = 0 → vp_in l3 64 ∧ (∀ M6, M6 = seti M3 (m + 24) (l3).toNatClampNeg (0 : Int32) → At G (d + 1) 223 2 [(0, .ref m), (1, .long l1), (3, .int (l3 + (1 : Int32)))] [] M6 (qV Q)))))))))))))) : At G (d + 1) 223 2 [(0, .ref m), (1, .long l1), (3, .int l3)] [] M (qV Q) := by
  refine vcc ok223 2 [65, 117] ?_
  refine And.intro (fun c => ?_) (fun c => ?_)
  · replace H := H.1 c
    exact At.keep [0, 3] H
  · replace H := H.2 c
    refine And.intro (Nat.le_of_ble_eq_true rfl) ?_
    refine And.intro (Nat.le_of_ble_eq_true rfl) (And.intro R.1 ?_)
    refine Cl.mono H (fun r M1 h => ?_)
    obtain ⟨v2, rfl, H⟩ := h
    obtain ⟨R, H⟩ := H
    refine And.intro (fun c => ?_) (fun c => ?_)
    · replace H := H.1 c
      exact H
    · replace H := H.2 c
      refine And.intro R.1 ?_
      refine Or.inl ⟨_, (ra_r34 R), ?_⟩
      refine Or.inl ⟨(ra_k34 R), vp_cst (ra_l34 R) H.1, ?_⟩
      replace H := H.2
      refine And.intro (fun c => ?_) (fun c => ?_)
      · replace H := H.1 c
        exact H
      · replace H := H.2 c
        refine And.intro R.1 ?_
        refine Or.inl ⟨_, (ra_r33 R), ?_⟩
        refine ⟨(ra_k33 R), vp_cst (ra_l33 R) H.1, ?_⟩
        replace H := H.2
        refine And.intro (fun c => ?_) (fun c => ?_)
        · replace H := H.1 c
          exact H
        · replace H := H.2 c
          refine And.intro R.1 ?_
          refine Or.inl ⟨_, (ra_r34 R), ?_⟩
          refine And.intro (Nat.le_of_ble_eq_true rfl) ?_
          refine And.intro (Nat.le_of_ble_eq_true rfl) (And.intro R.1 ?_)
          refine Cl.mono H (fun r M3 h => ?_)
          obtain ⟨v4, rfl, H⟩ := h
          obtain ⟨R, H⟩ := H
          refine And.intro (fun c => ?_) (fun c => ?_)
          · replace H := H.1 c
            refine ⟨(ra_k34 R), vp_cst (ra_l34 R) H.1, ?_⟩
            replace H := H.2
            replace H := H _ rfl
            exact H
          · replace H := H.2 c
            refine ⟨(ra_k34 R), vp_cst (ra_l34 R) H.1, ?_⟩
            replace H := H.2
            replace H := H _ rfl
            exact H

theorem r_settles_65 {G : GT} {d m : Nat} {M : Mem} (R : RefAt M m) {l3 : Int32} {Q : Mem → Prop} (H : ((64 : Int32) ≤ l3 → At G (d + 1) 223 117 [(0, .ref m), (3, .int (0 : Int32))] [] M (qV Q)) ∧ (¬ (64 : Int32) ≤ l3 → CI G d 161 [.ref m, .int l3] M (fun v8 M7 => RefAt M7 m ∧ ((v8 = 0 → vp_in l3 64 ∧ (∀ M9, M9 = seti M7 (m + 25) (l3).toNatClampNeg (vp_nar .boolean (0 : Int32)) → At G (d + 1) 223 65 [(0, .ref m), (3, .int (l3 + (1 : Int32)))] [] M9 (qV Q))) ∧ (¬ v8 = 0 → vp_in l3 64 ∧ ((¬ (vi M7 (m + 24) (l3).toNatClampNeg) = (4 : Int32) → vp_in l3 64 ∧ (∀ M10, M10 = seti M7 (m + 25) (l3).toNatClampNeg (vp_nar .boolean (0 : Int32)) → At G (d + 1) 223 65 [(0, .ref m), (3, .int (l3 + (1 : Int32)))] [] M10 (qV Q))) ∧ ((vi M7 (m + 24) (l3).toNatClampNeg) = (4 : Int32) → CI G d 221 [.ref m, .int l3, .int (4 : Int32)] M7 (fun v12 M11 => RefAt M11 m ∧ ((v12 = 0 → vp_in l3 64 ∧ (∀ M13, M13 = seti M11 (m + 25) (l3).toNatClampNeg (vp_nar .boolean (0 : Int32)) → At G (d + 1) 223 65 [(0, .ref m), (3, .int (l3 + (1 : Int32)))] [] M13 (qV Q))) ∧ (¬ v12 = 0 → vp_in l3 64 ∧ (∀ M14, M14 = seti M11 (m + 25) (l3).toNatClampNeg (vp_nar .boolean (1 : Int32)) → At G (d + 1) 223 65 [(0, .ref m), (3, .int (l3 + (1 : Int32)))] [] M14 (qV Q)))))))))))) : At G (d + 1) 223 65 [(0, .ref m), (3, .int l3)] [] M (qV Q) := by
  refine vcc ok223 38 [2, 117] ?_
  refine And.intro (fun c => ?_) (fun c => ?_)
  · replace H := H.1 c
    exact H
  · replace H := H.2 c
    refine And.intro R.1 ?_
    refine Or.inl ⟨_, (ra_r35 R), ?_⟩
    refine And.intro (Nat.le_of_ble_eq_true rfl) ?_
    refine And.intro (Nat.le_of_ble_eq_true rfl) (And.intro R.1 ?_)
    refine Cl.mono H (fun r M7 h => ?_)
    obtain ⟨v8, rfl, H⟩ := h
    obtain ⟨R, H⟩ := H
    refine And.intro (fun c => ?_) (fun c => ?_)
    · replace H := H.1 c
      refine Or.inr ⟨(ra_k35 R), vp_cst (ra_l35 R) H.1, ?_⟩
      replace H := H.2
      replace H := H _ rfl
      exact H
    · replace H := H.2 c
      refine And.intro R.1 ?_
      refine Or.inl ⟨_, (ra_r34 R), ?_⟩
      refine Or.inl ⟨(ra_k34 R), vp_cst (ra_l34 R) H.1, ?_⟩
      replace H := H.2
      refine And.intro (fun c => ?_) (fun c => ?_)
      · replace H := H.1 c
        refine Or.inr ⟨(ra_k35 R), vp_cst (ra_l35 R) H.1, ?_⟩
        replace H := H.2
        replace H := H _ rfl
        exact H
      · replace H := H.2 c
        refine And.intro (Nat.le_of_ble_eq_true rfl) ?_
        refine And.intro (Nat.le_of_ble_eq_true rfl) (And.intro R.1 ?_)
        refine Cl.mono H (fun r M11 h => ?_)
        obtain ⟨v12, rfl, H⟩ := h
        obtain ⟨R, H⟩ := H
        refine And.intro (fun c => ?_) (fun c => ?_)
        · replace H := H.1 c
          refine Or.inr ⟨(ra_k35 R), vp_cst (ra_l35 R) H.1, ?_⟩
          replace H := H.2
          replace H := H _ rfl
          exact H
        · replace H := H.2 c
          refine Or.inr ⟨(ra_k35 R), vp_cst (ra_l35 R) H.1, ?_⟩
          replace H := H.2
          replace H := H _ rfl
          exact H

theorem r_settles_117 {G : GT} {d m : Nat} {M : Mem} (R : RefAt M m) {l3 : Int32} {Q : Mem → Prop} (H : ((64 : Int32) ≤ l3 → Q M) ∧ (¬ (64 : Int32) ≤ l3 → CI G d 161 [.ref m, .int l3] M (fun v16 M15 => RefAt M15 m ∧ ((v16 = 0 → vp_in l3 64 ∧ (vp_in l3 64 ∧ (∀ M17, M17 = seti M15 (m + 24) (l3).toNatClampNeg (vi M15 (m + 24) (l3).toNatClampNeg) → At G (d + 1) 223 117 [(0, .ref m), (3, .int (l3 + (1 : Int32)))] [] M17 (qV Q)))) ∧ (¬ v16 = 0 → vp_in l3 64 ∧ ((¬ (vi M15 (m + 24) (l3).toNatClampNeg) = (4 : Int32) → vp_in l3 64 ∧ (vp_in l3 64 ∧ (∀ M18, M18 = seti M15 (m + 24) (l3).toNatClampNeg (vi M15 (m + 24) (l3).toNatClampNeg) → At G (d + 1) 223 117 [(0, .ref m), (3, .int (l3 + (1 : Int32)))] [] M18 (qV Q)))) ∧ ((vi M15 (m + 24) (l3).toNatClampNeg) = (4 : Int32) → vp_in l3 64 ∧ (((vi M15 (m + 25) (l3).toNatClampNeg) = 0 → vp_in l3 64 ∧ (∀ M19, M19 = seti M15 (m + 24) (l3).toNatClampNeg (1 : Int32) → At G (d + 1) 223 117 [(0, .ref m), (3, .int (l3 + (1 : Int32)))] [] M19 (qV Q))) ∧ (¬ (vi M15 (m + 25) (l3).toNatClampNeg) = 0 → vp_in l3 64 ∧ (∀ M20, M20 = seti M15 (m + 24) (l3).toNatClampNeg (2 : Int32) → At G (d + 1) 223 117 [(0, .ref m), (3, .int (l3 + (1 : Int32)))] [] M20 (qV Q))))))))))) : At G (d + 1) 223 117 [(0, .ref m), (3, .int l3)] [] M (qV Q) := by
  refine vcc ok223 67 [2, 65] ?_
  refine And.intro (fun c => ?_) (fun c => ?_)
  · replace H := H.1 c
    exact ⟨rfl, H⟩
  · replace H := H.2 c
    refine And.intro R.1 ?_
    refine Or.inl ⟨_, (ra_r34 R), ?_⟩
    refine And.intro (Nat.le_of_ble_eq_true rfl) ?_
    refine And.intro (Nat.le_of_ble_eq_true rfl) (And.intro R.1 ?_)
    refine Cl.mono H (fun r M15 h => ?_)
    obtain ⟨v16, rfl, H⟩ := h
    obtain ⟨R, H⟩ := H
    refine And.intro (fun c => ?_) (fun c => ?_)
    · replace H := H.1 c
      refine And.intro R.1 ?_
      refine Or.inl ⟨_, (ra_r34 R), ?_⟩
      refine Or.inl ⟨(ra_k34 R), vp_cst (ra_l34 R) H.1, ?_⟩
      replace H := H.2
      refine ⟨(ra_k34 R), vp_cst (ra_l34 R) H.1, ?_⟩
      replace H := H.2
      replace H := H _ rfl
      exact H
    · replace H := H.2 c
      refine And.intro R.1 ?_
      refine Or.inl ⟨_, (ra_r34 R), ?_⟩
      refine Or.inl ⟨(ra_k34 R), vp_cst (ra_l34 R) H.1, ?_⟩
      replace H := H.2
      refine And.intro (fun c => ?_) (fun c => ?_)
      · replace H := H.1 c
        refine And.intro R.1 ?_
        refine Or.inl ⟨_, (ra_r34 R), ?_⟩
        refine Or.inl ⟨(ra_k34 R), vp_cst (ra_l34 R) H.1, ?_⟩
        replace H := H.2
        refine ⟨(ra_k34 R), vp_cst (ra_l34 R) H.1, ?_⟩
        replace H := H.2
        replace H := H _ rfl
        exact H
      · replace H := H.2 c
        refine And.intro R.1 ?_
        refine Or.inl ⟨_, (ra_r35 R), ?_⟩
        refine ⟨(Or.inr (ra_k35 R)), vp_cst (ra_l35 R) H.1, ?_⟩
        replace H := H.2
        refine And.intro (fun c => ?_) (fun c => ?_)
        · replace H := H.1 c
          refine ⟨(ra_k34 R), vp_cst (ra_l34 R) H.1, ?_⟩
          replace H := H.2
          replace H := H _ rfl
          exact H
        · replace H := H.2 c
          refine ⟨(ra_k34 R), vp_cst (ra_l34 R) H.1, ?_⟩
          replace H := H.2
          replace H := H _ rfl
          exact H

theorem r_judges {G : GT} {d m : Nat} {M : Mem} (R : RefAt M m) {a1 : Int32} {Q : Mem → Prop} (H : At G (d + 1) 224 2 [(0, .ref m), (1, .int a1), (2, .int (0 : Int32))] [] M (qV Q)) : CV G (d + 1) 224 [.ref m, .int a1] M Q := by
  refine Cl.ofM (Nat.le_of_ble_eq_true rfl) rfl ?_
  refine vcc ok224 0 [2, 50] ?_
  exact H

theorem r_judges_2 {G : GT} {d m : Nat} {M : Mem} (R : RefAt M m) {l1 : Int32} {l2 : Int32} {Q : Mem → Prop} (H : ((64 : Int32) ≤ l2 → CI G d 222 [.ref m] M (fun v2 M1 => RefAt M1 m ∧ (At G (d + 1) 224 50 [(0, .ref m), (2, .int v2)] [] M1 (qV Q)))) ∧ (¬ (64 : Int32) ≤ l2 → vp_in l2 64 ∧ (∀ M3, M3 = seti M (m + 24) (l2).toNatClampNeg (3 : Int32) → CI G d 161 [.ref m, .int l2] M3 (fun v5 M4 => RefAt M4 m ∧ ((v5 = 0 → vp_in l2 64 ∧ (∀ M6, M6 = setl M4 (m + 23) (l2).toNatClampNeg (0 : Int64) → At G (d + 1) 224 2 [(0, .ref m), (1, .int l1), (2, .int (l2 + (1 : Int32)))] [] M6 (qV Q))) ∧ (¬ v5 = 0 → CJ G d 219 [.ref m, .int l1, .int l2] M4 (fun v8 M7 => RefAt M7 m ∧ (vp_in l2 64 ∧ (∀ M9, M9 = setl M7 (m + 23) (l2).toNatClampNeg v8 → At G (d + 1) 224 2 [(0, .ref m), (1, .int l1), (2, .int (l2 + (1 : Int32)))] [] M9 (qV Q)))))))))) : At G (d + 1) 224 2 [(0, .ref m), (1, .int l1), (2, .int l2)] [] M (qV Q) := by
  refine vcc ok224 2 [50] ?_
  refine And.intro (fun c => ?_) (fun c => ?_)
  · replace H := H.1 c
    refine And.intro (Nat.le_of_ble_eq_true rfl) ?_
    refine And.intro (Nat.le_of_ble_eq_true rfl) (And.intro R.1 ?_)
    refine Cl.mono H (fun r M1 h => ?_)
    obtain ⟨v2, rfl, H⟩ := h
    obtain ⟨R, H⟩ := H
    exact At.keep [0, 2] H
  · replace H := H.2 c
    refine And.intro R.1 ?_
    refine Or.inl ⟨_, (ra_r34 R), ?_⟩
    refine ⟨(ra_k34 R), vp_cst (ra_l34 R) H.1, ?_⟩
    replace H := H.2
    replace H := H _ rfl
    refine And.intro R.1 ?_
    refine Or.inl ⟨_, (ra_r33 R), ?_⟩
    refine And.intro (Nat.le_of_ble_eq_true rfl) ?_
    refine And.intro (Nat.le_of_ble_eq_true rfl) (And.intro R.1 ?_)
    refine Cl.mono H (fun r M4 h => ?_)
    obtain ⟨v5, rfl, H⟩ := h
    obtain ⟨R, H⟩ := H
    refine And.intro (fun c => ?_) (fun c => ?_)
    · replace H := H.1 c
      refine ⟨(ra_k33 R), vp_cst (ra_l33 R) H.1, ?_⟩
      replace H := H.2
      replace H := H _ rfl
      exact H
    · replace H := H.2 c
      refine And.intro (Nat.le_of_ble_eq_true rfl) ?_
      refine And.intro (Nat.le_of_ble_eq_true rfl) (And.intro R.1 ?_)
      refine Cl.mono H (fun r M7 h => ?_)
      obtain ⟨v8, rfl, H⟩ := h
      obtain ⟨R, H⟩ := H
      refine ⟨(ra_k33 R), vp_cst (ra_l33 R) H.1, ?_⟩
      replace H := H.2
      replace H := H _ rfl
      exact H

theorem r_judges_50 {G : GT} {d m : Nat} {M : Mem} (R : RefAt M m) {l2 : Int32} {Q : Mem → Prop} (H : (l2 = (-1 : Int32) → Q M) ∧ (¬ l2 = (-1 : Int32) → vp_in l2 64 ∧ (CV G d 223 [.ref m, .long (vl M (m + 23) (l2).toNatClampNeg)] M (fun M10 => RefAt M10 m ∧ (CI G d 222 [.ref m] M10 (fun v12 M11 => RefAt M11 m ∧ (At G (d + 1) 224 50 [(0, .ref m), (2, .int v12)] [] M11 (qV Q)))))))) : At G (d + 1) 224 50 [(0, .ref m), (2, .int l2)] [] M (qV Q) := by
  refine vcc ok224 29 [2] ?_
  refine And.intro (fun c => ?_) (fun c => ?_)
  · replace H := H.1 c
    exact ⟨rfl, H⟩
  · replace H := H.2 c
    refine And.intro R.1 ?_
    refine Or.inl ⟨_, (ra_r33 R), ?_⟩
    refine ⟨(ra_k33 R), vp_cst (ra_l33 R) H.1, ?_⟩
    replace H := H.2
    refine And.intro (Nat.le_of_ble_eq_true rfl) ?_
    refine And.intro (Nat.le_of_ble_eq_true rfl) (And.intro R.1 ?_)
    refine Cl.mono H (fun r M10 h => ?_)
    obtain ⟨rfl, H⟩ := h
    obtain ⟨R, H⟩ := H
    refine And.intro (Nat.le_of_ble_eq_true rfl) ?_
    refine And.intro (Nat.le_of_ble_eq_true rfl) (And.intro R.1 ?_)
    refine Cl.mono H (fun r M11 h => ?_)
    obtain ⟨v12, rfl, H⟩ := h
    obtain ⟨R, H⟩ := H
    exact H

theorem r_stands {G : GT} {d m : Nat} {M : Mem} (R : RefAt M m) {a1 : Int32} {a2 : Int32} {a3 : Int32} {Q : Int32 → Mem → Prop} (H : CI G d 199 [.ref m, .int a1] M (fun v2 M1 => RefAt M1 m ∧ ((v2 = 0 → Q (-1 : Int32) M1) ∧ (¬ v2 = 0 → CI G d 160 [.ref m, .int a2, .int a3] M1 (fun v4 M3 => RefAt M3 m ∧ ((¬ v4 = 0 → CV G d 224 [.ref m, .int a1] M3 (fun M5 => RefAt M5 m ∧ (vp_in (((16 : Int32) * a2) + a3) 64 ∧ (Q (vi M5 (m + 24) ((((16 : Int32) * a2) + a3)).toNatClampNeg) M5)))) ∧ (v4 = 0 → Q (-1 : Int32) M3))))))) : CI G (d + 1) 225 [.ref m, .int a1, .int a2, .int a3] M Q := by
  refine Cl.ofM (Nat.le_of_ble_eq_true rfl) rfl ?_
  refine vcc ok225 0 [] ?_
  refine And.intro (Nat.le_of_ble_eq_true rfl) ?_
  refine And.intro (Nat.le_of_ble_eq_true rfl) (And.intro R.1 ?_)
  refine Cl.mono H (fun r M1 h => ?_)
  obtain ⟨v2, rfl, H⟩ := h
  obtain ⟨R, H⟩ := H
  refine And.intro (fun c => ?_) (fun c => ?_)
  · replace H := H.1 c
    exact ⟨fun h => absurd h (by decide), _, rfl, H⟩
  · replace H := H.2 c
    refine And.intro (Nat.le_of_ble_eq_true rfl) ?_
    refine And.intro (Nat.le_of_ble_eq_true rfl) (And.intro R.1 ?_)
    refine Cl.mono H (fun r M3 h => ?_)
    obtain ⟨v4, rfl, H⟩ := h
    obtain ⟨R, H⟩ := H
    refine And.intro (fun c => ?_) (fun c => ?_)
    · replace H := H.1 c
      refine And.intro (Nat.le_of_ble_eq_true rfl) ?_
      refine And.intro (Nat.le_of_ble_eq_true rfl) (And.intro R.1 ?_)
      refine Cl.mono H (fun r M5 h => ?_)
      obtain ⟨rfl, H⟩ := h
      obtain ⟨R, H⟩ := H
      refine And.intro R.1 ?_
      refine Or.inl ⟨_, (ra_r34 R), ?_⟩
      refine Or.inl ⟨(ra_k34 R), vp_cst (ra_l34 R) H.1, ?_⟩
      replace H := H.2
      exact ⟨fun h => absurd h (by decide), _, rfl, H⟩
    · replace H := H.2 c
      exact ⟨fun h => absurd h (by decide), _, rfl, H⟩

theorem r_falls {G : GT} {d m : Nat} {M : Mem} (R : RefAt M m) {a1 : Int32} {a2 : Int32} {a3 : Int32} {Q : Int32 → Mem → Prop} (H : CI G d 199 [.ref m, .int a1] M (fun v2 M1 => RefAt M1 m ∧ ((v2 = 0 → Q (-1 : Int32) M1) ∧ (¬ v2 = 0 → CI G d 160 [.ref m, .int a2, .int a3] M1 (fun v4 M3 => RefAt M3 m ∧ ((¬ v4 = 0 → CV G d 224 [.ref m, .int a1] M3 (fun M5 => RefAt M5 m ∧ (At G (d + 1) 226 35 [(0, .ref m), (4, .int (((16 : Int32) * a2) + a3)), (5, .int (0 : Int32))] [] M5 (qI Q)))) ∧ (v4 = 0 → Q (-1 : Int32) M3))))))) : CI G (d + 1) 226 [.ref m, .int a1, .int a2, .int a3] M Q := by
  refine Cl.ofM (Nat.le_of_ble_eq_true rfl) rfl ?_
  refine vcc ok226 0 [35] ?_
  refine And.intro (Nat.le_of_ble_eq_true rfl) ?_
  refine And.intro (Nat.le_of_ble_eq_true rfl) (And.intro R.1 ?_)
  refine Cl.mono H (fun r M1 h => ?_)
  obtain ⟨v2, rfl, H⟩ := h
  obtain ⟨R, H⟩ := H
  refine And.intro (fun c => ?_) (fun c => ?_)
  · replace H := H.1 c
    exact ⟨fun h => absurd h (by decide), _, rfl, H⟩
  · replace H := H.2 c
    refine And.intro (Nat.le_of_ble_eq_true rfl) ?_
    refine And.intro (Nat.le_of_ble_eq_true rfl) (And.intro R.1 ?_)
    refine Cl.mono H (fun r M3 h => ?_)
    obtain ⟨v4, rfl, H⟩ := h
    obtain ⟨R, H⟩ := H
    refine And.intro (fun c => ?_) (fun c => ?_)
    · replace H := H.1 c
      refine And.intro (Nat.le_of_ble_eq_true rfl) ?_
      refine And.intro (Nat.le_of_ble_eq_true rfl) (And.intro R.1 ?_)
      refine Cl.mono H (fun r M5 h => ?_)
      obtain ⟨rfl, H⟩ := h
      obtain ⟨R, H⟩ := H
      exact At.keep [0, 4, 5] H
    · replace H := H.2 c
      exact ⟨fun h => absurd h (by decide), _, rfl, H⟩

theorem r_falls_35 {G : GT} {d m : Nat} {M : Mem} (R : RefAt M m) {l4 : Int32} {l5 : Int32} {Q : Int32 → Mem → Prop} (H : ((64 : Int32) ≤ l5 → Q (-2 : Int32) M) ∧ (¬ (64 : Int32) ≤ l5 → vp_in l4 64 ∧ ((¬ (vi M (m + 24) (l4).toNatClampNeg) = 0 → Q (-2 : Int32) M) ∧ ((vi M (m + 24) (l4).toNatClampNeg) = 0 → CI G d 161 [.ref m, .int l5] M (fun v7 M6 => RefAt M6 m ∧ ((v7 = 0 → At G (d + 1) 226 35 [(0, .ref m), (4, .int l4), (5, .int (l5 + (1 : Int32)))] [] M6 (qI Q)) ∧ (¬ v7 = 0 → vp_in l5 64 ∧ ((¬ (vi M6 (m + 24) (l5).toNatClampNeg) = (1 : Int32) → At G (d + 1) 226 35 [(0, .ref m), (4, .int l4), (5, .int (l5 + (1 : Int32)))] [] M6 (qI Q)) ∧ ((vi M6 (m + 24) (l5).toNatClampNeg) = (1 : Int32) → CI G d 216 [.ref m, .int l4, .int l5] M6 (fun v9 M8 => RefAt M8 m ∧ ((v9 ≤ 0 → At G (d + 1) 226 35 [(0, .ref m), (4, .int l4), (5, .int (l5 + (1 : Int32)))] [] M8 (qI Q)) ∧ (¬ v9 ≤ 0 → Q l5 M8)))))))))))) : At G (d + 1) 226 35 [(0, .ref m), (4, .int l4), (5, .int l5)] [] M (qI Q) := by
  refine vcc ok226 22 [] ?_
  refine And.intro (fun c => ?_) (fun c => ?_)
  · replace H := H.1 c
    exact ⟨fun h => absurd h (by decide), _, rfl, H⟩
  · replace H := H.2 c
    refine And.intro R.1 ?_
    refine Or.inl ⟨_, (ra_r34 R), ?_⟩
    refine Or.inl ⟨(ra_k34 R), vp_cst (ra_l34 R) H.1, ?_⟩
    replace H := H.2
    refine And.intro (fun c => ?_) (fun c => ?_)
    · replace H := H.1 c
      exact ⟨fun h => absurd h (by decide), _, rfl, H⟩
    · replace H := H.2 c
      refine And.intro (Nat.le_of_ble_eq_true rfl) ?_
      refine And.intro (Nat.le_of_ble_eq_true rfl) (And.intro R.1 ?_)
      refine Cl.mono H (fun r M6 h => ?_)
      obtain ⟨v7, rfl, H⟩ := h
      obtain ⟨R, H⟩ := H
      refine And.intro (fun c => ?_) (fun c => ?_)
      · replace H := H.1 c
        exact H
      · replace H := H.2 c
        refine And.intro R.1 ?_
        refine Or.inl ⟨_, (ra_r34 R), ?_⟩
        refine Or.inl ⟨(ra_k34 R), vp_cst (ra_l34 R) H.1, ?_⟩
        replace H := H.2
        refine And.intro (fun c => ?_) (fun c => ?_)
        · replace H := H.1 c
          exact H
        · replace H := H.2 c
          refine And.intro (Nat.le_of_ble_eq_true rfl) ?_
          refine And.intro (Nat.le_of_ble_eq_true rfl) (And.intro R.1 ?_)
          refine Cl.mono H (fun r M8 h => ?_)
          obtain ⟨v9, rfl, H⟩ := h
          obtain ⟨R, H⟩ := H
          refine And.intro (fun c => ?_) (fun c => ?_)
          · replace H := H.1 c
            exact H
          · replace H := H.2 c
            exact ⟨fun h => absurd h (by decide), _, rfl, H⟩

theorem r_many {G : GT} {d m : Nat} {M : Mem} (R : RefAt M m) {a1 : Int32} {a2 : Int32} {Q : Int32 → Mem → Prop} (H : CI G d 199 [.ref m, .int a1] M (fun v2 M1 => RefAt M1 m ∧ ((v2 = 0 → Q (-1 : Int32) M1) ∧ (¬ v2 = 0 → CI G d 155 [.long ((a2).toInt64), .long (0 : Int64), .long (2 : Int64)] M1 (fun v4 M3 => RefAt M3 m ∧ ((¬ v4 = 0 → CV G d 224 [.ref m, .int a1] M3 (fun M5 => RefAt M5 m ∧ (At G (d + 1) 227 32 [(0, .ref m), (2, .int a2), (3, .int (0 : Int32)), (4, .int (0 : Int32))] [] M5 (qI Q)))) ∧ (v4 = 0 → Q (-1 : Int32) M3))))))) : CI G (d + 1) 227 [.ref m, .int a1, .int a2] M Q := by
  refine Cl.ofM (Nat.le_of_ble_eq_true rfl) rfl ?_
  refine vcc ok227 0 [32] ?_
  refine And.intro (Nat.le_of_ble_eq_true rfl) ?_
  refine And.intro (Nat.le_of_ble_eq_true rfl) (And.intro R.1 ?_)
  refine Cl.mono H (fun r M1 h => ?_)
  obtain ⟨v2, rfl, H⟩ := h
  obtain ⟨R, H⟩ := H
  refine And.intro (fun c => ?_) (fun c => ?_)
  · replace H := H.1 c
    exact ⟨fun h => absurd h (by decide), _, rfl, H⟩
  · replace H := H.2 c
    refine And.intro (Nat.le_of_ble_eq_true rfl) ?_
    refine And.intro (Nat.le_of_ble_eq_true rfl) ?_
    refine Cl.mono H (fun r M3 h => ?_)
    obtain ⟨v4, rfl, H⟩ := h
    obtain ⟨R, H⟩ := H
    refine And.intro (fun c => ?_) (fun c => ?_)
    · replace H := H.1 c
      refine And.intro (Nat.le_of_ble_eq_true rfl) ?_
      refine And.intro (Nat.le_of_ble_eq_true rfl) (And.intro R.1 ?_)
      refine Cl.mono H (fun r M5 h => ?_)
      obtain ⟨rfl, H⟩ := h
      obtain ⟨R, H⟩ := H
      exact At.keep [0, 2, 3, 4] H
    · replace H := H.2 c
      exact ⟨fun h => absurd h (by decide), _, rfl, H⟩

theorem r_many_32 {G : GT} {d m : Nat} {M : Mem} (R : RefAt M m) {l2 : Int32} {l3 : Int32} {l4 : Int32} {Q : Int32 → Mem → Prop} (H : ((64 : Int32) ≤ l4 → Q l3 M) ∧ (¬ (64 : Int32) ≤ l4 → CI G d 161 [.ref m, .int l4] M (fun v7 M6 => RefAt M6 m ∧ ((v7 = 0 → At G (d + 1) 227 32 [(0, .ref m), (2, .int l2), (3, .int (l3 + (0 : Int32))), (4, .int (l4 + (1 : Int32)))] [] M6 (qI Q)) ∧ (¬ v7 = 0 → vp_in l4 64 ∧ ((¬ (vi M6 (m + 24) (l4).toNatClampNeg) = l2 → At G (d + 1) 227 32 [(0, .ref m), (2, .int l2), (3, .int (l3 + (0 : Int32))), (4, .int (l4 + (1 : Int32)))] [] M6 (qI Q)) ∧ ((vi M6 (m + 24) (l4).toNatClampNeg) = l2 → At G (d + 1) 227 32 [(0, .ref m), (2, .int l2), (3, .int (l3 + (1 : Int32))), (4, .int (l4 + (1 : Int32)))] [] M6 (qI Q)))))))) : At G (d + 1) 227 32 [(0, .ref m), (2, .int l2), (3, .int l3), (4, .int l4)] [] M (qI Q) := by
  refine vcc ok227 19 [] ?_
  refine And.intro (fun c => ?_) (fun c => ?_)
  · replace H := H.1 c
    exact ⟨fun h => absurd h (by decide), _, rfl, H⟩
  · replace H := H.2 c
    refine And.intro (Nat.le_of_ble_eq_true rfl) ?_
    refine And.intro (Nat.le_of_ble_eq_true rfl) (And.intro R.1 ?_)
    refine Cl.mono H (fun r M6 h => ?_)
    obtain ⟨v7, rfl, H⟩ := h
    obtain ⟨R, H⟩ := H
    refine And.intro (fun c => ?_) (fun c => ?_)
    · replace H := H.1 c
      exact H
    · replace H := H.2 c
      refine And.intro R.1 ?_
      refine Or.inl ⟨_, (ra_r34 R), ?_⟩
      refine Or.inl ⟨(ra_k34 R), vp_cst (ra_l34 R) H.1, ?_⟩
      replace H := H.2
      refine And.intro (fun c => ?_) (fun c => ?_)
      · replace H := H.1 c
        exact H
      · replace H := H.2 c
        exact H

theorem r_findsItem {G : GT} {d m : Nat} {M : Mem} (R : RefAt M m) {a1 : Int32} {Q : Int32 → Mem → Prop} (H : At G (d + 1) 228 2 [(0, .ref m), (1, .int a1), (2, .int (0 : Int32))] [] M (qI Q)) : CI G (d + 1) 228 [.ref m, .int a1] M Q := by
  refine Cl.ofM (Nat.le_of_ble_eq_true rfl) rfl ?_
  refine vcc ok228 0 [2] ?_
  exact H

theorem r_findsItem_2 {G : GT} {d m : Nat} {M : Mem} (R : RefAt M m) {l1 : Int32} {l2 : Int32} {Q : Int32 → Mem → Prop} (H : vp_in l2 401 ∧ (((vi M (m + 27) (l2).toNatClampNeg) = l1 → Q l2 M) ∧ (¬ (vi M (m + 27) (l2).toNatClampNeg) = l1 → At G (d + 1) 228 2 [(0, .ref m), (1, .int l1), (2, .int (l2 + (1 : Int32)))] [] M (qI Q)))) : At G (d + 1) 228 2 [(0, .ref m), (1, .int l1), (2, .int l2)] [] M (qI Q) := by
  refine vcc ok228 2 [] ?_
  refine And.intro R.1 ?_
  refine Or.inl ⟨_, (ra_r37 R), ?_⟩
  refine Or.inl ⟨(ra_k37 R), vp_cst (ra_l37 R) H.1, ?_⟩
  replace H := H.2
  refine And.intro (fun c => ?_) (fun c => ?_)
  · replace H := H.1 c
    exact ⟨fun h => absurd h (by decide), _, rfl, H⟩
  · replace H := H.2 c
    exact H

theorem r_moves {G : GT} {d m : Nat} {M : Mem} (R : RefAt M m) {a1 : Int32} {Q : Mem → Prop} (H : vp_in a1 64 ∧ (CI G d 228 [.ref m, .int (vi M (m + 8) (a1).toNatClampNeg)] M (fun v2 M1 => RefAt M1 m ∧ (vp_in a1 64 ∧ (CI G d 228 [.ref m, .int ((vi M1 (m + 9) (a1).toNatClampNeg) - (1 : Int32))] M1 (fun v4 M3 => RefAt M3 m ∧ (vp_in a1 64 ∧ (CI G d 228 [.ref m, .int ((1000 : Int32) + (vi M3 (m + 10) (a1).toNatClampNeg))] M3 (fun v6 M5 => RefAt M5 m ∧ (At G (d + 1) 229 48 [(0, .ref m), (2, .int v2), (3, .int (v4 + (1 : Int32))), (4, .int v6), (5, .int (0 : Int32)), (6, .int (0 : Int32))] [] M5 (qV Q))))))))))) : CV G (d + 1) 229 [.ref m, .int a1] M Q := by
  refine Cl.ofM (Nat.le_of_ble_eq_true rfl) rfl ?_
  refine vcc ok229 0 [48, 89, 134] ?_
  refine And.intro R.1 ?_
  refine Or.inl ⟨_, (ra_r8 R), ?_⟩
  refine Or.inl ⟨(ra_k8 R), vp_cst (ra_l8 R) H.1, ?_⟩
  replace H := H.2
  refine And.intro (Nat.le_of_ble_eq_true rfl) ?_
  refine And.intro (Nat.le_of_ble_eq_true rfl) (And.intro R.1 ?_)
  refine Cl.mono H (fun r M1 h => ?_)
  obtain ⟨v2, rfl, H⟩ := h
  obtain ⟨R, H⟩ := H
  refine And.intro R.1 ?_
  refine Or.inl ⟨_, (ra_r9 R), ?_⟩
  refine Or.inl ⟨(ra_k9 R), vp_cst (ra_l9 R) H.1, ?_⟩
  replace H := H.2
  refine And.intro (Nat.le_of_ble_eq_true rfl) ?_
  refine And.intro (Nat.le_of_ble_eq_true rfl) (And.intro R.1 ?_)
  refine Cl.mono H (fun r M3 h => ?_)
  obtain ⟨v4, rfl, H⟩ := h
  obtain ⟨R, H⟩ := H
  refine And.intro R.1 ?_
  refine Or.inl ⟨_, (ra_r10 R), ?_⟩
  refine Or.inl ⟨(ra_k10 R), vp_cst (ra_l10 R) H.1, ?_⟩
  replace H := H.2
  refine And.intro (Nat.le_of_ble_eq_true rfl) ?_
  refine And.intro (Nat.le_of_ble_eq_true rfl) (And.intro R.1 ?_)
  refine Cl.mono H (fun r M5 h => ?_)
  obtain ⟨v6, rfl, H⟩ := h
  obtain ⟨R, H⟩ := H
  exact At.keep [0, 2, 3, 4, 5, 6] H

theorem r_moves_48 {G : GT} {d m : Nat} {M : Mem} (R : RefAt M m) {l2 : Int32} {l3 : Int32} {l4 : Int32} {l5 : Int32} {l6 : Int32} {Q : Mem → Prop} (H : ((vi M m 43) ≤ l6 → At G (d + 1) 229 134 [(0, .ref m), (6, .int (0 : Int32))] [] M (qV Q)) ∧ (¬ (vi M m 43) ≤ l6 → (l6 < l2 → vp_in l6 401 ∧ (vp_in l5 401 ∧ (∀ M7, M7 = seti M (m + 28) (l5).toNatClampNeg (vi M (m + 27) (l6).toNatClampNeg) → At G (d + 1) 229 89 [(0, .ref m), (2, .int l2), (3, .int l3), (4, .int l4), (5, .int (l5 + (1 : Int32))), (6, .int l6), (7, .int l2)] [] M7 (qV Q)))) ∧ (¬ l6 < l2 → (l6 < l3 → At G (d + 1) 229 89 [(0, .ref m), (2, .int l2), (3, .int l3), (4, .int l4), (5, .int l5), (6, .int l6), (7, .int l2)] [] M (qV Q)) ∧ (¬ l6 < l3 → vp_in l6 401 ∧ (vp_in l5 401 ∧ (∀ M8, M8 = seti M (m + 28) (l5).toNatClampNeg (vi M (m + 27) (l6).toNatClampNeg) → At G (d + 1) 229 89 [(0, .ref m), (2, .int l2), (3, .int l3), (4, .int l4), (5, .int (l5 + (1 : Int32))), (6, .int l6), (7, .int l2)] [] M8 (qV Q))))))) : At G (d + 1) 229 48 [(0, .ref m), (2, .int l2), (3, .int l3), (4, .int l4), (5, .int l5), (6, .int l6)] [] M (qV Q) := by
  refine vcc ok229 31 [89, 134] ?_
  refine And.intro R.1 ?_
  refine And.intro (fun c => ?_) (fun c => ?_)
  · replace H := H.1 c
    exact At.keep [0, 6] H
  · replace H := H.2 c
    refine And.intro (fun c => ?_) (fun c => ?_)
    · replace H := H.1 c
      refine And.intro R.1 ?_
      refine Or.inl ⟨_, (ra_r38 R), ?_⟩
      refine And.intro R.1 ?_
      refine Or.inl ⟨_, (ra_r37 R), ?_⟩
      refine Or.inl ⟨(ra_k37 R), vp_cst (ra_l37 R) H.1, ?_⟩
      replace H := H.2
      refine ⟨(ra_k38 R), vp_cst (ra_l38 R) H.1, ?_⟩
      replace H := H.2
      replace H := H _ rfl
      exact H
    · replace H := H.2 c
      refine And.intro (fun c => ?_) (fun c => ?_)
      · replace H := H.1 c
        exact H
      · replace H := H.2 c
        refine And.intro R.1 ?_
        refine Or.inl ⟨_, (ra_r38 R), ?_⟩
        refine And.intro R.1 ?_
        refine Or.inl ⟨_, (ra_r37 R), ?_⟩
        refine Or.inl ⟨(ra_k37 R), vp_cst (ra_l37 R) H.1, ?_⟩
        replace H := H.2
        refine ⟨(ra_k38 R), vp_cst (ra_l38 R) H.1, ?_⟩
        replace H := H.2
        replace H := H _ rfl
        exact H

theorem r_moves_89 {G : GT} {d m : Nat} {M : Mem} (R : RefAt M m) {l2 : Int32} {l3 : Int32} {l4 : Int32} {l5 : Int32} {l6 : Int32} {l7 : Int32} {Q : Mem → Prop} (H : (l3 ≤ l7 → At G (d + 1) 229 48 [(0, .ref m), (2, .int l2), (3, .int l3), (4, .int l4), (5, .int l5), (6, .int (l6 + (1 : Int32)))] [] M (qV Q)) ∧ (¬ l3 ≤ l7 → (¬ l6 = l4 → At G (d + 1) 229 48 [(0, .ref m), (2, .int l2), (3, .int l3), (4, .int l4), (5, .int l5), (6, .int (l6 + (1 : Int32)))] [] M (qV Q)) ∧ (l6 = l4 → vp_in l7 401 ∧ (vp_in l5 401 ∧ (∀ M9, M9 = seti M (m + 28) (l5).toNatClampNeg (vi M (m + 27) (l7).toNatClampNeg) → At G (d + 1) 229 89 [(0, .ref m), (2, .int l2), (3, .int l3), (4, .int l4), (5, .int (l5 + (1 : Int32))), (6, .int l6), (7, .int (l7 + (1 : Int32)))] [] M9 (qV Q)))))) : At G (d + 1) 229 89 [(0, .ref m), (2, .int l2), (3, .int l3), (4, .int l4), (5, .int l5), (6, .int l6), (7, .int l7)] [] M (qV Q) := by
  refine vcc ok229 52 [48, 134] ?_
  refine And.intro (fun c => ?_) (fun c => ?_)
  · replace H := H.1 c
    exact At.keep [0, 2, 3, 4, 5, 6] H
  · replace H := H.2 c
    refine And.intro (fun c => ?_) (fun c => ?_)
    · replace H := H.1 c
      exact At.keep [0, 2, 3, 4, 5, 6] H
    · replace H := H.2 c
      refine And.intro R.1 ?_
      refine Or.inl ⟨_, (ra_r38 R), ?_⟩
      refine And.intro R.1 ?_
      refine Or.inl ⟨_, (ra_r37 R), ?_⟩
      refine Or.inl ⟨(ra_k37 R), vp_cst (ra_l37 R) H.1, ?_⟩
      replace H := H.2
      refine ⟨(ra_k38 R), vp_cst (ra_l38 R) H.1, ?_⟩
      replace H := H.2
      replace H := H _ rfl
      exact H

theorem r_moves_134 {G : GT} {d m : Nat} {M : Mem} (R : RefAt M m) {l6 : Int32} {Q : Mem → Prop} (H : ((vi M m 43) ≤ l6 → Q M) ∧ (¬ (vi M m 43) ≤ l6 → vp_in l6 401 ∧ (vp_in l6 401 ∧ (∀ M10, M10 = seti M (m + 27) (l6).toNatClampNeg (vi M (m + 28) (l6).toNatClampNeg) → At G (d + 1) 229 134 [(0, .ref m), (6, .int (l6 + (1 : Int32)))] [] M10 (qV Q))))) : At G (d + 1) 229 134 [(0, .ref m), (6, .int l6)] [] M (qV Q) := by
  refine vcc ok229 73 [48, 89] ?_
  refine And.intro R.1 ?_
  refine And.intro (fun c => ?_) (fun c => ?_)
  · replace H := H.1 c
    exact ⟨rfl, H⟩
  · replace H := H.2 c
    refine And.intro R.1 ?_
    refine Or.inl ⟨_, (ra_r37 R), ?_⟩
    refine And.intro R.1 ?_
    refine Or.inl ⟨_, (ra_r38 R), ?_⟩
    refine Or.inl ⟨(ra_k38 R), vp_cst (ra_l38 R) H.1, ?_⟩
    replace H := H.2
    refine ⟨(ra_k37 R), vp_cst (ra_l37 R) H.1, ?_⟩
    replace H := H.2
    replace H := H _ rfl
    exact H

theorem r_widest {G : GT} {d m : Nat} {M : Mem} (R : RefAt M m)  {Q : Int32 → Mem → Prop} (H : At G (d + 1) 230 4 [(0, .ref m), (1, .int (-1 : Int32)), (2, .int (0 : Int32))] [] M (qI Q)) : CI G (d + 1) 230 [.ref m] M Q := by
  refine Cl.ofM (Nat.le_of_ble_eq_true rfl) rfl ?_
  refine vcc ok230 0 [4, 42, 43, 78, 80] ?_
  exact H

theorem r_widest_4 {G : GT} {d m : Nat} {M : Mem} (R : RefAt M m) {l1 : Int32} {l2 : Int32} {Q : Int32 → Mem → Prop} (H : ((64 : Int32) ≤ l2 → Q l1 M) ∧ (¬ (64 : Int32) ≤ l2 → vp_in l2 64 ∧ (((vi M (m + 31) (l2).toNatClampNeg) = 0 → At G (d + 1) 230 42 [(0, .ref m), (1, .int l1), (2, .int l2)] [] M (qI Q)) ∧ (¬ (vi M (m + 31) (l2).toNatClampNeg) = 0 → vp_in l2 64 ∧ ((¬ (vi M (m + 7) (l2).toNatClampNeg) = (4 : Int32) → At G (d + 1) 230 42 [(0, .ref m), (1, .int l1), (2, .int l2)] [] M (qI Q)) ∧ ((vi M (m + 7) (l2).toNatClampNeg) = (4 : Int32) → vp_in l2 64 ∧ ((¬ (vi M (m + 26) (l2).toNatClampNeg) = 0 → At G (d + 1) 230 42 [(0, .ref m), (1, .int l1), (2, .int l2)] [] M (qI Q)) ∧ ((vi M (m + 26) (l2).toNatClampNeg) = 0 → At G (d + 1) 230 43 [(0, .ref m), (1, .int l1), (2, .int l2)] [.int (1 : Int32)] M (qI Q))))))))) : At G (d + 1) 230 4 [(0, .ref m), (1, .int l1), (2, .int l2)] [] M (qI Q) := by
  refine vcc ok230 4 [42, 43, 78, 80] ?_
  refine And.intro (fun c => ?_) (fun c => ?_)
  · replace H := H.1 c
    exact ⟨fun h => absurd h (by decide), _, rfl, H⟩
  · replace H := H.2 c
    refine And.intro R.1 ?_
    refine Or.inl ⟨_, (ra_r41 R), ?_⟩
    refine ⟨(Or.inr (ra_k41 R)), vp_cst (ra_l41 R) H.1, ?_⟩
    replace H := H.2
    refine And.intro (fun c => ?_) (fun c => ?_)
    · replace H := H.1 c
      exact H
    · replace H := H.2 c
      refine And.intro R.1 ?_
      refine Or.inl ⟨_, (ra_r7 R), ?_⟩
      refine Or.inl ⟨(ra_k7 R), vp_cst (ra_l7 R) H.1, ?_⟩
      replace H := H.2
      refine And.intro (fun c => ?_) (fun c => ?_)
      · replace H := H.1 c
        exact H
      · replace H := H.2 c
        refine And.intro R.1 ?_
        refine Or.inl ⟨_, (ra_r36 R), ?_⟩
        refine ⟨(Or.inr (ra_k36 R)), vp_cst (ra_l36 R) H.1, ?_⟩
        replace H := H.2
        refine And.intro (fun c => ?_) (fun c => ?_)
        · replace H := H.1 c
          exact H
        · replace H := H.2 c
          exact H

theorem r_widest_42 {G : GT} {d m : Nat} {M : Mem} (R : RefAt M m) {l1 : Int32} {l2 : Int32} {Q : Int32 → Mem → Prop} (H : At G (d + 1) 230 43 [(0, .ref m), (1, .int l1), (2, .int l2)] [.int (0 : Int32)] M (qI Q)) : At G (d + 1) 230 42 [(0, .ref m), (1, .int l1), (2, .int l2)] [] M (qI Q) := by
  refine vcc ok230 25 [4, 43, 78, 80] ?_
  exact H

theorem r_widest_43 {G : GT} {d m : Nat} {M : Mem} (R : RefAt M m) {l1 : Int32} {l2 : Int32} {t0 : Int32} {Q : Int32 → Mem → Prop} (H : (t0 = 0 → At G (d + 1) 230 80 [(0, .ref m), (1, .int l1), (2, .int l2)] [] M (qI Q)) ∧ (¬ t0 = 0 → (l1 = (-1 : Int32) → At G (d + 1) 230 78 [(0, .ref m), (2, .int l2)] [] M (qI Q)) ∧ (¬ l1 = (-1 : Int32) → CI G d 211 [.ref m, .int l2] M (fun v2 M1 => RefAt M1 m ∧ (CI G d 210 [.ref m, .int l2] M1 (fun v4 M3 => RefAt M3 m ∧ (CI G d 211 [.ref m, .int l1] M3 (fun v6 M5 => RefAt M5 m ∧ (CI G d 210 [.ref m, .int l1] M5 (fun v8 M7 => RefAt M7 m ∧ (((v2 - v4) ≤ (v6 - v8) → At G (d + 1) 230 80 [(0, .ref m), (1, .int l1), (2, .int l2)] [] M7 (qI Q)) ∧ (¬ (v2 - v4) ≤ (v6 - v8) → At G (d + 1) 230 78 [(0, .ref m), (2, .int l2)] [] M7 (qI Q))))))))))))) : At G (d + 1) 230 43 [(0, .ref m), (1, .int l1), (2, .int l2)] [.int t0] M (qI Q) := by
  refine vcc ok230 26 [4, 42, 78, 80] ?_
  refine And.intro (fun c => ?_) (fun c => ?_)
  · replace H := H.1 c
    exact At.keep [0, 1, 2] H
  · replace H := H.2 c
    refine And.intro (fun c => ?_) (fun c => ?_)
    · replace H := H.1 c
      exact At.keep [0, 2] H
    · replace H := H.2 c
      refine And.intro (Nat.le_of_ble_eq_true rfl) ?_
      refine And.intro (Nat.le_of_ble_eq_true rfl) (And.intro R.1 ?_)
      refine Cl.mono H (fun r M1 h => ?_)
      obtain ⟨v2, rfl, H⟩ := h
      obtain ⟨R, H⟩ := H
      refine And.intro (Nat.le_of_ble_eq_true rfl) ?_
      refine And.intro (Nat.le_of_ble_eq_true rfl) (And.intro R.1 ?_)
      refine Cl.mono H (fun r M3 h => ?_)
      obtain ⟨v4, rfl, H⟩ := h
      obtain ⟨R, H⟩ := H
      refine And.intro (Nat.le_of_ble_eq_true rfl) ?_
      refine And.intro (Nat.le_of_ble_eq_true rfl) (And.intro R.1 ?_)
      refine Cl.mono H (fun r M5 h => ?_)
      obtain ⟨v6, rfl, H⟩ := h
      obtain ⟨R, H⟩ := H
      refine And.intro (Nat.le_of_ble_eq_true rfl) ?_
      refine And.intro (Nat.le_of_ble_eq_true rfl) (And.intro R.1 ?_)
      refine Cl.mono H (fun r M7 h => ?_)
      obtain ⟨v8, rfl, H⟩ := h
      obtain ⟨R, H⟩ := H
      refine And.intro (fun c => ?_) (fun c => ?_)
      · replace H := H.1 c
        exact At.keep [0, 1, 2] H
      · replace H := H.2 c
        exact At.keep [0, 2] H

theorem r_widest_78 {G : GT} {d m : Nat} {M : Mem} (R : RefAt M m) {l2 : Int32} {Q : Int32 → Mem → Prop} (H : At G (d + 1) 230 80 [(0, .ref m), (1, .int l2), (2, .int l2)] [] M (qI Q)) : At G (d + 1) 230 78 [(0, .ref m), (2, .int l2)] [] M (qI Q) := by
  refine vcc ok230 47 [4, 42, 43, 80] ?_
  exact H

theorem r_widest_80 {G : GT} {d m : Nat} {M : Mem} (R : RefAt M m) {l1 : Int32} {l2 : Int32} {Q : Int32 → Mem → Prop} (H : At G (d + 1) 230 4 [(0, .ref m), (1, .int l1), (2, .int (l2 + (1 : Int32)))] [] M (qI Q)) : At G (d + 1) 230 80 [(0, .ref m), (1, .int l1), (2, .int l2)] [] M (qI Q) := by
  refine vcc ok230 49 [4, 42, 43, 78] ?_
  exact H

theorem r_doesAlike {G : GT} {d m : Nat} {M : Mem} (R : RefAt M m) {a1 : Int32} {Q : Mem → Prop} (H : At G (d + 1) 231 2 [(0, .ref m), (1, .int a1), (2, .int (0 : Int32))] [] M (qV Q)) : CV G (d + 1) 231 [.ref m, .int a1] M Q := by
  refine Cl.ofM (Nat.le_of_ble_eq_true rfl) rfl ?_
  refine vcc ok231 0 [2] ?_
  exact H

theorem r_doesAlike_2 {G : GT} {d m : Nat} {M : Mem} (R : RefAt M m) {l1 : Int32} {l2 : Int32} {Q : Mem → Prop} (H : ((64 : Int32) ≤ l2 → Q M) ∧ (¬ (64 : Int32) ≤ l2 → vp_in l2 64 ∧ ((¬ (vi M (m + 26) (l2).toNatClampNeg) = 0 → vp_in l2 64 ∧ (∀ M1, M1 = seti M (m + 26) (l2).toNatClampNeg (vp_nar .boolean (1 : Int32)) → At G (d + 1) 231 2 [(0, .ref m), (1, .int l1), (2, .int (l2 + (1 : Int32)))] [] M1 (qV Q))) ∧ ((vi M (m + 26) (l2).toNatClampNeg) = 0 → vp_in l2 64 ∧ (((vi M (m + 31) (l2).toNatClampNeg) = 0 → vp_in l2 64 ∧ (∀ M2, M2 = seti M (m + 26) (l2).toNatClampNeg (vp_nar .boolean (0 : Int32)) → At G (d + 1) 231 2 [(0, .ref m), (1, .int l1), (2, .int (l2 + (1 : Int32)))] [] M2 (qV Q))) ∧ (¬ (vi M (m + 31) (l2).toNatClampNeg) = 0 → CI G d 204 [.ref m, .int l2, .int l1] M (fun v4 M3 => RefAt M3 m ∧ ((v4 = 0 → vp_in l2 64 ∧ (∀ M5, M5 = seti M3 (m + 26) (l2).toNatClampNeg (vp_nar .boolean (0 : Int32)) → At G (d + 1) 231 2 [(0, .ref m), (1, .int l1), (2, .int (l2 + (1 : Int32)))] [] M5 (qV Q))) ∧ (¬ v4 = 0 → vp_in l2 64 ∧ (∀ M6, M6 = seti M3 (m + 26) (l2).toNatClampNeg (vp_nar .boolean (1 : Int32)) → At G (d + 1) 231 2 [(0, .ref m), (1, .int l1), (2, .int (l2 + (1 : Int32)))] [] M6 (qV Q))))))))))) : At G (d + 1) 231 2 [(0, .ref m), (1, .int l1), (2, .int l2)] [] M (qV Q) := by
  refine vcc ok231 2 [] ?_
  refine And.intro (fun c => ?_) (fun c => ?_)
  · replace H := H.1 c
    exact ⟨rfl, H⟩
  · replace H := H.2 c
    refine And.intro R.1 ?_
    refine Or.inl ⟨_, (ra_r36 R), ?_⟩
    refine And.intro R.1 ?_
    refine Or.inl ⟨_, (ra_r36 R), ?_⟩
    refine ⟨(Or.inr (ra_k36 R)), vp_cst (ra_l36 R) H.1, ?_⟩
    replace H := H.2
    refine And.intro (fun c => ?_) (fun c => ?_)
    · replace H := H.1 c
      refine Or.inr ⟨(ra_k36 R), vp_cst (ra_l36 R) H.1, ?_⟩
      replace H := H.2
      replace H := H _ rfl
      exact H
    · replace H := H.2 c
      refine And.intro R.1 ?_
      refine Or.inl ⟨_, (ra_r41 R), ?_⟩
      refine ⟨(Or.inr (ra_k41 R)), vp_cst (ra_l41 R) H.1, ?_⟩
      replace H := H.2
      refine And.intro (fun c => ?_) (fun c => ?_)
      · replace H := H.1 c
        refine Or.inr ⟨(ra_k36 R), vp_cst (ra_l36 R) H.1, ?_⟩
        replace H := H.2
        replace H := H _ rfl
        exact H
      · replace H := H.2 c
        refine And.intro (Nat.le_of_ble_eq_true rfl) ?_
        refine And.intro (Nat.le_of_ble_eq_true rfl) (And.intro R.1 ?_)
        refine Cl.mono H (fun r M3 h => ?_)
        obtain ⟨v4, rfl, H⟩ := h
        obtain ⟨R, H⟩ := H
        refine And.intro (fun c => ?_) (fun c => ?_)
        · replace H := H.1 c
          refine Or.inr ⟨(ra_k36 R), vp_cst (ra_l36 R) H.1, ?_⟩
          replace H := H.2
          replace H := H _ rfl
          exact H
        · replace H := H.2 c
          refine Or.inr ⟨(ra_k36 R), vp_cst (ra_l36 R) H.1, ?_⟩
          replace H := H.2
          replace H := H _ rfl
          exact H

theorem r_isSmall {G : GT} {d : Nat} {M : Mem} {a1 : Int32} {Q : Int32 → Mem → Prop} (H : CI G d 155 [.long ((a1).toInt64), .long (97 : Int64), .long (122 : Int64)] M (fun v2 M1 => (v2 = 0 ∨ v2 = 1) ∧ Q v2 M1)) : CI G (d + 1) 232 [.int a1] M Q := by
  refine Cl.ofM (Nat.le_of_ble_eq_true rfl) rfl ?_
  refine vcc ok232 0 [] ?_
  refine And.intro (Nat.le_of_ble_eq_true rfl) ?_
  refine And.intro (Nat.le_of_ble_eq_true rfl) ?_
  refine Cl.mono H (fun r M1 h => ?_)
  obtain ⟨v2, rfl, H⟩ := h
  exact ⟨fun _ => H.1, _, rfl, H.2⟩

theorem r_isCapital {G : GT} {d : Nat} {M : Mem} {a1 : Int32} {Q : Int32 → Mem → Prop} (H : CI G d 155 [.long ((a1).toInt64), .long (65 : Int64), .long (90 : Int64)] M (fun v2 M1 => (v2 = 0 ∨ v2 = 1) ∧ Q v2 M1)) : CI G (d + 1) 233 [.int a1] M Q := by
  refine Cl.ofM (Nat.le_of_ble_eq_true rfl) rfl ?_
  refine vcc ok233 0 [] ?_
  refine And.intro (Nat.le_of_ble_eq_true rfl) ?_
  refine And.intro (Nat.le_of_ble_eq_true rfl) ?_
  refine Cl.mono H (fun r M1 h => ?_)
  obtain ⟨v2, rfl, H⟩ := h
  exact ⟨fun _ => H.1, _, rfl, H.2⟩

theorem r_touches {G : GT} {d m : Nat} {M : Mem} (R : RefAt M m) {a1 : Int32} {Q : Mem → Prop} (H : vp_in a1 64 ∧ (At G (d + 1) 234 7 [(0, .ref m), (1, .int a1), (2, .int (vi M (m + 8) (a1).toNatClampNeg))] [] M (qV Q))) : CV G (d + 1) 234 [.ref m, .int a1] M Q := by
  refine Cl.ofM (Nat.le_of_ble_eq_true rfl) rfl ?_
  refine vcc ok234 0 [7] ?_
  refine And.intro R.1 ?_
  refine Or.inl ⟨_, (ra_r8 R), ?_⟩
  refine Or.inl ⟨(ra_k8 R), vp_cst (ra_l8 R) H.1, ?_⟩
  replace H := H.2
  exact H

theorem r_touches_7 {G : GT} {d m : Nat} {M : Mem} (R : RefAt M m) {l1 : Int32} {l2 : Int32} {Q : Mem → Prop} (H : vp_in l1 64 ∧ (((vi M (m + 9) (l1).toNatClampNeg) ≤ l2 → Q M) ∧ (¬ (vi M (m + 9) (l1).toNatClampNeg) ≤ l2 → vp_in l1 64 ∧ ((¬ (vi M (m + 7) (l1).toNatClampNeg) = (1 : Int32) → vp_in l1 64 ∧ ((¬ (vi M (m + 7) (l1).toNatClampNeg) = (2 : Int32) → vp_in l1 64 ∧ ((¬ (vi M (m + 7) (l1).toNatClampNeg) = (3 : Int32) → At G (d + 1) 234 7 [(0, .ref m), (1, .int l1), (2, .int (l2 + (1 : Int32)))] [] M (qV Q)) ∧ ((vi M (m + 7) (l1).toNatClampNeg) = (3 : Int32) → vp_in l2 200 ∧ (CI G d 233 [.int (vi M (m + 29) (l2).toNatClampNeg)] M (fun v2 M1 => RefAt M1 m ∧ ((v2 = 0 → At G (d + 1) 234 7 [(0, .ref m), (1, .int l1), (2, .int (l2 + (1 : Int32)))] [] M1 (qV Q)) ∧ (¬ v2 = 0 → vp_in l2 200 ∧ (vp_in l2 200 ∧ (∀ M3, M3 = seti M1 (m + 29) (l2).toNatClampNeg ((vi M1 (m + 29) (l2).toNatClampNeg) + (32 : Int32)) → At G (d + 1) 234 7 [(0, .ref m), (1, .int l1), (2, .int (l2 + (1 : Int32)))] [] M3 (qV Q)))))))))) ∧ ((vi M (m + 7) (l1).toNatClampNeg) = (2 : Int32) → vp_in l2 200 ∧ (CI G d 232 [.int (vi M (m + 29) (l2).toNatClampNeg)] M (fun v5 M4 => RefAt M4 m ∧ ((v5 = 0 → vp_in l1 64 ∧ ((¬ (vi M4 (m + 7) (l1).toNatClampNeg) = (3 : Int32) → At G (d + 1) 234 7 [(0, .ref m), (1, .int l1), (2, .int (l2 + (1 : Int32)))] [] M4 (qV Q)) ∧ ((vi M4 (m + 7) (l1).toNatClampNeg) = (3 : Int32) → vp_in l2 200 ∧ (CI G d 233 [.int (vi M4 (m + 29) (l2).toNatClampNeg)] M4 (fun v7 M6 => RefAt M6 m ∧ ((v7 = 0 → At G (d + 1) 234 7 [(0, .ref m), (1, .int l1), (2, .int (l2 + (1 : Int32)))] [] M6 (qV Q)) ∧ (¬ v7 = 0 → vp_in l2 200 ∧ (vp_in l2 200 ∧ (∀ M8, M8 = seti M6 (m + 29) (l2).toNatClampNeg ((vi M6 (m + 29) (l2).toNatClampNeg) + (32 : Int32)) → At G (d + 1) 234 7 [(0, .ref m), (1, .int l1), (2, .int (l2 + (1 : Int32)))] [] M8 (qV Q)))))))))) ∧ (¬ v5 = 0 → vp_in l2 200 ∧ (vp_in l2 200 ∧ (∀ M9, M9 = seti M4 (m + 29) (l2).toNatClampNeg ((vi M4 (m + 29) (l2).toNatClampNeg) - (32 : Int32)) → At G (d + 1) 234 7 [(0, .ref m), (1, .int l1), (2, .int (l2 + (1 : Int32)))] [] M9 (qV Q)))))))))) ∧ ((vi M (m + 7) (l1).toNatClampNeg) = (1 : Int32) → vp_in l2 200 ∧ (∀ M10, M10 = seti M (m + 32) (l2).toNatClampNeg (vp_nar .boolean (1 : Int32)) → At G (d + 1) 234 7 [(0, .ref m), (1, .int l1), (2, .int (l2 + (1 : Int32)))] [] M10 (qV Q))))))) : At G (d + 1) 234 7 [(0, .ref m), (1, .int l1), (2, .int l2)] [] M (qV Q) := by
  refine vcc ok234 5 [] ?_
  refine And.intro R.1 ?_
  refine Or.inl ⟨_, (ra_r9 R), ?_⟩
  refine Or.inl ⟨(ra_k9 R), vp_cst (ra_l9 R) H.1, ?_⟩
  replace H := H.2
  refine And.intro (fun c => ?_) (fun c => ?_)
  · replace H := H.1 c
    exact ⟨rfl, H⟩
  · replace H := H.2 c
    refine And.intro R.1 ?_
    refine Or.inl ⟨_, (ra_r7 R), ?_⟩
    refine Or.inl ⟨(ra_k7 R), vp_cst (ra_l7 R) H.1, ?_⟩
    replace H := H.2
    refine And.intro (fun c => ?_) (fun c => ?_)
    · replace H := H.1 c
      refine And.intro R.1 ?_
      refine Or.inl ⟨_, (ra_r7 R), ?_⟩
      refine Or.inl ⟨(ra_k7 R), vp_cst (ra_l7 R) H.1, ?_⟩
      replace H := H.2
      refine And.intro (fun c => ?_) (fun c => ?_)
      · replace H := H.1 c
        refine And.intro R.1 ?_
        refine Or.inl ⟨_, (ra_r7 R), ?_⟩
        refine Or.inl ⟨(ra_k7 R), vp_cst (ra_l7 R) H.1, ?_⟩
        replace H := H.2
        refine And.intro (fun c => ?_) (fun c => ?_)
        · replace H := H.1 c
          exact H
        · replace H := H.2 c
          refine And.intro R.1 ?_
          refine Or.inl ⟨_, (ra_r39 R), ?_⟩
          refine Or.inl ⟨(ra_k39 R), vp_cst (ra_l39 R) H.1, ?_⟩
          replace H := H.2
          refine And.intro (Nat.le_of_ble_eq_true rfl) ?_
          refine And.intro (Nat.le_of_ble_eq_true rfl) ?_
          refine Cl.mono H (fun r M1 h => ?_)
          obtain ⟨v2, rfl, H⟩ := h
          obtain ⟨R, H⟩ := H
          refine And.intro (fun c => ?_) (fun c => ?_)
          · replace H := H.1 c
            exact H
          · replace H := H.2 c
            refine And.intro R.1 ?_
            refine Or.inl ⟨_, (ra_r39 R), ?_⟩
            refine Or.inl ⟨(ra_k39 R), vp_cst (ra_l39 R) H.1, ?_⟩
            replace H := H.2
            refine ⟨(ra_k39 R), vp_cst (ra_l39 R) H.1, ?_⟩
            replace H := H.2
            replace H := H _ rfl
            exact H
      · replace H := H.2 c
        refine And.intro R.1 ?_
        refine Or.inl ⟨_, (ra_r39 R), ?_⟩
        refine Or.inl ⟨(ra_k39 R), vp_cst (ra_l39 R) H.1, ?_⟩
        replace H := H.2
        refine And.intro (Nat.le_of_ble_eq_true rfl) ?_
        refine And.intro (Nat.le_of_ble_eq_true rfl) ?_
        refine Cl.mono H (fun r M4 h => ?_)
        obtain ⟨v5, rfl, H⟩ := h
        obtain ⟨R, H⟩ := H
        refine And.intro (fun c => ?_) (fun c => ?_)
        · replace H := H.1 c
          refine And.intro R.1 ?_
          refine Or.inl ⟨_, (ra_r7 R), ?_⟩
          refine Or.inl ⟨(ra_k7 R), vp_cst (ra_l7 R) H.1, ?_⟩
          replace H := H.2
          refine And.intro (fun c => ?_) (fun c => ?_)
          · replace H := H.1 c
            exact H
          · replace H := H.2 c
            refine And.intro R.1 ?_
            refine Or.inl ⟨_, (ra_r39 R), ?_⟩
            refine Or.inl ⟨(ra_k39 R), vp_cst (ra_l39 R) H.1, ?_⟩
            replace H := H.2
            refine And.intro (Nat.le_of_ble_eq_true rfl) ?_
            refine And.intro (Nat.le_of_ble_eq_true rfl) ?_
            refine Cl.mono H (fun r M6 h => ?_)
            obtain ⟨v7, rfl, H⟩ := h
            obtain ⟨R, H⟩ := H
            refine And.intro (fun c => ?_) (fun c => ?_)
            · replace H := H.1 c
              exact H
            · replace H := H.2 c
              refine And.intro R.1 ?_
              refine Or.inl ⟨_, (ra_r39 R), ?_⟩
              refine Or.inl ⟨(ra_k39 R), vp_cst (ra_l39 R) H.1, ?_⟩
              replace H := H.2
              refine ⟨(ra_k39 R), vp_cst (ra_l39 R) H.1, ?_⟩
              replace H := H.2
              replace H := H _ rfl
              exact H
        · replace H := H.2 c
          refine And.intro R.1 ?_
          refine Or.inl ⟨_, (ra_r39 R), ?_⟩
          refine Or.inl ⟨(ra_k39 R), vp_cst (ra_l39 R) H.1, ?_⟩
          replace H := H.2
          refine ⟨(ra_k39 R), vp_cst (ra_l39 R) H.1, ?_⟩
          replace H := H.2
          replace H := H _ rfl
          exact H
    · replace H := H.2 c
      refine And.intro R.1 ?_
      refine Or.inl ⟨_, (ra_r42 R), ?_⟩
      refine Or.inr ⟨(ra_k42 R), vp_cst (ra_l42 R) H.1, ?_⟩
      replace H := H.2
      replace H := H _ rfl
      exact H
