/-! THE REFERENCE, block by block: by program (wip/tools/refall.py) -/
theorem r_spot {G : GT} {d m : Nat} {M : Mem} (R : RefAt M m) {a1 : Int32} {a2 : Int32} {Q : Int32 → Mem → Prop} (H : CV G d 175 [.ref m] M (fun M1 => RefAt M1 m ∧ (At G (d + 1) 191 15 [(0, .ref m), (1, .int a1), (2, .int a2), (3, .int (vi M1 m 14)), (4, .int (0 : Int32)), (5, .int (0 : Int32))] [] M1 (qI Q)))) : CI G (d + 1) 191 [.ref m, .int a1, .int a2] M Q := by
  refine Cl.ofM (Nat.le_of_ble_eq_true rfl) rfl ?_
  refine vcc ok191 0 [15] ?_
  refine And.intro (Nat.le_of_ble_eq_true rfl) ?_
  refine And.intro (Nat.le_of_ble_eq_true rfl) (And.intro R.1 ?_)
  refine Cl.mono H (fun r M1 h => ?_)
  obtain ⟨rfl, H⟩ := h
  obtain ⟨R, H⟩ := H
  refine And.intro R.1 ?_
  exact H

theorem r_spot_15 {G : GT} {d m : Nat} {M : Mem} (R : RefAt M m) {l1 : Int32} {l2 : Int32} {l3 : Int32} {l4 : Int32} {l5 : Int32} {Q : Int32 → Mem → Prop} (H : ((vi M m 13) ≤ (vi M m 14) → (¬ l4 = 0 → ((3 : Int32) < l4 → CV G d 173 [.ref m, .int (1 : Int32), .int l3] M (fun M2 => RefAt M2 m ∧ (Q l5 M2))) ∧ (¬ (3 : Int32) < l4 → (l5 < l1 → CV G d 173 [.ref m, .int (1 : Int32), .int l3] M (fun M3 => RefAt M3 m ∧ (Q l5 M3))) ∧ (¬ l5 < l1 → (l5 ≤ l2 → Q l5 M) ∧ (¬ l5 ≤ l2 → CV G d 173 [.ref m, .int (1 : Int32), .int l3] M (fun M4 => RefAt M4 m ∧ (Q l5 M4)))))) ∧ (l4 = 0 → CV G d 173 [.ref m, .int (0 : Int32), .int l3] M (fun M5 => RefAt M5 m ∧ (Q l5 M5)))) ∧ (¬ (vi M m 13) ≤ (vi M m 14) → vp_in (vi M m 14) 400 ∧ (CI G d 155 [.long (((vi M (m + 13) ((vi M m 14)).toNatClampNeg)).toInt64), .long (48 : Int64), .long (57 : Int64)] M (fun v7 M6 => RefAt M6 m ∧ ((v7 = 0 → (¬ l4 = 0 → ((3 : Int32) < l4 → CV G d 173 [.ref m, .int (1 : Int32), .int l3] M6 (fun M8 => RefAt M8 m ∧ (Q l5 M8))) ∧ (¬ (3 : Int32) < l4 → (l5 < l1 → CV G d 173 [.ref m, .int (1 : Int32), .int l3] M6 (fun M9 => RefAt M9 m ∧ (Q l5 M9))) ∧ (¬ l5 < l1 → (l5 ≤ l2 → Q l5 M6) ∧ (¬ l5 ≤ l2 → CV G d 173 [.ref m, .int (1 : Int32), .int l3] M6 (fun M10 => RefAt M10 m ∧ (Q l5 M10)))))) ∧ (l4 = 0 → CV G d 173 [.ref m, .int (0 : Int32), .int l3] M6 (fun M11 => RefAt M11 m ∧ (Q l5 M11)))) ∧ (¬ v7 = 0 → ((4 : Int32) ≤ l4 → ∀ M12, M12 = seti M6 m 14 ((vi M6 m 14) + (1 : Int32)) → At G (d + 1) 191 15 [(0, .ref m), (1, .int l1), (2, .int l2), (3, .int l3), (4, .int (l4 + (1 : Int32))), (5, .int l5)] [] M12 (qI Q)) ∧ (¬ (4 : Int32) ≤ l4 → vp_in (vi M6 m 14) 400 ∧ (∀ M13, M13 = seti M6 m 14 ((vi M6 m 14) + (1 : Int32)) → At G (d + 1) 191 15 [(0, .ref m), (1, .int l1), (2, .int l2), (3, .int l3), (4, .int (l4 + (1 : Int32))), (5, .int ((((10 : Int32) * l5) + (vi M6 (m + 13) ((vi M6 m 14)).toNatClampNeg)) - (48 : Int32)))] [] M13 (qI Q))))))))) : At G (d + 1) 191 15 [(0, .ref m), (1, .int l1), (2, .int l2), (3, .int l3), (4, .int l4), (5, .int l5)] [] M (qI Q) := by
  refine vcc ok191 9 [] ?_
  refine And.intro R.1 ?_
  refine And.intro R.1 ?_
  refine And.intro (fun c => ?_) (fun c => ?_)
  · replace H := H.1 c
    refine And.intro (fun c => ?_) (fun c => ?_)
    · replace H := H.1 c
      refine And.intro (fun c => ?_) (fun c => ?_)
      · replace H := H.1 c
        refine And.intro (Nat.le_of_ble_eq_true rfl) ?_
        refine And.intro (Nat.le_of_ble_eq_true rfl) (And.intro R.1 ?_)
        refine Cl.mono H (fun r M2 h => ?_)
        obtain ⟨rfl, H⟩ := h
        obtain ⟨R, H⟩ := H
        exact ⟨fun h => absurd h (by decide), _, rfl, H⟩
      · replace H := H.2 c
        refine And.intro (fun c => ?_) (fun c => ?_)
        · replace H := H.1 c
          refine And.intro (Nat.le_of_ble_eq_true rfl) ?_
          refine And.intro (Nat.le_of_ble_eq_true rfl) (And.intro R.1 ?_)
          refine Cl.mono H (fun r M3 h => ?_)
          obtain ⟨rfl, H⟩ := h
          obtain ⟨R, H⟩ := H
          exact ⟨fun h => absurd h (by decide), _, rfl, H⟩
        · replace H := H.2 c
          refine And.intro (fun c => ?_) (fun c => ?_)
          · replace H := H.1 c
            exact ⟨fun h => absurd h (by decide), _, rfl, H⟩
          · replace H := H.2 c
            refine And.intro (Nat.le_of_ble_eq_true rfl) ?_
            refine And.intro (Nat.le_of_ble_eq_true rfl) (And.intro R.1 ?_)
            refine Cl.mono H (fun r M4 h => ?_)
            obtain ⟨rfl, H⟩ := h
            obtain ⟨R, H⟩ := H
            exact ⟨fun h => absurd h (by decide), _, rfl, H⟩
    · replace H := H.2 c
      refine And.intro (Nat.le_of_ble_eq_true rfl) ?_
      refine And.intro (Nat.le_of_ble_eq_true rfl) (And.intro R.1 ?_)
      refine Cl.mono H (fun r M5 h => ?_)
      obtain ⟨rfl, H⟩ := h
      obtain ⟨R, H⟩ := H
      exact ⟨fun h => absurd h (by decide), _, rfl, H⟩
  · replace H := H.2 c
    refine And.intro R.1 ?_
    refine Or.inl ⟨_, (ra_r23 R), ?_⟩
    refine And.intro R.1 ?_
    refine ⟨(Or.inl (ra_k23 R)), vp_cst (ra_l23 R) H.1, ?_⟩
    replace H := H.2
    refine And.intro (Nat.le_of_ble_eq_true rfl) ?_
    refine And.intro (Nat.le_of_ble_eq_true rfl) ?_
    refine Cl.mono H (fun r M6 h => ?_)
    obtain ⟨v7, rfl, H⟩ := h
    obtain ⟨R, H⟩ := H
    refine And.intro (fun c => ?_) (fun c => ?_)
    · replace H := H.1 c
      refine And.intro (fun c => ?_) (fun c => ?_)
      · replace H := H.1 c
        refine And.intro (fun c => ?_) (fun c => ?_)
        · replace H := H.1 c
          refine And.intro (Nat.le_of_ble_eq_true rfl) ?_
          refine And.intro (Nat.le_of_ble_eq_true rfl) (And.intro R.1 ?_)
          refine Cl.mono H (fun r M8 h => ?_)
          obtain ⟨rfl, H⟩ := h
          obtain ⟨R, H⟩ := H
          exact ⟨fun h => absurd h (by decide), _, rfl, H⟩
        · replace H := H.2 c
          refine And.intro (fun c => ?_) (fun c => ?_)
          · replace H := H.1 c
            refine And.intro (Nat.le_of_ble_eq_true rfl) ?_
            refine And.intro (Nat.le_of_ble_eq_true rfl) (And.intro R.1 ?_)
            refine Cl.mono H (fun r M9 h => ?_)
            obtain ⟨rfl, H⟩ := h
            obtain ⟨R, H⟩ := H
            exact ⟨fun h => absurd h (by decide), _, rfl, H⟩
          · replace H := H.2 c
            refine And.intro (fun c => ?_) (fun c => ?_)
            · replace H := H.1 c
              exact ⟨fun h => absurd h (by decide), _, rfl, H⟩
            · replace H := H.2 c
              refine And.intro (Nat.le_of_ble_eq_true rfl) ?_
              refine And.intro (Nat.le_of_ble_eq_true rfl) (And.intro R.1 ?_)
              refine Cl.mono H (fun r M10 h => ?_)
              obtain ⟨rfl, H⟩ := h
              obtain ⟨R, H⟩ := H
              exact ⟨fun h => absurd h (by decide), _, rfl, H⟩
      · replace H := H.2 c
        refine And.intro (Nat.le_of_ble_eq_true rfl) ?_
        refine And.intro (Nat.le_of_ble_eq_true rfl) (And.intro R.1 ?_)
        refine Cl.mono H (fun r M11 h => ?_)
        obtain ⟨rfl, H⟩ := h
        obtain ⟨R, H⟩ := H
        exact ⟨fun h => absurd h (by decide), _, rfl, H⟩
    · replace H := H.2 c
      refine And.intro (fun c => ?_) (fun c => ?_)
      · replace H := H.1 c
        refine And.intro R.1 ?_
        refine And.intro R.1 ?_
        refine And.intro (Or.inl rfl) (And.intro (fun h => absurd h (by decide)) ?_)
        replace H := H _ rfl
        exact H
      · replace H := H.2 c
        refine And.intro R.1 ?_
        refine Or.inl ⟨_, (ra_r23 R), ?_⟩
        refine And.intro R.1 ?_
        refine ⟨(Or.inl (ra_k23 R)), vp_cst (ra_l23 R) H.1, ?_⟩
        replace H := H.2
        refine And.intro R.1 ?_
        refine And.intro R.1 ?_
        refine And.intro (Or.inl rfl) (And.intro (fun h => absurd h (by decide)) ?_)
        replace H := H _ rfl
        exact H

theorem r_readsText {G : GT} {d m : Nat} {M : Mem} (R : RefAt M m) {a1 : Int32} {Q : Mem → Prop} (H : CV G d 175 [.ref m] M (fun M1 => RefAt M1 m ∧ (((vi M1 m 13) ≤ (vi M1 m 14) → At G (d + 1) 192 29 [(0, .ref m)] [] M1 (qV Q)) ∧ (¬ (vi M1 m 13) ≤ (vi M1 m 14) → vp_in (vi M1 m 14) 400 ∧ (((vi M1 (m + 13) ((vi M1 m 14)).toNatClampNeg) = (39 : Int32) → ∀ M2, M2 = seti M1 m 14 ((vi M1 m 14) + (1 : Int32)) → At G (d + 1) 192 51 [(0, .ref m), (1, .int a1), (2, .int (0 : Int32))] [] M2 (qV Q)) ∧ (¬ (vi M1 (m + 13) ((vi M1 m 14)).toNatClampNeg) = (39 : Int32) → At G (d + 1) 192 29 [(0, .ref m)] [] M1 (qV Q))))))) : CV G (d + 1) 192 [.ref m, .int a1] M Q := by
  refine Cl.ofM (Nat.le_of_ble_eq_true rfl) rfl ?_
  refine vcc ok192 0 [29, 51, 83, 131, 179, 199] ?_
  refine And.intro (Nat.le_of_ble_eq_true rfl) ?_
  refine And.intro (Nat.le_of_ble_eq_true rfl) (And.intro R.1 ?_)
  refine Cl.mono H (fun r M1 h => ?_)
  obtain ⟨rfl, H⟩ := h
  obtain ⟨R, H⟩ := H
  refine And.intro R.1 ?_
  refine And.intro R.1 ?_
  refine And.intro (fun c => ?_) (fun c => ?_)
  · replace H := H.1 c
    exact At.keep [0] H
  · replace H := H.2 c
    refine And.intro R.1 ?_
    refine Or.inl ⟨_, (ra_r23 R), ?_⟩
    refine And.intro R.1 ?_
    refine ⟨(Or.inl (ra_k23 R)), vp_cst (ra_l23 R) H.1, ?_⟩
    replace H := H.2
    refine And.intro (fun c => ?_) (fun c => ?_)
    · replace H := H.1 c
      refine And.intro R.1 ?_
      refine And.intro R.1 ?_
      refine And.intro (Or.inl rfl) (And.intro (fun h => absurd h (by decide)) ?_)
      replace H := H _ rfl
      exact H
    · replace H := H.2 c
      exact At.keep [0] H

theorem r_readsText_29 {G : GT} {d m : Nat} {M : Mem} (R : RefAt M m)  {Q : Mem → Prop} (H : CV G d 173 [.ref m, .int (0 : Int32), .int (vi M m 14)] M (fun M3 => RefAt M3 m ∧ (Q M3))) : At G (d + 1) 192 29 [(0, .ref m)] [] M (qV Q) := by
  refine vcc ok192 14 [51, 83, 131, 179, 199] ?_
  refine And.intro R.1 ?_
  refine And.intro (Nat.le_of_ble_eq_true rfl) ?_
  refine And.intro (Nat.le_of_ble_eq_true rfl) (And.intro R.1 ?_)
  refine Cl.mono H (fun r M3 h => ?_)
  obtain ⟨rfl, H⟩ := h
  obtain ⟨R, H⟩ := H
  exact ⟨rfl, H⟩

theorem r_readsText_51 {G : GT} {d m : Nat} {M : Mem} (R : RefAt M m) {l1 : Int32} {l2 : Int32} {Q : Mem → Prop} (H : (¬ (vi M m 15) = 0 → At G (d + 1) 192 179 [(0, .ref m), (1, .int l1), (2, .int l2)] [] M (qV Q)) ∧ ((vi M m 15) = 0 → ((vi M m 13) ≤ (vi M m 14) → At G (d + 1) 192 83 [(0, .ref m), (1, .int l1), (2, .int l2)] [] M (qV Q)) ∧ (¬ (vi M m 13) ≤ (vi M m 14) → vp_in (vi M m 14) 400 ∧ (((vi M (m + 13) ((vi M m 14)).toNatClampNeg) = (39 : Int32) → At G (d + 1) 192 179 [(0, .ref m), (1, .int l1), (2, .int l2)] [] M (qV Q)) ∧ (¬ (vi M (m + 13) ((vi M m 14)).toNatClampNeg) = (39 : Int32) → At G (d + 1) 192 83 [(0, .ref m), (1, .int l1), (2, .int l2)] [] M (qV Q)))))) : At G (d + 1) 192 51 [(0, .ref m), (1, .int l1), (2, .int l2)] [] M (qV Q) := by
  refine vcc ok192 28 [29, 83, 131, 179, 199] ?_
  refine And.intro R.1 ?_
  refine And.intro (fun c => ?_) (fun c => ?_)
  · replace H := H.1 c
    exact H
  · replace H := H.2 c
    refine And.intro R.1 ?_
    refine And.intro R.1 ?_
    refine And.intro (fun c => ?_) (fun c => ?_)
    · replace H := H.1 c
      exact H
    · replace H := H.2 c
      refine And.intro R.1 ?_
      refine Or.inl ⟨_, (ra_r23 R), ?_⟩
      refine And.intro R.1 ?_
      refine ⟨(Or.inl (ra_k23 R)), vp_cst (ra_l23 R) H.1, ?_⟩
      replace H := H.2
      refine And.intro (fun c => ?_) (fun c => ?_)
      · replace H := H.1 c
        exact H
      · replace H := H.2 c
        exact H

theorem r_readsText_83 {G : GT} {d m : Nat} {M : Mem} (R : RefAt M m) {l1 : Int32} {l2 : Int32} {Q : Mem → Prop} (H : ((vi M m 14) < (vi M m 13) → (l2 = (20 : Int32) → At G (d + 1) 192 131 [(0, .ref m), (1, .int l1), (2, .int l2)] [] M (qV Q)) ∧ (¬ l2 = (20 : Int32) → vp_in (vi M m 14) 400 ∧ (CI G d 167 [.int ((vi M (m + 13) ((vi M m 14)).toNatClampNeg) &&& (255 : Int32))] M (fun v5 M4 => RefAt M4 m ∧ ((¬ v5 = 0 → vp_in (vi M4 m 14) 400 ∧ (vp_in (((20 : Int32) * l1) + l2) 1280 ∧ (∀ M6, M6 = seti M4 (m + 12) ((((20 : Int32) * l1) + l2)).toNatClampNeg (vi M4 (m + 13) ((vi M4 m 14)).toNatClampNeg) → ∀ M7, M7 = seti M6 m 14 ((vi M6 m 14) + (1 : Int32)) → At G (d + 1) 192 51 [(0, .ref m), (1, .int l1), (2, .int (l2 + (1 : Int32)))] [] M7 (qV Q)))) ∧ (v5 = 0 → At G (d + 1) 192 131 [(0, .ref m), (1, .int l1), (2, .int l2)] [] M4 (qV Q))))))) ∧ (¬ (vi M m 14) < (vi M m 13) → CV G d 173 [.ref m, .int (0 : Int32), .int (vi M m 14)] M (fun M8 => RefAt M8 m ∧ (At G (d + 1) 192 51 [(0, .ref m), (1, .int l1), (2, .int l2)] [] M8 (qV Q))))) : At G (d + 1) 192 83 [(0, .ref m), (1, .int l1), (2, .int l2)] [] M (qV Q) := by
  refine vcc ok192 43 [29, 51, 131, 179, 199] ?_
  refine And.intro R.1 ?_
  refine And.intro R.1 ?_
  refine And.intro (fun c => ?_) (fun c => ?_)
  · replace H := H.1 c
    refine And.intro (fun c => ?_) (fun c => ?_)
    · replace H := H.1 c
      exact H
    · replace H := H.2 c
      refine And.intro R.1 ?_
      refine Or.inl ⟨_, (ra_r23 R), ?_⟩
      refine And.intro R.1 ?_
      refine ⟨(Or.inl (ra_k23 R)), vp_cst (ra_l23 R) H.1, ?_⟩
      replace H := H.2
      refine And.intro (Nat.le_of_ble_eq_true rfl) ?_
      refine And.intro (Nat.le_of_ble_eq_true rfl) ?_
      refine Cl.mono H (fun r M4 h => ?_)
      obtain ⟨v5, rfl, H⟩ := h
      obtain ⟨R, H⟩ := H
      refine And.intro (fun c => ?_) (fun c => ?_)
      · replace H := H.1 c
        refine And.intro R.1 ?_
        refine Or.inl ⟨_, (ra_r12 R), ?_⟩
        refine And.intro R.1 ?_
        refine Or.inl ⟨_, (ra_r23 R), ?_⟩
        refine And.intro R.1 ?_
        refine ⟨(Or.inl (ra_k23 R)), vp_cst (ra_l23 R) H.1, ?_⟩
        replace H := H.2
        refine ⟨(ra_k12 R), vp_cst (ra_l12 R) H.1, ?_⟩
        replace H := H.2
        replace H := H _ rfl
        refine And.intro R.1 ?_
        refine And.intro R.1 ?_
        refine And.intro (Or.inl rfl) (And.intro (fun h => absurd h (by decide)) ?_)
        replace H := H _ rfl
        exact H
      · replace H := H.2 c
        exact H
  · replace H := H.2 c
    refine And.intro R.1 ?_
    refine And.intro (Nat.le_of_ble_eq_true rfl) ?_
    refine And.intro (Nat.le_of_ble_eq_true rfl) (And.intro R.1 ?_)
    refine Cl.mono H (fun r M8 h => ?_)
    obtain ⟨rfl, H⟩ := h
    obtain ⟨R, H⟩ := H
    exact H

theorem r_readsText_131 {G : GT} {d m : Nat} {M : Mem} (R : RefAt M m) {l1 : Int32} {l2 : Int32} {Q : Mem → Prop} (H : CV G d 173 [.ref m, .int (2 : Int32), .int (vi M m 14)] M (fun M9 => RefAt M9 m ∧ (At G (d + 1) 192 51 [(0, .ref m), (1, .int l1), (2, .int l2)] [] M9 (qV Q)))) : At G (d + 1) 192 131 [(0, .ref m), (1, .int l1), (2, .int l2)] [] M (qV Q) := by
  refine vcc ok192 66 [29, 51, 83, 179, 199] ?_
  refine And.intro R.1 ?_
  refine And.intro (Nat.le_of_ble_eq_true rfl) ?_
  refine And.intro (Nat.le_of_ble_eq_true rfl) (And.intro R.1 ?_)
  refine Cl.mono H (fun r M9 h => ?_)
  obtain ⟨rfl, H⟩ := h
  obtain ⟨R, H⟩ := H
  exact H

theorem r_readsText_179 {G : GT} {d m : Nat} {M : Mem} (R : RefAt M m) {l1 : Int32} {l2 : Int32} {Q : Mem → Prop} (H : (¬ (vi M m 15) = 0 → At G (d + 1) 192 199 [(0, .ref m), (1, .int l1), (2, .int l2)] [] M (qV Q)) ∧ ((vi M m 15) = 0 → (¬ l2 = 0 → At G (d + 1) 192 199 [(0, .ref m), (1, .int l1), (2, .int l2)] [] M (qV Q)) ∧ (l2 = 0 → CV G d 173 [.ref m, .int (2 : Int32), .int (vi M m 14)] M (fun M10 => RefAt M10 m ∧ (At G (d + 1) 192 199 [(0, .ref m), (1, .int l1), (2, .int l2)] [] M10 (qV Q)))))) : At G (d + 1) 192 179 [(0, .ref m), (1, .int l1), (2, .int l2)] [] M (qV Q) := by
  refine vcc ok192 93 [29, 51, 83, 131, 199] ?_
  refine And.intro R.1 ?_
  refine And.intro (fun c => ?_) (fun c => ?_)
  · replace H := H.1 c
    exact H
  · replace H := H.2 c
    refine And.intro (fun c => ?_) (fun c => ?_)
    · replace H := H.1 c
      exact H
    · replace H := H.2 c
      refine And.intro R.1 ?_
      refine And.intro (Nat.le_of_ble_eq_true rfl) ?_
      refine And.intro (Nat.le_of_ble_eq_true rfl) (And.intro R.1 ?_)
      refine Cl.mono H (fun r M10 h => ?_)
      obtain ⟨rfl, H⟩ := h
      obtain ⟨R, H⟩ := H
      exact H

theorem r_readsText_199 {G : GT} {d m : Nat} {M : Mem} (R : RefAt M m) {l1 : Int32} {l2 : Int32} {Q : Mem → Prop} (H : ∀ M11, M11 = seti M m 14 ((vi M m 14) + (1 : Int32)) → vp_in l1 64 ∧ (∀ M12, M12 = seti M11 (m + 11) (l1).toNatClampNeg l2 → Q M12)) : At G (d + 1) 192 199 [(0, .ref m), (1, .int l1), (2, .int l2)] [] M (qV Q) := by
  refine vcc ok192 103 [29, 51, 83, 131, 179] ?_
  refine And.intro R.1 ?_
  refine And.intro R.1 ?_
  refine And.intro (Or.inl rfl) (And.intro (fun h => absurd h (by decide)) ?_)
  replace H := H _ rfl
  refine And.intro R.1 ?_
  refine Or.inl ⟨_, (ra_r11 R), ?_⟩
  refine ⟨(ra_k11 R), vp_cst (ra_l11 R) H.1, ?_⟩
  replace H := H.2
  replace H := H _ rfl
  exact ⟨rfl, H⟩

theorem r_span {G : GT} {d m : Nat} {M : Mem} (R : RefAt M m) {a1 : Int32} {Q : Mem → Prop} (H : vp_in (0 : Int32) 3 ∧ (CI G d 191 [.ref m, .int (0 : Int32), .int (vi M (m + 1) ((0 : Int32)).toNatClampNeg)] M (fun v2 M1 => RefAt M1 m ∧ (vp_in a1 64 ∧ (∀ M3, M3 = seti M1 (m + 8) (a1).toNatClampNeg v2 → (¬ (vi M3 m 15) = 0 → vp_in a1 64 ∧ (vp_in a1 64 ∧ (vp_in a1 64 ∧ (∀ M4, M4 = seti M3 (m + 11) (a1).toNatClampNeg ((vi M3 (m + 9) (a1).toNatClampNeg) - (vi M3 (m + 8) (a1).toNatClampNeg)) → Q M4)))) ∧ ((vi M3 m 15) = 0 → vp_in a1 64 ∧ (vp_in (0 : Int32) 3 ∧ (CI G d 191 [.ref m, .int ((vi M3 (m + 8) (a1).toNatClampNeg) + (1 : Int32)), .int (vi M3 (m + 1) ((0 : Int32)).toNatClampNeg)] M3 (fun v6 M5 => RefAt M5 m ∧ (vp_in a1 64 ∧ (∀ M7, M7 = seti M5 (m + 9) (a1).toNatClampNeg v6 → vp_in a1 64 ∧ (vp_in a1 64 ∧ (vp_in a1 64 ∧ (∀ M8, M8 = seti M7 (m + 11) (a1).toNatClampNeg ((vi M7 (m + 9) (a1).toNatClampNeg) - (vi M7 (m + 8) (a1).toNatClampNeg)) → Q M8)))))))))))))) : CV G (d + 1) 193 [.ref m, .int a1] M Q := by
  refine Cl.ofM (Nat.le_of_ble_eq_true rfl) rfl ?_
  refine vcc ok193 0 [] ?_
  refine And.intro R.1 ?_
  refine Or.inl ⟨_, (ra_r8 R), ?_⟩
  refine And.intro R.1 ?_
  refine Or.inl ⟨_, (ra_r1 R), ?_⟩
  refine Or.inl ⟨(ra_k1 R), vp_cst (ra_l1 R) H.1, ?_⟩
  replace H := H.2
  refine And.intro (Nat.le_of_ble_eq_true rfl) ?_
  refine And.intro (Nat.le_of_ble_eq_true rfl) (And.intro R.1 ?_)
  refine Cl.mono H (fun r M1 h => ?_)
  obtain ⟨v2, rfl, H⟩ := h
  obtain ⟨R, H⟩ := H
  refine ⟨(ra_k8 R), vp_cst (ra_l8 R) H.1, ?_⟩
  replace H := H.2
  replace H := H _ rfl
  refine And.intro R.1 ?_
  refine And.intro (fun c => ?_) (fun c => ?_)
  · replace H := H.1 c
    refine And.intro R.1 ?_
    refine Or.inl ⟨_, (ra_r11 R), ?_⟩
    refine And.intro R.1 ?_
    refine Or.inl ⟨_, (ra_r9 R), ?_⟩
    refine Or.inl ⟨(ra_k9 R), vp_cst (ra_l9 R) H.1, ?_⟩
    replace H := H.2
    refine And.intro R.1 ?_
    refine Or.inl ⟨_, (ra_r8 R), ?_⟩
    refine Or.inl ⟨(ra_k8 R), vp_cst (ra_l8 R) H.1, ?_⟩
    replace H := H.2
    refine ⟨(ra_k11 R), vp_cst (ra_l11 R) H.1, ?_⟩
    replace H := H.2
    replace H := H _ rfl
    exact ⟨rfl, H⟩
  · replace H := H.2 c
    refine And.intro R.1 ?_
    refine Or.inl ⟨_, (ra_r9 R), ?_⟩
    refine And.intro R.1 ?_
    refine Or.inl ⟨_, (ra_r8 R), ?_⟩
    refine Or.inl ⟨(ra_k8 R), vp_cst (ra_l8 R) H.1, ?_⟩
    replace H := H.2
    refine And.intro R.1 ?_
    refine Or.inl ⟨_, (ra_r1 R), ?_⟩
    refine Or.inl ⟨(ra_k1 R), vp_cst (ra_l1 R) H.1, ?_⟩
    replace H := H.2
    refine And.intro (Nat.le_of_ble_eq_true rfl) ?_
    refine And.intro (Nat.le_of_ble_eq_true rfl) (And.intro R.1 ?_)
    refine Cl.mono H (fun r M5 h => ?_)
    obtain ⟨v6, rfl, H⟩ := h
    obtain ⟨R, H⟩ := H
    refine ⟨(ra_k9 R), vp_cst (ra_l9 R) H.1, ?_⟩
    replace H := H.2
    replace H := H _ rfl
    refine And.intro R.1 ?_
    refine Or.inl ⟨_, (ra_r11 R), ?_⟩
    refine And.intro R.1 ?_
    refine Or.inl ⟨_, (ra_r9 R), ?_⟩
    refine Or.inl ⟨(ra_k9 R), vp_cst (ra_l9 R) H.1, ?_⟩
    replace H := H.2
    refine And.intro R.1 ?_
    refine Or.inl ⟨_, (ra_r8 R), ?_⟩
    refine Or.inl ⟨(ra_k8 R), vp_cst (ra_l8 R) H.1, ?_⟩
    replace H := H.2
    refine ⟨(ra_k11 R), vp_cst (ra_l11 R) H.1, ?_⟩
    replace H := H.2
    replace H := H _ rfl
    exact ⟨rfl, H⟩

theorem r_readsMark {G : GT} {d m : Nat} {M : Mem} (R : RefAt M m) {a1 : Int32} {a2 : Int32} {Q : Mem → Prop} (H : vp_in a1 64 ∧ (∀ M1, M1 = seti M (m + 7) (a1).toNatClampNeg a2 → vp_in a1 64 ∧ (∀ M2, M2 = seti M1 (m + 9) (a1).toNatClampNeg (-1 : Int32) → vp_in a1 64 ∧ (∀ M3, M3 = seti M2 (m + 10) (a1).toNatClampNeg (-1 : Int32) → vp_in (0 : Int32) 3 ∧ ((¬ a2 = 0 → ((6 : Int32) ≤ a2 → (¬ a2 = (6 : Int32) → vp_in a1 64 ∧ (∀ M4, M4 = seti M3 (m + 7) (a1).toNatClampNeg (1 : Int32) → CV G d 175 [.ref m] M4 (fun M5 => RefAt M5 m ∧ (CI G d 191 [.ref m, .int (0 : Int32), .int (vi M3 (m + 1) ((0 : Int32)).toNatClampNeg)] M5 (fun v7 M6 => RefAt M6 m ∧ (vp_in a1 64 ∧ (∀ M8, M8 = seti M6 (m + 8) (a1).toNatClampNeg v7 → (¬ (vi M8 m 15) = 0 → At G (d + 1) 194 264 [(0, .ref m), (1, .int a1)] [] M8 (qV Q)) ∧ ((vi M8 m 15) = 0 → vp_in a1 64 ∧ (((vi M8 (m + 8) (a1).toNatClampNeg) = (vi M3 (m + 1) ((0 : Int32)).toNatClampNeg) → At G (d + 1) 194 257 [(0, .ref m), (1, .int a1), (4, .int (vi M5 m 14))] [] M8 (qV Q)) ∧ (¬ (vi M8 (m + 8) (a1).toNatClampNeg) = (vi M3 (m + 1) ((0 : Int32)).toNatClampNeg) → vp_in a1 64 ∧ (vp_in (vi M8 (m + 8) (a1).toNatClampNeg) 200 ∧ (((vi M8 (m + 2) ((vi M8 (m + 8) (a1).toNatClampNeg)).toNatClampNeg) = (32 : Int32) → At G (d + 1) 194 264 [(0, .ref m), (1, .int a1)] [] M8 (qV Q)) ∧ (¬ (vi M8 (m + 2) ((vi M8 (m + 8) (a1).toNatClampNeg)).toNatClampNeg) = (32 : Int32) → At G (d + 1) 194 257 [(0, .ref m), (1, .int a1), (4, .int (vi M5 m 14))] [] M8 (qV Q)))))))))))))) ∧ (a2 = (6 : Int32) → vp_in a1 64 ∧ (∀ M9, M9 = seti M3 (m + 7) (a1).toNatClampNeg (4 : Int32) → CV G d 193 [.ref m, .int a1] M9 (fun M10 => RefAt M10 m ∧ ((¬ (vi M10 m 15) = 0 → At G (d + 1) 194 285 [] [] M10 (qV Q)) ∧ ((vi M10 m 15) = 0 → vp_in a1 64 ∧ (CI G d 191 [.ref m, .int ((vi M10 (m + 9) (a1).toNatClampNeg) + (1 : Int32)), .int (vi M3 (m + 1) ((0 : Int32)).toNatClampNeg)] M10 (fun v12 M11 => RefAt M11 m ∧ (vp_in a1 64 ∧ (∀ M13, M13 = seti M11 (m + 10) (a1).toNatClampNeg v12 → At G (d + 1) 194 285 [] [] M13 (qV Q))))))))))) ∧ (¬ (6 : Int32) ≤ a2 → CV G d 193 [.ref m, .int a1] M3 (fun M14 => RefAt M14 m ∧ ((¬ a2 = (4 : Int32) → At G (d + 1) 194 285 [] [] M14 (qV Q)) ∧ (a2 = (4 : Int32) → (¬ (vi M14 m 15) = 0 → At G (d + 1) 194 285 [] [] M14 (qV Q)) ∧ ((vi M14 m 15) = 0 → CV G d 175 [.ref m] M14 (fun M15 => RefAt M15 m ∧ (CI G d 191 [.ref m, .int (0 : Int32), .int (vi M3 (m + 1) ((0 : Int32)).toNatClampNeg)] M15 (fun v17 M16 => RefAt M16 m ∧ (vp_in a1 64 ∧ (∀ M18, M18 = seti M16 (m + 10) (a1).toNatClampNeg v17 → (¬ (vi M18 m 15) = 0 → At G (d + 1) 194 145 [] [] M18 (qV Q)) ∧ ((vi M18 m 15) = 0 → vp_in a1 64 ∧ (vp_in a1 64 ∧ (vp_in a1 64 ∧ (CI G d 155 [.long (((vi M18 (m + 10) (a1).toNatClampNeg)).toInt64), .long (((vi M18 (m + 8) (a1).toNatClampNeg)).toInt64), .long (((vi M18 (m + 9) (a1).toNatClampNeg)).toInt64)] M18 (fun v20 M19 => RefAt M19 m ∧ ((v20 = 0 → At G (d + 1) 194 145 [] [] M19 (qV Q)) ∧ (¬ v20 = 0 → CV G d 173 [.ref m, .int (1 : Int32), .int (vi M15 m 14)] M19 (fun M21 => RefAt M21 m ∧ (At G (d + 1) 194 145 [] [] M21 (qV Q))))))))))))))))))))) ∧ (a2 = 0 → CI G d 191 [.ref m, .int (0 : Int32), .int (vi M3 (m + 1) ((0 : Int32)).toNatClampNeg)] M3 (fun v23 M22 => RefAt M22 m ∧ (vp_in a1 64 ∧ (∀ M24, M24 = seti M22 (m + 8) (a1).toNatClampNeg v23 → (¬ (vi M24 m 15) = 0 → At G (d + 1) 194 285 [] [] M24 (qV Q)) ∧ ((vi M24 m 15) = 0 → CV G d 192 [.ref m, .int a1] M24 (fun M25 => RefAt M25 m ∧ (At G (d + 1) 194 285 [] [] M25 (qV Q))))))))))))) : CV G (d + 1) 194 [.ref m, .int a1, .int a2] M Q := by
  refine Cl.ofM (Nat.le_of_ble_eq_true rfl) rfl ?_
  refine vcc ok194 0 [145, 257, 264, 285] ?_
  refine And.intro R.1 ?_
  refine Or.inl ⟨_, (ra_r7 R), ?_⟩
  refine ⟨(ra_k7 R), vp_cst (ra_l7 R) H.1, ?_⟩
  replace H := H.2
  replace H := H _ rfl
  refine And.intro R.1 ?_
  refine Or.inl ⟨_, (ra_r9 R), ?_⟩
  refine ⟨(ra_k9 R), vp_cst (ra_l9 R) H.1, ?_⟩
  replace H := H.2
  replace H := H _ rfl
  refine And.intro R.1 ?_
  refine Or.inl ⟨_, (ra_r10 R), ?_⟩
  refine ⟨(ra_k10 R), vp_cst (ra_l10 R) H.1, ?_⟩
  replace H := H.2
  replace H := H _ rfl
  refine And.intro R.1 ?_
  refine Or.inl ⟨_, (ra_r1 R), ?_⟩
  refine Or.inl ⟨(ra_k1 R), vp_cst (ra_l1 R) H.1, ?_⟩
  replace H := H.2
  refine And.intro (fun c => ?_) (fun c => ?_)
  · replace H := H.1 c
    refine And.intro (fun c => ?_) (fun c => ?_)
    · replace H := H.1 c
      refine And.intro (fun c => ?_) (fun c => ?_)
      · replace H := H.1 c
        refine And.intro R.1 ?_
        refine Or.inl ⟨_, (ra_r7 R), ?_⟩
        refine ⟨(ra_k7 R), vp_cst (ra_l7 R) H.1, ?_⟩
        replace H := H.2
        replace H := H _ rfl
        refine And.intro (Nat.le_of_ble_eq_true rfl) ?_
        refine And.intro (Nat.le_of_ble_eq_true rfl) (And.intro R.1 ?_)
        refine Cl.mono H (fun r M5 h => ?_)
        obtain ⟨rfl, H⟩ := h
        obtain ⟨R, H⟩ := H
        refine And.intro R.1 ?_
        refine And.intro R.1 ?_
        refine Or.inl ⟨_, (ra_r8 R), ?_⟩
        refine And.intro (Nat.le_of_ble_eq_true rfl) ?_
        refine And.intro (Nat.le_of_ble_eq_true rfl) (And.intro R.1 ?_)
        refine Cl.mono H (fun r M6 h => ?_)
        obtain ⟨v7, rfl, H⟩ := h
        obtain ⟨R, H⟩ := H
        refine ⟨(ra_k8 R), vp_cst (ra_l8 R) H.1, ?_⟩
        replace H := H.2
        replace H := H _ rfl
        refine And.intro R.1 ?_
        refine And.intro (fun c => ?_) (fun c => ?_)
        · replace H := H.1 c
          exact At.keep [0, 1] H
        · replace H := H.2 c
          refine And.intro R.1 ?_
          refine Or.inl ⟨_, (ra_r8 R), ?_⟩
          refine Or.inl ⟨(ra_k8 R), vp_cst (ra_l8 R) H.1, ?_⟩
          replace H := H.2
          refine And.intro (fun c => ?_) (fun c => ?_)
          · replace H := H.1 c
            exact At.keep [0, 1, 4] H
          · replace H := H.2 c
            refine And.intro R.1 ?_
            refine Or.inl ⟨_, (ra_r2 R), ?_⟩
            refine And.intro R.1 ?_
            refine Or.inl ⟨_, (ra_r8 R), ?_⟩
            refine Or.inl ⟨(ra_k8 R), vp_cst (ra_l8 R) H.1, ?_⟩
            replace H := H.2
            refine Or.inl ⟨(ra_k2 R), vp_cst (ra_l2 R) H.1, ?_⟩
            replace H := H.2
            refine And.intro (fun c => ?_) (fun c => ?_)
            · replace H := H.1 c
              exact At.keep [0, 1] H
            · replace H := H.2 c
              exact At.keep [0, 1, 4] H
      · replace H := H.2 c
        refine And.intro R.1 ?_
        refine Or.inl ⟨_, (ra_r7 R), ?_⟩
        refine ⟨(ra_k7 R), vp_cst (ra_l7 R) H.1, ?_⟩
        replace H := H.2
        replace H := H _ rfl
        refine And.intro (Nat.le_of_ble_eq_true rfl) ?_
        refine And.intro (Nat.le_of_ble_eq_true rfl) (And.intro R.1 ?_)
        refine Cl.mono H (fun r M10 h => ?_)
        obtain ⟨rfl, H⟩ := h
        obtain ⟨R, H⟩ := H
        refine And.intro R.1 ?_
        refine And.intro (fun c => ?_) (fun c => ?_)
        · replace H := H.1 c
          exact At.keep [] H
        · replace H := H.2 c
          refine And.intro R.1 ?_
          refine Or.inl ⟨_, (ra_r10 R), ?_⟩
          refine And.intro R.1 ?_
          refine Or.inl ⟨_, (ra_r9 R), ?_⟩
          refine Or.inl ⟨(ra_k9 R), vp_cst (ra_l9 R) H.1, ?_⟩
          replace H := H.2
          refine And.intro (Nat.le_of_ble_eq_true rfl) ?_
          refine And.intro (Nat.le_of_ble_eq_true rfl) (And.intro R.1 ?_)
          refine Cl.mono H (fun r M11 h => ?_)
          obtain ⟨v12, rfl, H⟩ := h
          obtain ⟨R, H⟩ := H
          refine ⟨(ra_k10 R), vp_cst (ra_l10 R) H.1, ?_⟩
          replace H := H.2
          replace H := H _ rfl
          exact At.keep [] H
    · replace H := H.2 c
      refine And.intro (Nat.le_of_ble_eq_true rfl) ?_
      refine And.intro (Nat.le_of_ble_eq_true rfl) (And.intro R.1 ?_)
      refine Cl.mono H (fun r M14 h => ?_)
      obtain ⟨rfl, H⟩ := h
      obtain ⟨R, H⟩ := H
      refine And.intro (fun c => ?_) (fun c => ?_)
      · replace H := H.1 c
        exact At.keep [] H
      · replace H := H.2 c
        refine And.intro R.1 ?_
        refine And.intro (fun c => ?_) (fun c => ?_)
        · replace H := H.1 c
          exact At.keep [] H
        · replace H := H.2 c
          refine And.intro (Nat.le_of_ble_eq_true rfl) ?_
          refine And.intro (Nat.le_of_ble_eq_true rfl) (And.intro R.1 ?_)
          refine Cl.mono H (fun r M15 h => ?_)
          obtain ⟨rfl, H⟩ := h
          obtain ⟨R, H⟩ := H
          refine And.intro R.1 ?_
          refine And.intro R.1 ?_
          refine Or.inl ⟨_, (ra_r10 R), ?_⟩
          refine And.intro (Nat.le_of_ble_eq_true rfl) ?_
          refine And.intro (Nat.le_of_ble_eq_true rfl) (And.intro R.1 ?_)
          refine Cl.mono H (fun r M16 h => ?_)
          obtain ⟨v17, rfl, H⟩ := h
          obtain ⟨R, H⟩ := H
          refine ⟨(ra_k10 R), vp_cst (ra_l10 R) H.1, ?_⟩
          replace H := H.2
          replace H := H _ rfl
          refine And.intro R.1 ?_
          refine And.intro (fun c => ?_) (fun c => ?_)
          · replace H := H.1 c
            exact At.keep [] H
          · replace H := H.2 c
            refine And.intro R.1 ?_
            refine Or.inl ⟨_, (ra_r10 R), ?_⟩
            refine Or.inl ⟨(ra_k10 R), vp_cst (ra_l10 R) H.1, ?_⟩
            replace H := H.2
            refine And.intro R.1 ?_
            refine Or.inl ⟨_, (ra_r8 R), ?_⟩
            refine Or.inl ⟨(ra_k8 R), vp_cst (ra_l8 R) H.1, ?_⟩
            replace H := H.2
            refine And.intro R.1 ?_
            refine Or.inl ⟨_, (ra_r9 R), ?_⟩
            refine Or.inl ⟨(ra_k9 R), vp_cst (ra_l9 R) H.1, ?_⟩
            replace H := H.2
            refine And.intro (Nat.le_of_ble_eq_true rfl) ?_
            refine And.intro (Nat.le_of_ble_eq_true rfl) ?_
            refine Cl.mono H (fun r M19 h => ?_)
            obtain ⟨v20, rfl, H⟩ := h
            obtain ⟨R, H⟩ := H
            refine And.intro (fun c => ?_) (fun c => ?_)
            · replace H := H.1 c
              exact At.keep [] H
            · replace H := H.2 c
              refine And.intro (Nat.le_of_ble_eq_true rfl) ?_
              refine And.intro (Nat.le_of_ble_eq_true rfl) (And.intro R.1 ?_)
              refine Cl.mono H (fun r M21 h => ?_)
              obtain ⟨rfl, H⟩ := h
              obtain ⟨R, H⟩ := H
              exact At.keep [] H
  · replace H := H.2 c
    refine And.intro R.1 ?_
    refine Or.inl ⟨_, (ra_r8 R), ?_⟩
    refine And.intro (Nat.le_of_ble_eq_true rfl) ?_
    refine And.intro (Nat.le_of_ble_eq_true rfl) (And.intro R.1 ?_)
    refine Cl.mono H (fun r M22 h => ?_)
    obtain ⟨v23, rfl, H⟩ := h
    obtain ⟨R, H⟩ := H
    refine ⟨(ra_k8 R), vp_cst (ra_l8 R) H.1, ?_⟩
    replace H := H.2
    replace H := H _ rfl
    refine And.intro R.1 ?_
    refine And.intro (fun c => ?_) (fun c => ?_)
    · replace H := H.1 c
      exact At.keep [] H
    · replace H := H.2 c
      refine And.intro (Nat.le_of_ble_eq_true rfl) ?_
      refine And.intro (Nat.le_of_ble_eq_true rfl) (And.intro R.1 ?_)
      refine Cl.mono H (fun r M25 h => ?_)
      obtain ⟨rfl, H⟩ := h
      obtain ⟨R, H⟩ := H
      exact At.keep [] H

theorem r_readsMark_145 {G : GT} {d m : Nat} {M : Mem} (R : RefAt M m)  {Q : Mem → Prop} (H : At G (d + 1) 194 285 [] [] M (qV Q)) : At G (d + 1) 194 145 [] [] M (qV Q) := by
  refine vcc ok194 86 [257, 264, 285] ?_
  exact H

theorem r_readsMark_257 {G : GT} {d m : Nat} {M : Mem} (R : RefAt M m) {l1 : Int32} {l4 : Int32} {Q : Mem → Prop} (H : CV G d 173 [.ref m, .int (1 : Int32), .int l4] M (fun M26 => RefAt M26 m ∧ (At G (d + 1) 194 264 [(0, .ref m), (1, .int l1)] [] M26 (qV Q)))) : At G (d + 1) 194 257 [(0, .ref m), (1, .int l1), (4, .int l4)] [] M (qV Q) := by
  refine vcc ok194 151 [145, 264, 285] ?_
  refine And.intro (Nat.le_of_ble_eq_true rfl) ?_
  refine And.intro (Nat.le_of_ble_eq_true rfl) (And.intro R.1 ?_)
  refine Cl.mono H (fun r M26 h => ?_)
  obtain ⟨rfl, H⟩ := h
  obtain ⟨R, H⟩ := H
  exact At.keep [0, 1] H

theorem r_readsMark_264 {G : GT} {d m : Nat} {M : Mem} (R : RefAt M m) {l1 : Int32} {Q : Mem → Prop} (H : vp_in l1 64 ∧ (vp_in l1 64 ∧ (∀ M27, M27 = seti M (m + 9) (l1).toNatClampNeg ((vi M (m + 8) (l1).toNatClampNeg) + (1 : Int32)) → vp_in l1 64 ∧ (∀ M28, M28 = seti M27 (m + 11) (l1).toNatClampNeg (1 : Int32) → At G (d + 1) 194 285 [] [] M28 (qV Q))))) : At G (d + 1) 194 264 [(0, .ref m), (1, .int l1)] [] M (qV Q) := by
  refine vcc ok194 155 [145, 257, 285] ?_
  refine And.intro R.1 ?_
  refine Or.inl ⟨_, (ra_r9 R), ?_⟩
  refine And.intro R.1 ?_
  refine Or.inl ⟨_, (ra_r8 R), ?_⟩
  refine Or.inl ⟨(ra_k8 R), vp_cst (ra_l8 R) H.1, ?_⟩
  replace H := H.2
  refine ⟨(ra_k9 R), vp_cst (ra_l9 R) H.1, ?_⟩
  replace H := H.2
  replace H := H _ rfl
  refine And.intro R.1 ?_
  refine Or.inl ⟨_, (ra_r11 R), ?_⟩
  refine ⟨(ra_k11 R), vp_cst (ra_l11 R) H.1, ?_⟩
  replace H := H.2
  replace H := H _ rfl
  exact At.keep [] H

theorem r_readsMark_285 {G : GT} {d m : Nat} {M : Mem} (R : RefAt M m)  {Q : Mem → Prop} (H : Q M) : At G (d + 1) 194 285 [] [] M (qV Q) := by
  refine vcc ok194 170 [145, 257, 264] ?_
  exact ⟨rfl, H⟩

theorem r_markClause {G : GT} {d m : Nat} {M : Mem} (R : RefAt M m) {a1 : Int32} {a2 : Int32} {Q : Mem → Prop} (H : CV G d 175 [.ref m] M (fun M1 => RefAt M1 m ∧ (At G (d + 1) 195 12 [(0, .ref m), (1, .int a1), (2, .int a2), (3, .int (vi M1 m 14)), (4, .int (0 : Int32))] [] M1 (qV Q)))) : CV G (d + 1) 195 [.ref m, .int a1, .int a2] M Q := by
  refine Cl.ofM (Nat.le_of_ble_eq_true rfl) rfl ?_
  refine vcc ok195 0 [12, 37, 97] ?_
  refine And.intro (Nat.le_of_ble_eq_true rfl) ?_
  refine And.intro (Nat.le_of_ble_eq_true rfl) (And.intro R.1 ?_)
  refine Cl.mono H (fun r M1 h => ?_)
  obtain ⟨rfl, H⟩ := h
  obtain ⟨R, H⟩ := H
  refine And.intro R.1 ?_
  exact H

theorem r_markClause_12 {G : GT} {d m : Nat} {M : Mem} (R : RefAt M m) {l1 : Int32} {l2 : Int32} {l3 : Int32} {l4 : Int32} {Q : Mem → Prop} (H : ((8 : Int32) ≤ l4 → At G (d + 1) 195 37 [(0, .ref m), (1, .int l1), (2, .int l2), (3, .int l3), (4, .int l4)] [] M (qV Q)) ∧ (¬ (8 : Int32) ≤ l4 → CR G d 172 [.int l4] M (fun o8 M2 => RefAt M2 m ∧ ((∀ r3, o8 = some r3 → CI G d 177 [.ref m, .ref r3] M2 (fun v5 M4 => RefAt M4 m ∧ ((¬ v5 = 0 → At G (d + 1) 195 37 [(0, .ref m), (1, .int l1), (2, .int l2), (3, .int l3), (4, .int l4)] [] M4 (qV Q)) ∧ (v5 = 0 → At G (d + 1) 195 12 [(0, .ref m), (1, .int l1), (2, .int l2), (3, .int l3), (4, .int (l4 + (1 : Int32)))] [] M4 (qV Q))))) ∧ (o8 = none → CI G d 177 [.ref m, .null] M2 (fun v7 M6 => RefAt M6 m ∧ ((¬ v7 = 0 → At G (d + 1) 195 37 [(0, .ref m), (1, .int l1), (2, .int l2), (3, .int l3), (4, .int l4)] [] M6 (qV Q)) ∧ (v7 = 0 → At G (d + 1) 195 12 [(0, .ref m), (1, .int l1), (2, .int l2), (3, .int l3), (4, .int (l4 + (1 : Int32)))] [] M6 (qV Q))))))))) : At G (d + 1) 195 12 [(0, .ref m), (1, .int l1), (2, .int l2), (3, .int l3), (4, .int l4)] [] M (qV Q) := by
  refine vcc ok195 7 [37, 97] ?_
  refine And.intro (fun c => ?_) (fun c => ?_)
  · replace H := H.1 c
    exact H
  · replace H := H.2 c
    refine And.intro (Nat.le_of_ble_eq_true rfl) ?_
    refine And.intro (Nat.le_of_ble_eq_true rfl) ?_
    refine Cl.mono H (fun r M2 h => ?_)
    obtain ⟨o8, rfl, H⟩ := h
    obtain ⟨R, H⟩ := H
    rcases o8 with _ | r3
    · replace H := H.2 rfl
      refine And.intro (Nat.le_of_ble_eq_true rfl) ?_
      refine And.intro (Nat.le_of_ble_eq_true rfl) (And.intro R.1 ?_)
      refine Cl.mono H (fun r M6 h => ?_)
      obtain ⟨v7, rfl, H⟩ := h
      obtain ⟨R, H⟩ := H
      refine And.intro (fun c => ?_) (fun c => ?_)
      · replace H := H.1 c
        exact H
      · replace H := H.2 c
        exact H
    · replace H := H.1 _ rfl
      refine And.intro (Nat.le_of_ble_eq_true rfl) ?_
      refine And.intro (Nat.le_of_ble_eq_true rfl) (And.intro R.1 ?_)
      refine Cl.mono H (fun r M4 h => ?_)
      obtain ⟨v5, rfl, H⟩ := h
      obtain ⟨R, H⟩ := H
      refine And.intro (fun c => ?_) (fun c => ?_)
      · replace H := H.1 c
        exact H
      · replace H := H.2 c
        exact H

theorem r_markClause_37 {G : GT} {d m : Nat} {M : Mem} (R : RefAt M m) {l1 : Int32} {l2 : Int32} {l3 : Int32} {l4 : Int32} {Q : Mem → Prop} (H : (¬ l4 = (8 : Int32) → (¬ l2 = (16 : Int32) → CR G d 172 [.int l4] M (fun o15 M9 => RefAt M9 m ∧ ((∀ r10, o15 = some r10 → (∃ i, i < 27 ∧ r10 = gk G i) ∧ CI G d 275 [.ref r10] M9 (fun v12 M11 => RefAt M11 m ∧ (∀ M13, M13 = seti M11 m 14 ((vi M m 14) + v12) → CV G d 194 [.ref m, .int (((16 : Int32) * l1) + l2), .int l4] M13 (fun M14 => RefAt M14 m ∧ (At G (d + 1) 195 97 [] [] M14 (qV Q)))))) ∧ (o15 = none → False)))) ∧ (l2 = (16 : Int32) → CV G d 173 [.ref m, .int (4 : Int32), .int l3] M (fun M16 => RefAt M16 m ∧ (At G (d + 1) 195 97 [] [] M16 (qV Q))))) ∧ (l4 = (8 : Int32) → CV G d 173 [.ref m, .int (0 : Int32), .int l3] M (fun M17 => RefAt M17 m ∧ (At G (d + 1) 195 97 [] [] M17 (qV Q))))) : At G (d + 1) 195 37 [(0, .ref m), (1, .int l1), (2, .int l2), (3, .int l3), (4, .int l4)] [] M (qV Q) := by
  refine vcc ok195 17 [12, 97] ?_
  refine And.intro (fun c => ?_) (fun c => ?_)
  · replace H := H.1 c
    refine And.intro (fun c => ?_) (fun c => ?_)
    · replace H := H.1 c
      refine And.intro R.1 ?_
      refine And.intro (Nat.le_of_ble_eq_true rfl) ?_
      refine And.intro (Nat.le_of_ble_eq_true rfl) ?_
      refine Cl.mono H (fun r M9 h => ?_)
      obtain ⟨o15, rfl, H⟩ := h
      obtain ⟨R, H⟩ := H
      rcases o15 with _ | r10
      · replace H := H.2 rfl
        exact H.elim
      · replace H := H.1 _ rfl
        refine And.intro (Nat.le_of_ble_eq_true rfl) ?_
        obtain ⟨⟨i, hi, ei⟩, H⟩ := H
        refine And.intro (Nat.le_of_ble_eq_true rfl) ⟨i, hi, ei, ?_⟩
        refine Cl.mono H (fun r M11 h => ?_)
        obtain ⟨v12, rfl, H⟩ := h
        obtain ⟨R, H⟩ := H
        refine And.intro R.1 ?_
        refine And.intro (Or.inl rfl) (And.intro (fun h => absurd h (by decide)) ?_)
        replace H := H _ rfl
        refine And.intro (Nat.le_of_ble_eq_true rfl) ?_
        refine And.intro (Nat.le_of_ble_eq_true rfl) (And.intro R.1 ?_)
        refine Cl.mono H (fun r M14 h => ?_)
        obtain ⟨rfl, H⟩ := h
        obtain ⟨R, H⟩ := H
        exact At.keep [] H
    · replace H := H.2 c
      refine And.intro (Nat.le_of_ble_eq_true rfl) ?_
      refine And.intro (Nat.le_of_ble_eq_true rfl) (And.intro R.1 ?_)
      refine Cl.mono H (fun r M16 h => ?_)
      obtain ⟨rfl, H⟩ := h
      obtain ⟨R, H⟩ := H
      exact At.keep [] H
  · replace H := H.2 c
    refine And.intro (Nat.le_of_ble_eq_true rfl) ?_
    refine And.intro (Nat.le_of_ble_eq_true rfl) (And.intro R.1 ?_)
    refine Cl.mono H (fun r M17 h => ?_)
    obtain ⟨rfl, H⟩ := h
    obtain ⟨R, H⟩ := H
    exact At.keep [] H

theorem r_markClause_97 {G : GT} {d m : Nat} {M : Mem} (R : RefAt M m)  {Q : Mem → Prop} (H : Q M) : At G (d + 1) 195 97 [] [] M (qV Q) := by
  refine vcc ok195 49 [12, 37] ?_
  exact ⟨rfl, H⟩

theorem r_marks {G : GT} {d m : Nat} {M : Mem} (R : RefAt M m) {a1 : Int32} {Q : Int32 → Mem → Prop} (H : CI G d 159 [.ref m, .int a1] M (fun v2 M1 => RefAt M1 m ∧ ((¬ v2 = 0 → ∀ M3, M3 = seti M1 m 14 (0 : Int32) → ∀ M4, M4 = seti M3 m 15 (0 : Int32) → vp_in a1 4 ∧ (At G (d + 1) 196 29 [(0, .ref m), (1, .int a1), (2, .int (vi M4 (m + 5) (a1).toNatClampNeg)), (3, .int (1 : Int32))] [] M4 (qI Q))) ∧ (v2 = 0 → Q (-1 : Int32) M1)))) : CI G (d + 1) 196 [.ref m, .int a1] M Q := by
  refine Cl.ofM (Nat.le_of_ble_eq_true rfl) rfl ?_
  refine vcc ok196 0 [29, 53, 94, 116, 117, 158, 177] ?_
  refine And.intro (Nat.le_of_ble_eq_true rfl) ?_
  refine And.intro (Nat.le_of_ble_eq_true rfl) (And.intro R.1 ?_)
  refine Cl.mono H (fun r M1 h => ?_)
  obtain ⟨v2, rfl, H⟩ := h
  obtain ⟨R, H⟩ := H
  refine And.intro (fun c => ?_) (fun c => ?_)
  · replace H := H.1 c
    refine And.intro R.1 ?_
    refine And.intro (Or.inl rfl) (And.intro (fun h => absurd h (by decide)) ?_)
    replace H := H _ rfl
    refine And.intro R.1 ?_
    refine And.intro (Or.inl rfl) (And.intro (fun h => absurd h (by decide)) ?_)
    replace H := H _ rfl
    refine And.intro R.1 ?_
    refine Or.inl ⟨_, (ra_r5 R), ?_⟩
    refine Or.inl ⟨(ra_k5 R), vp_cst (ra_l5 R) H.1, ?_⟩
    replace H := H.2
    exact H
  · replace H := H.2 c
    exact ⟨fun h => absurd h (by decide), _, rfl, H⟩

theorem r_marks_29 {G : GT} {d m : Nat} {M : Mem} (R : RefAt M m) {l1 : Int32} {l2 : Int32} {l3 : Int32} {Q : Int32 → Mem → Prop} (H : (l3 = 0 → ∀ M5, M5 = seti M m 13 (0 : Int32) → (¬ (vi M5 m 15) = 0 → vp_in l1 4 ∧ (At G (d + 1) 196 158 [(0, .ref m), (2, .int l2)] [.int (vi M5 (m + 5) (l1).toNatClampNeg), .int l1, .ref (m + 5)] M5 (qI Q))) ∧ ((vi M5 m 15) = 0 → At G (d + 1) 196 158 [(0, .ref m), (2, .int l2)] [.int l2, .int l1, .ref (m + 5)] M5 (qI Q))) ∧ (¬ l3 = 0 → CV G d 195 [.ref m, .int l1, .int l2] M (fun M6 => RefAt M6 m ∧ ((¬ (vi M6 m 15) = 0 → At G (d + 1) 196 53 [(0, .ref m), (1, .int l1), (2, .int (l2 + (1 : Int32)))] [] M6 (qI Q)) ∧ ((vi M6 m 15) = 0 → CV G d 175 [.ref m] M6 (fun M7 => RefAt M7 m ∧ (At G (d + 1) 196 53 [(0, .ref m), (1, .int l1), (2, .int (l2 + (1 : Int32)))] [] M7 (qI Q)))))))) : At G (d + 1) 196 29 [(0, .ref m), (1, .int l1), (2, .int l2), (3, .int l3)] [] M (qI Q) := by
  refine vcc ok196 19 [53, 94, 116, 117, 158, 177] ?_
  refine And.intro (fun c => ?_) (fun c => ?_)
  · replace H := H.1 c
    refine And.intro R.1 ?_
    refine And.intro (Or.inl rfl) (And.intro (fun h => absurd h (by decide)) ?_)
    replace H := H _ rfl
    refine And.intro R.1 ?_
    refine Or.inl ⟨_, (ra_r5 R), ?_⟩
    refine And.intro R.1 ?_
    refine And.intro (fun c => ?_) (fun c => ?_)
    · replace H := H.1 c
      refine And.intro R.1 ?_
      refine Or.inl ⟨_, (ra_r5 R), ?_⟩
      refine Or.inl ⟨(ra_k5 R), vp_cst (ra_l5 R) H.1, ?_⟩
      replace H := H.2
      exact At.keep [0, 2] H
    · replace H := H.2 c
      exact At.keep [0, 2] H
  · replace H := H.2 c
    refine And.intro (Nat.le_of_ble_eq_true rfl) ?_
    refine And.intro (Nat.le_of_ble_eq_true rfl) (And.intro R.1 ?_)
    refine Cl.mono H (fun r M6 h => ?_)
    obtain ⟨rfl, H⟩ := h
    obtain ⟨R, H⟩ := H
    refine And.intro R.1 ?_
    refine And.intro (fun c => ?_) (fun c => ?_)
    · replace H := H.1 c
      exact At.keep [0, 1, 2] H
    · replace H := H.2 c
      refine And.intro (Nat.le_of_ble_eq_true rfl) ?_
      refine And.intro (Nat.le_of_ble_eq_true rfl) (And.intro R.1 ?_)
      refine Cl.mono H (fun r M7 h => ?_)
      obtain ⟨rfl, H⟩ := h
      obtain ⟨R, H⟩ := H
      exact At.keep [0, 1, 2] H

theorem r_marks_53 {G : GT} {d m : Nat} {M : Mem} (R : RefAt M m) {l1 : Int32} {l2 : Int32} {Q : Int32 → Mem → Prop} (H : (¬ (vi M m 15) = 0 → At G (d + 1) 196 94 [(0, .ref m), (1, .int l1), (2, .int l2)] [] M (qI Q)) ∧ ((vi M m 15) = 0 → ((vi M m 13) ≤ (vi M m 14) → At G (d + 1) 196 94 [(0, .ref m), (1, .int l1), (2, .int l2)] [] M (qI Q)) ∧ (¬ (vi M m 13) ≤ (vi M m 14) → vp_in (vi M m 14) 400 ∧ (((vi M (m + 13) ((vi M m 14)).toNatClampNeg) = (59 : Int32) → At G (d + 1) 196 94 [(0, .ref m), (1, .int l1), (2, .int l2)] [] M (qI Q)) ∧ (¬ (vi M (m + 13) ((vi M m 14)).toNatClampNeg) = (59 : Int32) → CV G d 173 [.ref m, .int (0 : Int32), .int (vi M m 14)] M (fun M8 => RefAt M8 m ∧ (At G (d + 1) 196 94 [(0, .ref m), (1, .int l1), (2, .int l2)] [] M8 (qI Q)))))))) : At G (d + 1) 196 53 [(0, .ref m), (1, .int l1), (2, .int l2)] [] M (qI Q) := by
  refine vcc ok196 31 [29, 94, 116, 117, 158, 177] ?_
  refine And.intro R.1 ?_
  refine And.intro (fun c => ?_) (fun c => ?_)
  · replace H := H.1 c
    exact H
  · replace H := H.2 c
    refine And.intro R.1 ?_
    refine And.intro R.1 ?_
    refine And.intro (fun c => ?_) (fun c => ?_)
    · replace H := H.1 c
      exact H
    · replace H := H.2 c
      refine And.intro R.1 ?_
      refine Or.inl ⟨_, (ra_r23 R), ?_⟩
      refine And.intro R.1 ?_
      refine ⟨(Or.inl (ra_k23 R)), vp_cst (ra_l23 R) H.1, ?_⟩
      replace H := H.2
      refine And.intro (fun c => ?_) (fun c => ?_)
      · replace H := H.1 c
        exact H
      · replace H := H.2 c
        refine And.intro R.1 ?_
        refine And.intro (Nat.le_of_ble_eq_true rfl) ?_
        refine And.intro (Nat.le_of_ble_eq_true rfl) (And.intro R.1 ?_)
        refine Cl.mono H (fun r M8 h => ?_)
        obtain ⟨rfl, H⟩ := h
        obtain ⟨R, H⟩ := H
        exact H

theorem r_marks_94 {G : GT} {d m : Nat} {M : Mem} (R : RefAt M m) {l1 : Int32} {l2 : Int32} {Q : Int32 → Mem → Prop} (H : (¬ (vi M m 15) = 0 → At G (d + 1) 196 116 [(0, .ref m), (1, .int l1), (2, .int l2)] [] M (qI Q)) ∧ ((vi M m 15) = 0 → ((vi M m 13) ≤ (vi M m 14) → At G (d + 1) 196 116 [(0, .ref m), (1, .int l1), (2, .int l2)] [] M (qI Q)) ∧ (¬ (vi M m 13) ≤ (vi M m 14) → At G (d + 1) 196 117 [(0, .ref m), (1, .int l1), (2, .int l2)] [.int (1 : Int32)] M (qI Q)))) : At G (d + 1) 196 94 [(0, .ref m), (1, .int l1), (2, .int l2)] [] M (qI Q) := by
  refine vcc ok196 51 [29, 53, 116, 117, 158, 177] ?_
  refine And.intro R.1 ?_
  refine And.intro (fun c => ?_) (fun c => ?_)
  · replace H := H.1 c
    exact H
  · replace H := H.2 c
    refine And.intro R.1 ?_
    refine And.intro R.1 ?_
    refine And.intro (fun c => ?_) (fun c => ?_)
    · replace H := H.1 c
      exact H
    · replace H := H.2 c
      exact H

theorem r_marks_116 {G : GT} {d m : Nat} {M : Mem} (R : RefAt M m) {l1 : Int32} {l2 : Int32} {Q : Int32 → Mem → Prop} (H : At G (d + 1) 196 117 [(0, .ref m), (1, .int l1), (2, .int l2)] [.int (0 : Int32)] M (qI Q)) : At G (d + 1) 196 116 [(0, .ref m), (1, .int l1), (2, .int l2)] [] M (qI Q) := by
  refine vcc ok196 61 [29, 53, 94, 117, 158, 177] ?_
  exact H

theorem r_marks_117 {G : GT} {d m : Nat} {M : Mem} (R : RefAt M m) {l1 : Int32} {l2 : Int32} {t0 : Int32} {Q : Int32 → Mem → Prop} (H : ∀ M9, M9 = seti M m 14 ((vi M m 14) + (1 : Int32)) → At G (d + 1) 196 29 [(0, .ref m), (1, .int l1), (2, .int l2), (3, .int t0)] [] M9 (qI Q)) : At G (d + 1) 196 117 [(0, .ref m), (1, .int l1), (2, .int l2)] [.int t0] M (qI Q) := by
  refine vcc ok196 62 [29, 53, 94, 116, 158, 177] ?_
  refine And.intro R.1 ?_
  refine And.intro R.1 ?_
  refine And.intro (Or.inl rfl) (And.intro (fun h => absurd h (by decide)) ?_)
  replace H := H _ rfl
  exact H

theorem r_marks_158 {G : GT} {d m : Nat} {M : Mem} (R : RefAt M m) {l2 : Int32} {t0 : Int32} {t1 : Int32} {t2 : Nat} {Q : Int32 → Mem → Prop} (H : mK M t2 = 15 ∧ vp_in t1 (mA M t2) ∧ (∀ M10, M10 = seti M t2 (t1).toNatClampNeg t0 → ((vi M10 m 15) ≤ 0 → At G (d + 1) 196 177 [] [.int l2] M10 (qI Q)) ∧ (¬ (vi M10 m 15) ≤ 0 → At G (d + 1) 196 177 [] [.int ((-2 : Int32) - (vi M10 m 15))] M10 (qI Q)))) : At G (d + 1) 196 158 [(0, .ref m), (2, .int l2)] [.int t0, .int t1, .ref t2] M (qI Q) := by
  refine vcc ok196 85 [29, 53, 94, 116, 117, 177] ?_
  refine ⟨H.1, H.2.1, ?_⟩
  replace H := H.2.2
  replace H := H _ rfl
  refine And.intro R.1 ?_
  refine And.intro (fun c => ?_) (fun c => ?_)
  · replace H := H.1 c
    exact At.keep [] H
  · replace H := H.2 c
    refine And.intro R.1 ?_
    exact At.keep [] H

theorem r_marks_177 {G : GT} {d m : Nat} {M : Mem} (R : RefAt M m) {t0 : Int32} {Q : Int32 → Mem → Prop} (H : Q t0 M) : At G (d + 1) 196 177 [] [.int t0] M (qI Q) := by
  refine vcc ok196 95 [29, 53, 94, 116, 117, 158] ?_
  exact ⟨fun h => absurd h (by decide), _, rfl, H⟩

theorem r_clause {G : GT} {d m : Nat} {M : Mem} (R : RefAt M m) {a1 : Int32} {Q : Mem → Prop} (H : CV G d 175 [.ref m] M (fun M1 => RefAt M1 m ∧ (CI G d 177 [.ref m, .ref (gk G 15)] M1 (fun v3 M2 => RefAt M2 m ∧ ((¬ v3 = 0 → (¬ a1 = (12 : Int32) → ∀ M4, M4 = seti M2 m 14 ((vi M2 m 14) + (6 : Int32)) → vp_in (((12 : Int32) * (vi M4 m 16)) + a1) 48 ∧ (∀ M5, M5 = seti M4 (m + 17) ((((12 : Int32) * (vi M4 m 16)) + a1)).toNatClampNeg (vi M4 m 18) → CV G d 184 [.ref m] M5 (fun M6 => RefAt M6 m ∧ (vp_in (((12 : Int32) * (vi M4 m 16)) + a1) 48 ∧ (∀ M7, M7 = seti M6 (m + 18) ((((12 : Int32) * (vi M4 m 16)) + a1)).toNatClampNeg (vi M6 m 18) → (¬ (vi M7 m 15) = 0 → vp_in (((12 : Int32) * (vi M4 m 16)) + a1) 48 ∧ (∀ M8, M8 = seti M7 (m + 19) ((((12 : Int32) * (vi M4 m 16)) + a1)).toNatClampNeg (vi M7 m 18) → Q M8)) ∧ ((vi M7 m 15) = 0 → CI G d 178 [.ref m, .ref (gk G 23)] M7 (fun v10 M9 => RefAt M9 m ∧ ((v10 = 0 → vp_in (((12 : Int32) * (vi M4 m 16)) + a1) 48 ∧ (∀ M11, M11 = seti M9 (m + 19) ((((12 : Int32) * (vi M4 m 16)) + a1)).toNatClampNeg (vi M9 m 18) → Q M11)) ∧ (¬ v10 = 0 → CV G d 190 [.ref m] M9 (fun M12 => RefAt M12 m ∧ (vp_in (((12 : Int32) * (vi M4 m 16)) + a1) 48 ∧ (∀ M13, M13 = seti M12 (m + 19) ((((12 : Int32) * (vi M4 m 16)) + a1)).toNatClampNeg (vi M12 m 18) → Q M13)))))))))))) ∧ (a1 = (12 : Int32) → CV G d 173 [.ref m, .int (4 : Int32), .int (vi M1 m 14)] M2 (fun M14 => RefAt M14 m ∧ (Q M14)))) ∧ (v3 = 0 → CV G d 173 [.ref m, .int (0 : Int32), .int (vi M1 m 14)] M2 (fun M15 => RefAt M15 m ∧ (Q M15)))))))) : CV G (d + 1) 197 [.ref m, .int a1] M Q := by
  refine Cl.ofM (Nat.le_of_ble_eq_true rfl) rfl ?_
  refine vcc ok197 0 [] ?_
  refine And.intro (Nat.le_of_ble_eq_true rfl) ?_
  refine And.intro (Nat.le_of_ble_eq_true rfl) (And.intro R.1 ?_)
  refine Cl.mono H (fun r M1 h => ?_)
  obtain ⟨rfl, H⟩ := h
  obtain ⟨R, H⟩ := H
  refine And.intro R.1 ?_
  refine And.intro (Nat.le_of_ble_eq_true rfl) ?_
  refine And.intro (Nat.le_of_ble_eq_true rfl) (And.intro R.1 ?_)
  refine Cl.mono H (fun r M2 h => ?_)
  obtain ⟨v3, rfl, H⟩ := h
  obtain ⟨R, H⟩ := H
  refine And.intro (fun c => ?_) (fun c => ?_)
  · replace H := H.1 c
    refine And.intro (fun c => ?_) (fun c => ?_)
    · replace H := H.1 c
      refine And.intro R.1 ?_
      refine And.intro R.1 ?_
      refine And.intro (Or.inl rfl) (And.intro (fun h => absurd h (by decide)) ?_)
      replace H := H _ rfl
      refine And.intro R.1 ?_
      refine And.intro R.1 ?_
      refine Or.inl ⟨_, (ra_r27 R), ?_⟩
      refine And.intro R.1 ?_
      refine ⟨(ra_k27 R), vp_cst (ra_l27 R) H.1, ?_⟩
      replace H := H.2
      replace H := H _ rfl
      refine And.intro (Nat.le_of_ble_eq_true rfl) ?_
      refine And.intro (Nat.le_of_ble_eq_true rfl) (And.intro R.1 ?_)
      refine Cl.mono H (fun r M6 h => ?_)
      obtain ⟨rfl, H⟩ := h
      obtain ⟨R, H⟩ := H
      refine And.intro R.1 ?_
      refine Or.inl ⟨_, (ra_r28 R), ?_⟩
      refine And.intro R.1 ?_
      refine ⟨(ra_k28 R), vp_cst (ra_l28 R) H.1, ?_⟩
      replace H := H.2
      replace H := H _ rfl
      refine And.intro R.1 ?_
      refine And.intro (fun c => ?_) (fun c => ?_)
      · replace H := H.1 c
        refine And.intro R.1 ?_
        refine Or.inl ⟨_, (ra_r29 R), ?_⟩
        refine And.intro R.1 ?_
        refine ⟨(ra_k29 R), vp_cst (ra_l29 R) H.1, ?_⟩
        replace H := H.2
        replace H := H _ rfl
        exact ⟨rfl, H⟩
      · replace H := H.2 c
        refine And.intro (Nat.le_of_ble_eq_true rfl) ?_
        refine And.intro (Nat.le_of_ble_eq_true rfl) (And.intro R.1 ?_)
        refine Cl.mono H (fun r M9 h => ?_)
        obtain ⟨v10, rfl, H⟩ := h
        obtain ⟨R, H⟩ := H
        refine And.intro (fun c => ?_) (fun c => ?_)
        · replace H := H.1 c
          refine And.intro R.1 ?_
          refine Or.inl ⟨_, (ra_r29 R), ?_⟩
          refine And.intro R.1 ?_
          refine ⟨(ra_k29 R), vp_cst (ra_l29 R) H.1, ?_⟩
          replace H := H.2
          replace H := H _ rfl
          exact ⟨rfl, H⟩
        · replace H := H.2 c
          refine And.intro (Nat.le_of_ble_eq_true rfl) ?_
          refine And.intro (Nat.le_of_ble_eq_true rfl) (And.intro R.1 ?_)
          refine Cl.mono H (fun r M12 h => ?_)
          obtain ⟨rfl, H⟩ := h
          obtain ⟨R, H⟩ := H
          refine And.intro R.1 ?_
          refine Or.inl ⟨_, (ra_r29 R), ?_⟩
          refine And.intro R.1 ?_
          refine ⟨(ra_k29 R), vp_cst (ra_l29 R) H.1, ?_⟩
          replace H := H.2
          replace H := H _ rfl
          exact ⟨rfl, H⟩
    · replace H := H.2 c
      refine And.intro (Nat.le_of_ble_eq_true rfl) ?_
      refine And.intro (Nat.le_of_ble_eq_true rfl) (And.intro R.1 ?_)
      refine Cl.mono H (fun r M14 h => ?_)
      obtain ⟨rfl, H⟩ := h
      obtain ⟨R, H⟩ := H
      exact ⟨rfl, H⟩
  · replace H := H.2 c
    refine And.intro (Nat.le_of_ble_eq_true rfl) ?_
    refine And.intro (Nat.le_of_ble_eq_true rfl) (And.intro R.1 ?_)
    refine Cl.mono H (fun r M15 h => ?_)
    obtain ⟨rfl, H⟩ := h
    obtain ⟨R, H⟩ := H
    exact ⟨rfl, H⟩

theorem r_law {G : GT} {d m : Nat} {M : Mem} (R : RefAt M m)  {Q : Int32 → Mem → Prop} (H : (¬ (vi M m 17) = (4 : Int32) → ∀ M1, M1 = seti M m 16 (vi M m 17) → ∀ M2, M2 = seti M1 m 14 (0 : Int32) → ∀ M3, M3 = seti M2 m 15 (0 : Int32) → ∀ M4, M4 = seti M3 m 18 (0 : Int32) → ∀ M5, M5 = seti M4 m 19 (0 : Int32) → ∀ M6, M6 = seti M5 m 20 (0 : Int32) → At G (d + 1) 198 47 [(0, .ref m), (1, .int (0 : Int32)), (2, .int (1 : Int32))] [] M6 (qI Q)) ∧ ((vi M m 17) = (4 : Int32) → Q (-1 : Int32) M)) : CI G (d + 1) 198 [.ref m] M Q := by
  refine Cl.ofM (Nat.le_of_ble_eq_true rfl) rfl ?_
  refine vcc ok198 0 [47, 99, 121, 122, 168, 195] ?_
  refine And.intro R.1 ?_
  refine And.intro (fun c => ?_) (fun c => ?_)
  · replace H := H.1 c
    refine And.intro R.1 ?_
    refine And.intro R.1 ?_
    refine And.intro (Or.inl rfl) (And.intro (fun h => absurd h (by decide)) ?_)
    replace H := H _ rfl
    refine And.intro R.1 ?_
    refine And.intro (Or.inl rfl) (And.intro (fun h => absurd h (by decide)) ?_)
    replace H := H _ rfl
    refine And.intro R.1 ?_
    refine And.intro (Or.inl rfl) (And.intro (fun h => absurd h (by decide)) ?_)
    replace H := H _ rfl
    refine And.intro R.1 ?_
    refine And.intro (Or.inl rfl) (And.intro (fun h => absurd h (by decide)) ?_)
    replace H := H _ rfl
    refine And.intro R.1 ?_
    refine And.intro (Or.inl rfl) (And.intro (fun h => absurd h (by decide)) ?_)
    replace H := H _ rfl
    refine And.intro R.1 ?_
    refine And.intro (Or.inl rfl) (And.intro (fun h => absurd h (by decide)) ?_)
    replace H := H _ rfl
    exact H
  · replace H := H.2 c
    exact ⟨fun h => absurd h (by decide), _, rfl, H⟩

theorem r_law_47 {G : GT} {d m : Nat} {M : Mem} (R : RefAt M m) {l1 : Int32} {l2 : Int32} {Q : Int32 → Mem → Prop} (H : (l2 = 0 → ∀ M7, M7 = seti M m 13 (0 : Int32) → vp_in (vi M7 m 16) 4 ∧ (∀ M8, M8 = seti M7 (m + 16) ((vi M7 m 16)).toNatClampNeg l1 → (¬ (vi M8 m 15) = 0 → At G (d + 1) 198 168 [(0, .ref m)] [.int (0 : Int32), .int (vi M8 m 17), .ref m] M8 (qI Q)) ∧ ((vi M8 m 15) = 0 → At G (d + 1) 198 168 [(0, .ref m)] [.int (1 : Int32), .int (vi M8 m 17), .ref m] M8 (qI Q)))) ∧ (¬ l2 = 0 → CV G d 197 [.ref m, .int l1] M (fun M9 => RefAt M9 m ∧ (CV G d 175 [.ref m] M9 (fun M10 => RefAt M10 m ∧ ((¬ (vi M10 m 15) = 0 → At G (d + 1) 198 99 [(0, .ref m), (1, .int (l1 + (1 : Int32)))] [] M10 (qI Q)) ∧ ((vi M10 m 15) = 0 → ((vi M10 m 13) ≤ (vi M10 m 14) → At G (d + 1) 198 99 [(0, .ref m), (1, .int (l1 + (1 : Int32)))] [] M10 (qI Q)) ∧ (¬ (vi M10 m 13) ≤ (vi M10 m 14) → CI G d 174 [.ref m] M10 (fun v12 M11 => RefAt M11 m ∧ ((v12 = (59 : Int32) → At G (d + 1) 198 99 [(0, .ref m), (1, .int (l1 + (1 : Int32)))] [] M11 (qI Q)) ∧ (¬ v12 = (59 : Int32) → CV G d 173 [.ref m, .int (0 : Int32), .int (vi M11 m 14)] M11 (fun M13 => RefAt M13 m ∧ (At G (d + 1) 198 99 [(0, .ref m), (1, .int (l1 + (1 : Int32)))] [] M13 (qI Q)))))))))))))) : At G (d + 1) 198 47 [(0, .ref m), (1, .int l1), (2, .int l2)] [] M (qI Q) := by
  refine vcc ok198 29 [99, 121, 122, 168, 195] ?_
  refine And.intro (fun c => ?_) (fun c => ?_)
  · replace H := H.1 c
    refine And.intro R.1 ?_
    refine And.intro (Or.inl rfl) (And.intro (fun h => absurd h (by decide)) ?_)
    replace H := H _ rfl
    refine And.intro R.1 ?_
    refine Or.inl ⟨_, (ra_r26 R), ?_⟩
    refine And.intro R.1 ?_
    refine ⟨(ra_k26 R), vp_cst (ra_l26 R) H.1, ?_⟩
    replace H := H.2
    replace H := H _ rfl
    refine And.intro R.1 ?_
    refine And.intro R.1 ?_
    refine And.intro (fun c => ?_) (fun c => ?_)
    · replace H := H.1 c
      exact At.keep [0] H
    · replace H := H.2 c
      exact At.keep [0] H
  · replace H := H.2 c
    refine And.intro (Nat.le_of_ble_eq_true rfl) ?_
    refine And.intro (Nat.le_of_ble_eq_true rfl) (And.intro R.1 ?_)
    refine Cl.mono H (fun r M9 h => ?_)
    obtain ⟨rfl, H⟩ := h
    obtain ⟨R, H⟩ := H
    refine And.intro (Nat.le_of_ble_eq_true rfl) ?_
    refine And.intro (Nat.le_of_ble_eq_true rfl) (And.intro R.1 ?_)
    refine Cl.mono H (fun r M10 h => ?_)
    obtain ⟨rfl, H⟩ := h
    obtain ⟨R, H⟩ := H
    refine And.intro R.1 ?_
    refine And.intro (fun c => ?_) (fun c => ?_)
    · replace H := H.1 c
      exact At.keep [0, 1] H
    · replace H := H.2 c
      refine And.intro R.1 ?_
      refine And.intro R.1 ?_
      refine And.intro (fun c => ?_) (fun c => ?_)
      · replace H := H.1 c
        exact At.keep [0, 1] H
      · replace H := H.2 c
        refine And.intro (Nat.le_of_ble_eq_true rfl) ?_
        refine And.intro (Nat.le_of_ble_eq_true rfl) (And.intro R.1 ?_)
        refine Cl.mono H (fun r M11 h => ?_)
        obtain ⟨v12, rfl, H⟩ := h
        obtain ⟨R, H⟩ := H
        refine And.intro (fun c => ?_) (fun c => ?_)
        · replace H := H.1 c
          exact At.keep [0, 1] H
        · replace H := H.2 c
          refine And.intro R.1 ?_
          refine And.intro (Nat.le_of_ble_eq_true rfl) ?_
          refine And.intro (Nat.le_of_ble_eq_true rfl) (And.intro R.1 ?_)
          refine Cl.mono H (fun r M13 h => ?_)
          obtain ⟨rfl, H⟩ := h
          obtain ⟨R, H⟩ := H
          exact At.keep [0, 1] H

theorem r_law_99 {G : GT} {d m : Nat} {M : Mem} (R : RefAt M m) {l1 : Int32} {Q : Int32 → Mem → Prop} (H : (¬ (vi M m 15) = 0 → At G (d + 1) 198 121 [(0, .ref m), (1, .int l1)] [] M (qI Q)) ∧ ((vi M m 15) = 0 → ((vi M m 13) ≤ (vi M m 14) → At G (d + 1) 198 121 [(0, .ref m), (1, .int l1)] [] M (qI Q)) ∧ (¬ (vi M m 13) ≤ (vi M m 14) → At G (d + 1) 198 122 [(0, .ref m), (1, .int l1)] [.int (1 : Int32)] M (qI Q)))) : At G (d + 1) 198 99 [(0, .ref m), (1, .int l1)] [] M (qI Q) := by
  refine vcc ok198 54 [47, 121, 122, 168, 195] ?_
  refine And.intro R.1 ?_
  refine And.intro (fun c => ?_) (fun c => ?_)
  · replace H := H.1 c
    exact H
  · replace H := H.2 c
    refine And.intro R.1 ?_
    refine And.intro R.1 ?_
    refine And.intro (fun c => ?_) (fun c => ?_)
    · replace H := H.1 c
      exact H
    · replace H := H.2 c
      exact H

theorem r_law_121 {G : GT} {d m : Nat} {M : Mem} (R : RefAt M m) {l1 : Int32} {Q : Int32 → Mem → Prop} (H : At G (d + 1) 198 122 [(0, .ref m), (1, .int l1)] [.int (0 : Int32)] M (qI Q)) : At G (d + 1) 198 121 [(0, .ref m), (1, .int l1)] [] M (qI Q) := by
  refine vcc ok198 64 [47, 99, 122, 168, 195] ?_
  exact H

theorem r_law_122 {G : GT} {d m : Nat} {M : Mem} (R : RefAt M m) {l1 : Int32} {t0 : Int32} {Q : Int32 → Mem → Prop} (H : ∀ M14, M14 = seti M m 14 ((vi M m 14) + (1 : Int32)) → At G (d + 1) 198 47 [(0, .ref m), (1, .int l1), (2, .int t0)] [] M14 (qI Q)) : At G (d + 1) 198 122 [(0, .ref m), (1, .int l1)] [.int t0] M (qI Q) := by
  refine vcc ok198 65 [47, 99, 121, 168, 195] ?_
  refine And.intro R.1 ?_
  refine And.intro R.1 ?_
  refine And.intro (Or.inl rfl) (And.intro (fun h => absurd h (by decide)) ?_)
  replace H := H _ rfl
  exact H

theorem r_law_168 {G : GT} {d m : Nat} {M : Mem} (R : RefAt M m) {t0 : Int32} {t1 : Int32} {t2 : Nat} {Q : Int32 → Mem → Prop} (H : mK M t2 = 13 ∧ (∀ M15, M15 = seti M t2 17 (t1 + t0) → ((vi M15 m 15) ≤ 0 → At G (d + 1) 198 195 [] [.int ((vi M15 m 17) - (1 : Int32))] M15 (qI Q)) ∧ (¬ (vi M15 m 15) ≤ 0 → At G (d + 1) 198 195 [] [.int ((-2 : Int32) - (vi M15 m 15))] M15 (qI Q)))) : At G (d + 1) 198 168 [(0, .ref m)] [.int t0, .int t1, .ref t2] M (qI Q) := by
  refine vcc ok198 91 [47, 99, 121, 122, 195] ?_
  refine And.intro H.1 ?_
  replace H := H.2
  refine And.intro (Or.inl rfl) (And.intro (fun h => absurd h (by decide)) ?_)
  replace H := H _ rfl
  refine And.intro R.1 ?_
  refine And.intro (fun c => ?_) (fun c => ?_)
  · replace H := H.1 c
    refine And.intro R.1 ?_
    exact At.keep [] H
  · replace H := H.2 c
    refine And.intro R.1 ?_
    exact At.keep [] H

theorem r_law_195 {G : GT} {d m : Nat} {M : Mem} (R : RefAt M m) {t0 : Int32} {Q : Int32 → Mem → Prop} (H : Q t0 M) : At G (d + 1) 198 195 [] [.int t0] M (qI Q) := by
  refine vcc ok198 105 [47, 99, 121, 122, 168] ?_
  exact ⟨fun h => absurd h (by decide), _, rfl, H⟩

theorem r_isLaw {G : GT} {d m : Nat} {M : Mem} (R : RefAt M m) {a1 : Int32} {Q : Int32 → Mem → Prop} (H : CI G d 155 [.long ((a1).toInt64), .long (0 : Int64), .long ((((vi M m 17) - (1 : Int32))).toInt64)] M (fun v2 M1 => RefAt M1 m ∧ ((v2 = 0 ∨ v2 = 1) ∧ Q v2 M1))) : CI G (d + 1) 199 [.ref m, .int a1] M Q := by
  refine Cl.ofM (Nat.le_of_ble_eq_true rfl) rfl ?_
  refine vcc ok199 0 [] ?_
  refine And.intro R.1 ?_
  refine And.intro (Nat.le_of_ble_eq_true rfl) ?_
  refine And.intro (Nat.le_of_ble_eq_true rfl) ?_
  refine Cl.mono H (fun r M1 h => ?_)
  obtain ⟨v2, rfl, H⟩ := h
  obtain ⟨R, H⟩ := H
  exact ⟨fun _ => H.1, _, rfl, H.2⟩

theorem r_truth {G : GT} {d : Nat} {M : Mem} {a1 : Int32} {Q : Int64 → Mem → Prop} (H : (a1 = 0 → Q (0 : Int64) M) ∧ (¬ a1 = 0 → Q (1 : Int64) M)) : CJ G (d + 1) 200 [.int a1] M Q := by
  refine Cl.ofM (Nat.le_of_ble_eq_true rfl) rfl ?_
  refine vcc ok200 0 [] ?_
  refine And.intro (fun c => ?_) (fun c => ?_)
  · replace H := H.1 c
    exact ⟨_, rfl, H⟩
  · replace H := H.2 c
    exact ⟨_, rfl, H⟩

theorem r_both {G : GT} {d : Nat} {M : Mem} {a1 : Int32} {a2 : Int64} {a3 : Int64} {Q : Int64 → Mem → Prop} (H : ((a1).toInt < 2 ∨ 14 < (a1).toInt → Q (a2 ||| a3) M) ∧ ((a1).toInt = 2 → Q (a2 + a3) M) ∧ ((a1).toInt = 3 → Q (a2 - a3) M) ∧ ((a1).toInt = 4 → (0 ≤ (lg_cmp a2 a3) → CJ G d 200 [.int (0 : Int32)] M (fun v2 M1 => Q v2 M1)) ∧ (¬ 0 ≤ (lg_cmp a2 a3) → CJ G d 200 [.int (1 : Int32)] M (fun v4 M3 => Q v4 M3))) ∧ ((a1).toInt = 5 → (0 < (lg_cmp a2 a3) → CJ G d 200 [.int (0 : Int32)] M (fun v6 M5 => Q v6 M5)) ∧ (¬ 0 < (lg_cmp a2 a3) → CJ G d 200 [.int (1 : Int32)] M (fun v8 M7 => Q v8 M7))) ∧ ((a1).toInt = 6 → (¬ (lg_cmp a2 a3) = 0 → CJ G d 200 [.int (0 : Int32)] M (fun v10 M9 => Q v10 M9)) ∧ ((lg_cmp a2 a3) = 0 → CJ G d 200 [.int (1 : Int32)] M (fun v12 M11 => Q v12 M11))) ∧ ((a1).toInt = 7 → ((lg_cmp a2 a3) < 0 → CJ G d 200 [.int (0 : Int32)] M (fun v14 M13 => Q v14 M13)) ∧ (¬ (lg_cmp a2 a3) < 0 → CJ G d 200 [.int (1 : Int32)] M (fun v16 M15 => Q v16 M15))) ∧ ((a1).toInt = 8 → ((lg_cmp a2 a3) ≤ 0 → CJ G d 200 [.int (0 : Int32)] M (fun v18 M17 => Q v18 M17)) ∧ (¬ (lg_cmp a2 a3) ≤ 0 → CJ G d 200 [.int (1 : Int32)] M (fun v20 M19 => Q v20 M19))) ∧ ((a1).toInt = 9 → Q (a2 ||| a3) M) ∧ ((a1).toInt = 10 → Q (a2 &&& a3) M) ∧ ((a1).toInt = 11 → Q (a2 ||| a3) M) ∧ ((a1).toInt = 12 → Q (a2 ||| a3) M) ∧ ((a1).toInt = 13 → Q (a2 * a3) M) ∧ ((a1).toInt = 14 → (¬ (lg_cmp a3 (0 : Int64)) = 0 → ¬ a3 = 0 ∧ (Q (a2 / a3) M)) ∧ ((lg_cmp a3 (0 : Int64)) = 0 → Q (0 : Int64) M)) ∧ True) : CJ G (d + 1) 201 [.int a1, .long a2, .long a3] M Q := by
  refine Cl.ofM (Nat.le_of_ble_eq_true rfl) rfl ?_
  refine vcc ok201 0 [] ?_
  refine And.intro (fun c => ?_) ?_
  · replace H := H.1 c
    exact ⟨_, rfl, H⟩
  replace H := H.2
  refine And.intro (fun c => ?_) ?_
  · replace H := H.1 c
    exact ⟨_, rfl, H⟩
  replace H := H.2
  refine And.intro (fun c => ?_) ?_
  · replace H := H.1 c
    exact ⟨_, rfl, H⟩
  replace H := H.2
  refine And.intro (fun c => ?_) ?_
  · replace H := H.1 c
    refine And.intro (fun c => ?_) (fun c => ?_)
    · replace H := H.1 c
      refine And.intro (Nat.le_of_ble_eq_true rfl) ?_
      refine And.intro (Nat.le_of_ble_eq_true rfl) ?_
      refine Cl.mono H (fun r M1 h => ?_)
      obtain ⟨v2, rfl, H⟩ := h
      exact ⟨_, rfl, H⟩
    · replace H := H.2 c
      refine And.intro (Nat.le_of_ble_eq_true rfl) ?_
      refine And.intro (Nat.le_of_ble_eq_true rfl) ?_
      refine Cl.mono H (fun r M3 h => ?_)
      obtain ⟨v4, rfl, H⟩ := h
      exact ⟨_, rfl, H⟩
  replace H := H.2
  refine And.intro (fun c => ?_) ?_
  · replace H := H.1 c
    refine And.intro (fun c => ?_) (fun c => ?_)
    · replace H := H.1 c
      refine And.intro (Nat.le_of_ble_eq_true rfl) ?_
      refine And.intro (Nat.le_of_ble_eq_true rfl) ?_
      refine Cl.mono H (fun r M5 h => ?_)
      obtain ⟨v6, rfl, H⟩ := h
      exact ⟨_, rfl, H⟩
    · replace H := H.2 c
      refine And.intro (Nat.le_of_ble_eq_true rfl) ?_
      refine And.intro (Nat.le_of_ble_eq_true rfl) ?_
      refine Cl.mono H (fun r M7 h => ?_)
      obtain ⟨v8, rfl, H⟩ := h
      exact ⟨_, rfl, H⟩
  replace H := H.2
  refine And.intro (fun c => ?_) ?_
  · replace H := H.1 c
    refine And.intro (fun c => ?_) (fun c => ?_)
    · replace H := H.1 c
      refine And.intro (Nat.le_of_ble_eq_true rfl) ?_
      refine And.intro (Nat.le_of_ble_eq_true rfl) ?_
      refine Cl.mono H (fun r M9 h => ?_)
      obtain ⟨v10, rfl, H⟩ := h
      exact ⟨_, rfl, H⟩
    · replace H := H.2 c
      refine And.intro (Nat.le_of_ble_eq_true rfl) ?_
      refine And.intro (Nat.le_of_ble_eq_true rfl) ?_
      refine Cl.mono H (fun r M11 h => ?_)
      obtain ⟨v12, rfl, H⟩ := h
      exact ⟨_, rfl, H⟩
  replace H := H.2
  refine And.intro (fun c => ?_) ?_
  · replace H := H.1 c
    refine And.intro (fun c => ?_) (fun c => ?_)
    · replace H := H.1 c
      refine And.intro (Nat.le_of_ble_eq_true rfl) ?_
      refine And.intro (Nat.le_of_ble_eq_true rfl) ?_
      refine Cl.mono H (fun r M13 h => ?_)
      obtain ⟨v14, rfl, H⟩ := h
      exact ⟨_, rfl, H⟩
    · replace H := H.2 c
      refine And.intro (Nat.le_of_ble_eq_true rfl) ?_
      refine And.intro (Nat.le_of_ble_eq_true rfl) ?_
      refine Cl.mono H (fun r M15 h => ?_)
      obtain ⟨v16, rfl, H⟩ := h
      exact ⟨_, rfl, H⟩
  replace H := H.2
  refine And.intro (fun c => ?_) ?_
  · replace H := H.1 c
    refine And.intro (fun c => ?_) (fun c => ?_)
    · replace H := H.1 c
      refine And.intro (Nat.le_of_ble_eq_true rfl) ?_
      refine And.intro (Nat.le_of_ble_eq_true rfl) ?_
      refine Cl.mono H (fun r M17 h => ?_)
      obtain ⟨v18, rfl, H⟩ := h
      exact ⟨_, rfl, H⟩
    · replace H := H.2 c
      refine And.intro (Nat.le_of_ble_eq_true rfl) ?_
      refine And.intro (Nat.le_of_ble_eq_true rfl) ?_
      refine Cl.mono H (fun r M19 h => ?_)
      obtain ⟨v20, rfl, H⟩ := h
      exact ⟨_, rfl, H⟩
  replace H := H.2
  refine And.intro (fun c => ?_) ?_
  · replace H := H.1 c
    exact ⟨_, rfl, H⟩
  replace H := H.2
  refine And.intro (fun c => ?_) ?_
  · replace H := H.1 c
    exact ⟨_, rfl, H⟩
  replace H := H.2
  refine And.intro (fun c => ?_) ?_
  · replace H := H.1 c
    exact ⟨_, rfl, H⟩
  replace H := H.2
  refine And.intro (fun c => ?_) ?_
  · replace H := H.1 c
    exact ⟨_, rfl, H⟩
  replace H := H.2
  refine And.intro (fun c => ?_) ?_
  · replace H := H.1 c
    exact ⟨_, rfl, H⟩
  replace H := H.2
  refine And.intro (fun c => ?_) ?_
  · replace H := H.1 c
    refine And.intro (fun c => ?_) (fun c => ?_)
    · replace H := H.1 c
      refine And.intro H.1 ?_
      replace H := H.2
      exact ⟨_, rfl, H⟩
    · replace H := H.2 c
      exact ⟨_, rfl, H⟩
  replace H := H.2
  exact trivial

theorem r_answer {G : GT} {d m : Nat} {M : Mem} (R : RefAt M m) {a1 : Int32} {a2 : Int32} {a3 : Int32} {Q : Int64 → Mem → Prop} (H : At G (d + 1) 202 6 [(0, .ref m), (1, .int a1), (3, .int a3), (4, .int (0 : Int32)), (5, .int a2)] [] M (qJ Q)) : CJ G (d + 1) 202 [.ref m, .int a1, .int a2, .int a3] M Q := by
  refine Cl.ofM (Nat.le_of_ble_eq_true rfl) rfl ?_
  refine vcc ok202 0 [6] ?_
  exact At.keep [0, 1, 3, 4, 5] H

theorem r_answer_6 {G : GT} {d m : Nat} {M : Mem} (R : RefAt M m) {l1 : Int32} {l3 : Int32} {l4 : Int32} {l5 : Int32} {Q : Int64 → Mem → Prop} (H : (l3 ≤ l5 → vp_in (0 : Int32) 300 ∧ (Q (vl M (m + 22) ((0 : Int32)).toNatClampNeg) M)) ∧ (¬ l3 ≤ l5 → vp_in (((300 : Int32) * l1) + l5) 1200 ∧ (vp_in (((300 : Int32) * l1) + l5) 1200 ∧ (((vi M (m + 14) ((((300 : Int32) * l1) + l5)).toNatClampNeg) = 0 → (¬ (vi M (m + 14) ((((300 : Int32) * l1) + l5)).toNatClampNeg) = 0 → vp_in (vi M (m + 15) ((((300 : Int32) * l1) + l5)).toNatClampNeg) 7 ∧ (vp_in l4 300 ∧ (∀ M1, M1 = setl M (m + 22) (l4).toNatClampNeg (vl M (m + 21) ((vi M (m + 15) ((((300 : Int32) * l1) + l5)).toNatClampNeg)).toNatClampNeg) → At G (d + 1) 202 6 [(0, .ref m), (1, .int l1), (3, .int l3), (4, .int (l4 + (1 : Int32))), (5, .int (l5 + (1 : Int32)))] [] M1 (qJ Q)))) ∧ ((vi M (m + 14) ((((300 : Int32) * l1) + l5)).toNatClampNeg) = 0 → vp_in l4 300 ∧ (∀ M2, M2 = setl M (m + 22) (l4).toNatClampNeg ((vi M (m + 15) ((((300 : Int32) * l1) + l5)).toNatClampNeg)).toInt64 → At G (d + 1) 202 6 [(0, .ref m), (1, .int l1), (3, .int l3), (4, .int (l4 + (1 : Int32))), (5, .int (l5 + (1 : Int32)))] [] M2 (qJ Q)))) ∧ (¬ (vi M (m + 14) ((((300 : Int32) * l1) + l5)).toNatClampNeg) = 0 → (¬ (vi M (m + 14) ((((300 : Int32) * l1) + l5)).toNatClampNeg) = (1 : Int32) → (¬ (vi M (m + 14) ((((300 : Int32) * l1) + l5)).toNatClampNeg) = (9 : Int32) → vp_in ((l4 + (-1 : Int32)) - (1 : Int32)) 300 ∧ (vp_in (l4 + (-1 : Int32)) 300 ∧ (CJ G d 201 [.int (vi M (m + 14) ((((300 : Int32) * l1) + l5)).toNatClampNeg), .long (vl M (m + 22) (((l4 + (-1 : Int32)) - (1 : Int32))).toNatClampNeg), .long (vl M (m + 22) ((l4 + (-1 : Int32))).toNatClampNeg)] M (fun v4 M3 => RefAt M3 m ∧ (vp_in ((l4 + (-1 : Int32)) - (1 : Int32)) 300 ∧ (∀ M5, M5 = setl M3 (m + 22) (((l4 + (-1 : Int32)) - (1 : Int32))).toNatClampNeg v4 → At G (d + 1) 202 6 [(0, .ref m), (1, .int l1), (3, .int l3), (4, .int (l4 + (-1 : Int32))), (5, .int (l5 + (1 : Int32)))] [] M5 (qJ Q))))))) ∧ ((vi M (m + 14) ((((300 : Int32) * l1) + l5)).toNatClampNeg) = (9 : Int32) → vp_in (l4 - (1 : Int32)) 300 ∧ (vp_in (l4 - (1 : Int32)) 300 ∧ (∀ M6, M6 = setl M (m + 22) ((l4 - (1 : Int32))).toNatClampNeg ((1 : Int64) - (vl M (m + 22) ((l4 - (1 : Int32))).toNatClampNeg)) → At G (d + 1) 202 6 [(0, .ref m), (1, .int l1), (3, .int l3), (4, .int l4), (5, .int (l5 + (1 : Int32)))] [] M6 (qJ Q))))) ∧ ((vi M (m + 14) ((((300 : Int32) * l1) + l5)).toNatClampNeg) = (1 : Int32) → (¬ (vi M (m + 14) ((((300 : Int32) * l1) + l5)).toNatClampNeg) = 0 → vp_in (vi M (m + 15) ((((300 : Int32) * l1) + l5)).toNatClampNeg) 7 ∧ (vp_in l4 300 ∧ (∀ M7, M7 = setl M (m + 22) (l4).toNatClampNeg (vl M (m + 21) ((vi M (m + 15) ((((300 : Int32) * l1) + l5)).toNatClampNeg)).toNatClampNeg) → At G (d + 1) 202 6 [(0, .ref m), (1, .int l1), (3, .int l3), (4, .int (l4 + (1 : Int32))), (5, .int (l5 + (1 : Int32)))] [] M7 (qJ Q)))) ∧ ((vi M (m + 14) ((((300 : Int32) * l1) + l5)).toNatClampNeg) = 0 → vp_in l4 300 ∧ (∀ M8, M8 = setl M (m + 22) (l4).toNatClampNeg ((vi M (m + 15) ((((300 : Int32) * l1) + l5)).toNatClampNeg)).toInt64 → At G (d + 1) 202 6 [(0, .ref m), (1, .int l1), (3, .int l3), (4, .int (l4 + (1 : Int32))), (5, .int (l5 + (1 : Int32)))] [] M8 (qJ Q))))))))) : At G (d + 1) 202 6 [(0, .ref m), (1, .int l1), (3, .int l3), (4, .int l4), (5, .int l5)] [] M (qJ Q) := by
  refine vcc ok202 4 [] ?_
  refine And.intro (fun c => ?_) (fun c => ?_)
  · replace H := H.1 c
    refine And.intro R.1 ?_
    refine Or.inl ⟨_, (ra_r32 R), ?_⟩
    refine ⟨(ra_k32 R), vp_cst (ra_l32 R) H.1, ?_⟩
    replace H := H.2
    exact ⟨_, rfl, H⟩
  · replace H := H.2 c
    refine And.intro R.1 ?_
    refine Or.inl ⟨_, (ra_r24 R), ?_⟩
    refine Or.inl ⟨(ra_k24 R), vp_cst (ra_l24 R) H.1, ?_⟩
    replace H := H.2
    refine And.intro R.1 ?_
    refine Or.inl ⟨_, (ra_r25 R), ?_⟩
    refine Or.inl ⟨(ra_k25 R), vp_cst (ra_l25 R) H.1, ?_⟩
    replace H := H.2
    refine And.intro (fun c => ?_) (fun c => ?_)
    · replace H := H.1 c
      refine And.intro R.1 ?_
      refine Or.inl ⟨_, (ra_r32 R), ?_⟩
      refine And.intro (fun c => ?_) (fun c => ?_)
      · replace H := H.1 c
        refine And.intro R.1 ?_
        refine Or.inl ⟨_, (ra_r31 R), ?_⟩
        refine ⟨(ra_k31 R), vp_cst (ra_l31 R) H.1, ?_⟩
        replace H := H.2
        refine ⟨(ra_k32 R), vp_cst (ra_l32 R) H.1, ?_⟩
        replace H := H.2
        replace H := H _ rfl
        exact At.keep [0, 1, 3, 4, 5] H
      · replace H := H.2 c
        refine ⟨(ra_k32 R), vp_cst (ra_l32 R) H.1, ?_⟩
        replace H := H.2
        replace H := H _ rfl
        exact At.keep [0, 1, 3, 4, 5] H
    · replace H := H.2 c
      refine And.intro (fun c => ?_) (fun c => ?_)
      · replace H := H.1 c
        refine And.intro (fun c => ?_) (fun c => ?_)
        · replace H := H.1 c
          refine And.intro R.1 ?_
          refine Or.inl ⟨_, (ra_r32 R), ?_⟩
          refine And.intro R.1 ?_
          refine Or.inl ⟨_, (ra_r32 R), ?_⟩
          refine ⟨(ra_k32 R), vp_cst (ra_l32 R) H.1, ?_⟩
          replace H := H.2
          refine And.intro R.1 ?_
          refine Or.inl ⟨_, (ra_r32 R), ?_⟩
          refine ⟨(ra_k32 R), vp_cst (ra_l32 R) H.1, ?_⟩
          replace H := H.2
          refine And.intro (Nat.le_of_ble_eq_true rfl) ?_
          refine And.intro (Nat.le_of_ble_eq_true rfl) ?_
          refine Cl.mono H (fun r M3 h => ?_)
          obtain ⟨v4, rfl, H⟩ := h
          obtain ⟨R, H⟩ := H
          refine ⟨(ra_k32 R), vp_cst (ra_l32 R) H.1, ?_⟩
          replace H := H.2
          replace H := H _ rfl
          exact At.keep [0, 1, 3, 4, 5] H
        · replace H := H.2 c
          refine And.intro R.1 ?_
          refine Or.inl ⟨_, (ra_r32 R), ?_⟩
          refine And.intro R.1 ?_
          refine Or.inl ⟨_, (ra_r32 R), ?_⟩
          refine ⟨(ra_k32 R), vp_cst (ra_l32 R) H.1, ?_⟩
          replace H := H.2
          refine ⟨(ra_k32 R), vp_cst (ra_l32 R) H.1, ?_⟩
          replace H := H.2
          replace H := H _ rfl
          exact At.keep [0, 1, 3, 4, 5] H
      · replace H := H.2 c
        refine And.intro R.1 ?_
        refine Or.inl ⟨_, (ra_r32 R), ?_⟩
        refine And.intro (fun c => ?_) (fun c => ?_)
        · replace H := H.1 c
          refine And.intro R.1 ?_
          refine Or.inl ⟨_, (ra_r31 R), ?_⟩
          refine ⟨(ra_k31 R), vp_cst (ra_l31 R) H.1, ?_⟩
          replace H := H.2
          refine ⟨(ra_k32 R), vp_cst (ra_l32 R) H.1, ?_⟩
          replace H := H.2
          replace H := H _ rfl
          exact At.keep [0, 1, 3, 4, 5] H
        · replace H := H.2 c
          refine ⟨(ra_k32 R), vp_cst (ra_l32 R) H.1, ?_⟩
          replace H := H.2
          replace H := H _ rfl
          exact At.keep [0, 1, 3, 4, 5] H

theorem r_at {G : GT} {d m : Nat} {M : Mem} (R : RefAt M m) {a1 : Int32} {a2 : Int32} {Q : Int32 → Mem → Prop} (H : CI G d 155 [.long ((a1).toInt64), .long (0 : Int64), .long (1 : Int64)] M (fun v2 M1 => RefAt M1 m ∧ ((v2 = 0 → Q (-1 : Int32) M1) ∧ (¬ v2 = 0 → (¬ a1 = 0 → vp_in (1 : Int32) 3 ∧ (CI G d 155 [.long ((a2).toInt64), .long (0 : Int64), .long ((((vi M1 (m + 1) ((1 : Int32)).toNatClampNeg) - (1 : Int32))).toInt64)] M1 (fun v4 M3 => RefAt M3 m ∧ ((¬ v4 = 0 → (¬ a1 = 0 → vp_in a2 200 ∧ (Q (vi M3 (m + 3) (a2).toNatClampNeg) M3)) ∧ (a1 = 0 → vp_in a2 200 ∧ (Q (vi M3 (m + 2) (a2).toNatClampNeg) M3))) ∧ (v4 = 0 → Q (-1 : Int32) M3))))) ∧ (a1 = 0 → vp_in (0 : Int32) 3 ∧ (CI G d 155 [.long ((a2).toInt64), .long (0 : Int64), .long ((((vi M1 (m + 1) ((0 : Int32)).toNatClampNeg) - (1 : Int32))).toInt64)] M1 (fun v6 M5 => RefAt M5 m ∧ ((¬ v6 = 0 → (¬ a1 = 0 → vp_in a2 200 ∧ (Q (vi M5 (m + 3) (a2).toNatClampNeg) M5)) ∧ (a1 = 0 → vp_in a2 200 ∧ (Q (vi M5 (m + 2) (a2).toNatClampNeg) M5))) ∧ (v6 = 0 → Q (-1 : Int32) M5))))))))) : CI G (d + 1) 203 [.ref m, .int a1, .int a2] M Q := by
  refine Cl.ofM (Nat.le_of_ble_eq_true rfl) rfl ?_
  refine vcc ok203 0 [] ?_
  refine And.intro (Nat.le_of_ble_eq_true rfl) ?_
  refine And.intro (Nat.le_of_ble_eq_true rfl) ?_
  refine Cl.mono H (fun r M1 h => ?_)
  obtain ⟨v2, rfl, H⟩ := h
  obtain ⟨R, H⟩ := H
  refine And.intro (fun c => ?_) (fun c => ?_)
  · replace H := H.1 c
    exact ⟨fun h => absurd h (by decide), _, rfl, H⟩
  · replace H := H.2 c
    refine And.intro R.1 ?_
    refine Or.inl ⟨_, (ra_r1 R), ?_⟩
    refine And.intro (fun c => ?_) (fun c => ?_)
    · replace H := H.1 c
      refine Or.inl ⟨(ra_k1 R), vp_cst (ra_l1 R) H.1, ?_⟩
      replace H := H.2
      refine And.intro (Nat.le_of_ble_eq_true rfl) ?_
      refine And.intro (Nat.le_of_ble_eq_true rfl) ?_
      refine Cl.mono H (fun r M3 h => ?_)
      obtain ⟨v4, rfl, H⟩ := h
      obtain ⟨R, H⟩ := H
      refine And.intro (fun c => ?_) (fun c => ?_)
      · replace H := H.1 c
        refine And.intro (fun c => ?_) (fun c => ?_)
        · replace H := H.1 c
          refine And.intro R.1 ?_
          refine Or.inl ⟨_, (ra_r3 R), ?_⟩
          refine Or.inl ⟨(ra_k3 R), vp_cst (ra_l3 R) H.1, ?_⟩
          replace H := H.2
          exact ⟨fun h => absurd h (by decide), _, rfl, H⟩
        · replace H := H.2 c
          refine And.intro R.1 ?_
          refine Or.inl ⟨_, (ra_r2 R), ?_⟩
          refine Or.inl ⟨(ra_k2 R), vp_cst (ra_l2 R) H.1, ?_⟩
          replace H := H.2
          exact ⟨fun h => absurd h (by decide), _, rfl, H⟩
      · replace H := H.2 c
        exact ⟨fun h => absurd h (by decide), _, rfl, H⟩
    · replace H := H.2 c
      refine Or.inl ⟨(ra_k1 R), vp_cst (ra_l1 R) H.1, ?_⟩
      replace H := H.2
      refine And.intro (Nat.le_of_ble_eq_true rfl) ?_
      refine And.intro (Nat.le_of_ble_eq_true rfl) ?_
      refine Cl.mono H (fun r M5 h => ?_)
      obtain ⟨v6, rfl, H⟩ := h
      obtain ⟨R, H⟩ := H
      refine And.intro (fun c => ?_) (fun c => ?_)
      · replace H := H.1 c
        refine And.intro (fun c => ?_) (fun c => ?_)
        · replace H := H.1 c
          refine And.intro R.1 ?_
          refine Or.inl ⟨_, (ra_r3 R), ?_⟩
          refine Or.inl ⟨(ra_k3 R), vp_cst (ra_l3 R) H.1, ?_⟩
          replace H := H.2
          exact ⟨fun h => absurd h (by decide), _, rfl, H⟩
        · replace H := H.2 c
          refine And.intro R.1 ?_
          refine Or.inl ⟨_, (ra_r2 R), ?_⟩
          refine Or.inl ⟨(ra_k2 R), vp_cst (ra_l2 R) H.1, ?_⟩
          replace H := H.2
          exact ⟨fun h => absurd h (by decide), _, rfl, H⟩
      · replace H := H.2 c
        exact ⟨fun h => absurd h (by decide), _, rfl, H⟩

theorem r_areAlike {G : GT} {d m : Nat} {M : Mem} (R : RefAt M m) {a1 : Int32} {a2 : Int32} {Q : Int32 → Mem → Prop} (H : vp_in a1 64 ∧ (vp_in a2 64 ∧ ((¬ (vi M (m + 7) (a1).toNatClampNeg) = (vi M (m + 7) (a2).toNatClampNeg) → At G (d + 1) 204 84 [(0, .ref m), (1, .int a1), (2, .int a2), (3, .int (0 : Int32)), (4, .int (0 : Int32))] [] M (qI Q)) ∧ ((vi M (m + 7) (a1).toNatClampNeg) = (vi M (m + 7) (a2).toNatClampNeg) → vp_in a1 64 ∧ (vp_in a2 64 ∧ ((¬ (vi M (m + 8) (a1).toNatClampNeg) = (vi M (m + 8) (a2).toNatClampNeg) → At G (d + 1) 204 84 [(0, .ref m), (1, .int a1), (2, .int a2), (3, .int (0 : Int32)), (4, .int (0 : Int32))] [] M (qI Q)) ∧ ((vi M (m + 8) (a1).toNatClampNeg) = (vi M (m + 8) (a2).toNatClampNeg) → vp_in a1 64 ∧ (vp_in a2 64 ∧ ((¬ (vi M (m + 9) (a1).toNatClampNeg) = (vi M (m + 9) (a2).toNatClampNeg) → At G (d + 1) 204 84 [(0, .ref m), (1, .int a1), (2, .int a2), (3, .int (0 : Int32)), (4, .int (0 : Int32))] [] M (qI Q)) ∧ ((vi M (m + 9) (a1).toNatClampNeg) = (vi M (m + 9) (a2).toNatClampNeg) → vp_in a1 64 ∧ (vp_in a2 64 ∧ ((¬ (vi M (m + 10) (a1).toNatClampNeg) = (vi M (m + 10) (a2).toNatClampNeg) → At G (d + 1) 204 84 [(0, .ref m), (1, .int a1), (2, .int a2), (3, .int (0 : Int32)), (4, .int (0 : Int32))] [] M (qI Q)) ∧ ((vi M (m + 10) (a1).toNatClampNeg) = (vi M (m + 10) (a2).toNatClampNeg) → vp_in a1 64 ∧ (vp_in a2 64 ∧ ((¬ (vi M (m + 11) (a1).toNatClampNeg) = (vi M (m + 11) (a2).toNatClampNeg) → At G (d + 1) 204 84 [(0, .ref m), (1, .int a1), (2, .int a2), (3, .int (0 : Int32)), (4, .int (0 : Int32))] [] M (qI Q)) ∧ ((vi M (m + 11) (a1).toNatClampNeg) = (vi M (m + 11) (a2).toNatClampNeg) → At G (d + 1) 204 84 [(0, .ref m), (1, .int a1), (2, .int a2), (3, .int (1 : Int32)), (4, .int (0 : Int32))] [] M (qI Q))))))))))))))))) : CI G (d + 1) 204 [.ref m, .int a1, .int a2] M Q := by
  refine Cl.ofM (Nat.le_of_ble_eq_true rfl) rfl ?_
  refine vcc ok204 0 [84] ?_
  refine And.intro R.1 ?_
  refine Or.inl ⟨_, (ra_r7 R), ?_⟩
  refine Or.inl ⟨(ra_k7 R), vp_cst (ra_l7 R) H.1, ?_⟩
  replace H := H.2
  refine And.intro R.1 ?_
  refine Or.inl ⟨_, (ra_r7 R), ?_⟩
  refine Or.inl ⟨(ra_k7 R), vp_cst (ra_l7 R) H.1, ?_⟩
  replace H := H.2
  refine And.intro (fun c => ?_) (fun c => ?_)
  · replace H := H.1 c
    exact H
  · replace H := H.2 c
    refine And.intro R.1 ?_
    refine Or.inl ⟨_, (ra_r8 R), ?_⟩
    refine Or.inl ⟨(ra_k8 R), vp_cst (ra_l8 R) H.1, ?_⟩
    replace H := H.2
    refine And.intro R.1 ?_
    refine Or.inl ⟨_, (ra_r8 R), ?_⟩
    refine Or.inl ⟨(ra_k8 R), vp_cst (ra_l8 R) H.1, ?_⟩
    replace H := H.2
    refine And.intro (fun c => ?_) (fun c => ?_)
    · replace H := H.1 c
      exact H
    · replace H := H.2 c
      refine And.intro R.1 ?_
      refine Or.inl ⟨_, (ra_r9 R), ?_⟩
      refine Or.inl ⟨(ra_k9 R), vp_cst (ra_l9 R) H.1, ?_⟩
      replace H := H.2
      refine And.intro R.1 ?_
      refine Or.inl ⟨_, (ra_r9 R), ?_⟩
      refine Or.inl ⟨(ra_k9 R), vp_cst (ra_l9 R) H.1, ?_⟩
      replace H := H.2
      refine And.intro (fun c => ?_) (fun c => ?_)
      · replace H := H.1 c
        exact H
      · replace H := H.2 c
        refine And.intro R.1 ?_
        refine Or.inl ⟨_, (ra_r10 R), ?_⟩
        refine Or.inl ⟨(ra_k10 R), vp_cst (ra_l10 R) H.1, ?_⟩
        replace H := H.2
        refine And.intro R.1 ?_
        refine Or.inl ⟨_, (ra_r10 R), ?_⟩
        refine Or.inl ⟨(ra_k10 R), vp_cst (ra_l10 R) H.1, ?_⟩
        replace H := H.2
        refine And.intro (fun c => ?_) (fun c => ?_)
        · replace H := H.1 c
          exact H
        · replace H := H.2 c
          refine And.intro R.1 ?_
          refine Or.inl ⟨_, (ra_r11 R), ?_⟩
          refine Or.inl ⟨(ra_k11 R), vp_cst (ra_l11 R) H.1, ?_⟩
          replace H := H.2
          refine And.intro R.1 ?_
          refine Or.inl ⟨_, (ra_r11 R), ?_⟩
          refine Or.inl ⟨(ra_k11 R), vp_cst (ra_l11 R) H.1, ?_⟩
          replace H := H.2
          refine And.intro (fun c => ?_) (fun c => ?_)
          · replace H := H.1 c
            exact H
          · replace H := H.2 c
            exact H

theorem r_areAlike_84 {G : GT} {d m : Nat} {M : Mem} (R : RefAt M m) {l1 : Int32} {l2 : Int32} {l3 : Int32} {l4 : Int32} {Q : Int32 → Mem → Prop} (H : vp_in l1 64 ∧ (((vi M (m + 11) (l1).toNatClampNeg) ≤ l4 → (l3 = 0 ∨ l3 = 1) ∧ Q l3 M) ∧ (¬ (vi M (m + 11) (l1).toNatClampNeg) ≤ l4 → (l3 = 0 → (l3 = 0 ∨ l3 = 1) ∧ Q l3 M) ∧ (¬ l3 = 0 → vp_in l1 64 ∧ ((¬ (vi M (m + 7) (l1).toNatClampNeg) = 0 → (l3 = 0 ∨ l3 = 1) ∧ Q l3 M) ∧ ((vi M (m + 7) (l1).toNatClampNeg) = 0 → vp_in (((20 : Int32) * l1) + l4) 1280 ∧ (vp_in (((20 : Int32) * l2) + l4) 1280 ∧ ((¬ (vi M (m + 12) ((((20 : Int32) * l1) + l4)).toNatClampNeg) = (vi M (m + 12) ((((20 : Int32) * l2) + l4)).toNatClampNeg) → At G (d + 1) 204 84 [(0, .ref m), (1, .int l1), (2, .int l2), (3, .int (0 : Int32)), (4, .int (l4 + (1 : Int32)))] [] M (qI Q)) ∧ ((vi M (m + 12) ((((20 : Int32) * l1) + l4)).toNatClampNeg) = (vi M (m + 12) ((((20 : Int32) * l2) + l4)).toNatClampNeg) → At G (d + 1) 204 84 [(0, .ref m), (1, .int l1), (2, .int l2), (3, .int (1 : Int32)), (4, .int (l4 + (1 : Int32)))] [] M (qI Q)))))))))) : At G (d + 1) 204 84 [(0, .ref m), (1, .int l1), (2, .int l2), (3, .int l3), (4, .int l4)] [] M (qI Q) := by
  refine vcc ok204 51 [] ?_
  refine And.intro R.1 ?_
  refine Or.inl ⟨_, (ra_r11 R), ?_⟩
  refine Or.inl ⟨(ra_k11 R), vp_cst (ra_l11 R) H.1, ?_⟩
  replace H := H.2
  refine And.intro (fun c => ?_) (fun c => ?_)
  · replace H := H.1 c
    exact ⟨fun _ => H.1, _, rfl, H.2⟩
  · replace H := H.2 c
    refine And.intro (fun c => ?_) (fun c => ?_)
    · replace H := H.1 c
      exact ⟨fun _ => H.1, _, rfl, H.2⟩
    · replace H := H.2 c
      refine And.intro R.1 ?_
      refine Or.inl ⟨_, (ra_r7 R), ?_⟩
      refine Or.inl ⟨(ra_k7 R), vp_cst (ra_l7 R) H.1, ?_⟩
      replace H := H.2
      refine And.intro (fun c => ?_) (fun c => ?_)
      · replace H := H.1 c
        exact ⟨fun _ => H.1, _, rfl, H.2⟩
      · replace H := H.2 c
        refine And.intro R.1 ?_
        refine Or.inl ⟨_, (ra_r12 R), ?_⟩
        refine Or.inl ⟨(ra_k12 R), vp_cst (ra_l12 R) H.1, ?_⟩
        replace H := H.2
        refine And.intro R.1 ?_
        refine Or.inl ⟨_, (ra_r12 R), ?_⟩
        refine Or.inl ⟨(ra_k12 R), vp_cst (ra_l12 R) H.1, ?_⟩
        replace H := H.2
        refine And.intro (fun c => ?_) (fun c => ?_)
        · replace H := H.1 c
          exact H
        · replace H := H.2 c
          exact H

theorem r_tells {G : GT} {d m : Nat} {M : Mem} (R : RefAt M m) {a1 : Int32} {a2 : Int32} {Q : Int32 → Mem → Prop} (H : At G (d + 1) 205 5 [(0, .ref m), (1, .int a1), (2, .int a2), (3, .int (0 : Int32)), (4, .int (0 : Int32))] [] M (qI Q)) : CI G (d + 1) 205 [.ref m, .int a1, .int a2] M Q := by
  refine Cl.ofM (Nat.le_of_ble_eq_true rfl) rfl ?_
  refine vcc ok205 0 [5] ?_
  exact H

theorem r_tells_5 {G : GT} {d m : Nat} {M : Mem} (R : RefAt M m) {l1 : Int32} {l2 : Int32} {l3 : Int32} {l4 : Int32} {Q : Int32 → Mem → Prop} (H : vp_in l1 4 ∧ (((vi M (m + 5) (l1).toNatClampNeg) ≤ l4 → (l3 = 0 ∨ l3 = 1) ∧ Q l3 M) ∧ (¬ (vi M (m + 5) (l1).toNatClampNeg) ≤ l4 → (¬ l3 = 0 → At G (d + 1) 205 5 [(0, .ref m), (1, .int l1), (2, .int l2), (3, .int (1 : Int32)), (4, .int (l4 + (1 : Int32)))] [] M (qI Q)) ∧ (l3 = 0 → CI G d 204 [.ref m, .int (((16 : Int32) * l1) + l4), .int l2] M (fun v2 M1 => RefAt M1 m ∧ ((v2 = 0 → At G (d + 1) 205 5 [(0, .ref m), (1, .int l1), (2, .int l2), (3, .int (0 : Int32)), (4, .int (l4 + (1 : Int32)))] [] M1 (qI Q)) ∧ (¬ v2 = 0 → At G (d + 1) 205 5 [(0, .ref m), (1, .int l1), (2, .int l2), (3, .int (1 : Int32)), (4, .int (l4 + (1 : Int32)))] [] M1 (qI Q)))))))) : At G (d + 1) 205 5 [(0, .ref m), (1, .int l1), (2, .int l2), (3, .int l3), (4, .int l4)] [] M (qI Q) := by
  refine vcc ok205 4 [] ?_
  refine And.intro R.1 ?_
  refine Or.inl ⟨_, (ra_r5 R), ?_⟩
  refine Or.inl ⟨(ra_k5 R), vp_cst (ra_l5 R) H.1, ?_⟩
  replace H := H.2
  refine And.intro (fun c => ?_) (fun c => ?_)
  · replace H := H.1 c
    exact ⟨fun _ => H.1, _, rfl, H.2⟩
  · replace H := H.2 c
    refine And.intro (fun c => ?_) (fun c => ?_)
    · replace H := H.1 c
      exact H
    · replace H := H.2 c
      refine And.intro (Nat.le_of_ble_eq_true rfl) ?_
      refine And.intro (Nat.le_of_ble_eq_true rfl) (And.intro R.1 ?_)
      refine Cl.mono H (fun r M1 h => ?_)
      obtain ⟨v2, rfl, H⟩ := h
      obtain ⟨R, H⟩ := H
      refine And.intro (fun c => ?_) (fun c => ?_)
      · replace H := H.1 c
        exact H
      · replace H := H.2 c
        exact H

theorem r_agree {G : GT} {d m : Nat} {M : Mem} (R : RefAt M m) {a1 : Int32} {Q : Int32 → Mem → Prop} (H : At G (d + 1) 206 4 [(0, .ref m), (1, .int a1), (2, .int (0 : Int32)), (3, .int (0 : Int32))] [] M (qI Q)) : CI G (d + 1) 206 [.ref m, .int a1] M Q := by
  refine Cl.ofM (Nat.le_of_ble_eq_true rfl) rfl ?_
  refine vcc ok206 0 [4] ?_
  exact H

theorem r_agree_4 {G : GT} {d m : Nat} {M : Mem} (R : RefAt M m) {l1 : Int32} {l2 : Int32} {l3 : Int32} {Q : Int32 → Mem → Prop} (H : vp_in (2 : Int32) 3 ∧ (((vi M (m + 1) ((2 : Int32)).toNatClampNeg) ≤ l3 → Q l2 M) ∧ (¬ (vi M (m + 1) ((2 : Int32)).toNatClampNeg) ≤ l3 → CI G d 205 [.ref m, .int l3, .int l1] M (fun v2 M1 => RefAt M1 m ∧ ((v2 = 0 → At G (d + 1) 206 4 [(0, .ref m), (1, .int l1), (2, .int (l2 + (0 : Int32))), (3, .int (l3 + (1 : Int32)))] [] M1 (qI Q)) ∧ (¬ v2 = 0 → At G (d + 1) 206 4 [(0, .ref m), (1, .int l1), (2, .int (l2 + (1 : Int32))), (3, .int (l3 + (1 : Int32)))] [] M1 (qI Q))))))) : At G (d + 1) 206 4 [(0, .ref m), (1, .int l1), (2, .int l2), (3, .int l3)] [] M (qI Q) := by
  refine vcc ok206 4 [] ?_
  refine And.intro R.1 ?_
  refine Or.inl ⟨_, (ra_r1 R), ?_⟩
  refine Or.inl ⟨(ra_k1 R), vp_cst (ra_l1 R) H.1, ?_⟩
  replace H := H.2
  refine And.intro (fun c => ?_) (fun c => ?_)
  · replace H := H.1 c
    exact ⟨fun h => absurd h (by decide), _, rfl, H⟩
  · replace H := H.2 c
    refine And.intro (Nat.le_of_ble_eq_true rfl) ?_
    refine And.intro (Nat.le_of_ble_eq_true rfl) (And.intro R.1 ?_)
    refine Cl.mono H (fun r M1 h => ?_)
    obtain ⟨v2, rfl, H⟩ := h
    obtain ⟨R, H⟩ := H
    refine And.intro (fun c => ?_) (fun c => ?_)
    · replace H := H.1 c
      exact H
    · replace H := H.2 c
      exact H

theorem r_mark {G : GT} {d m : Nat} {M : Mem} (R : RefAt M m) {a1 : Int32} {a2 : Int32} {a3 : Int32} {Q : Int32 → Mem → Prop} (H : CI G d 160 [.ref m, .int a1, .int a2] M (fun v2 M1 => RefAt M1 m ∧ ((¬ v2 = 0 → ((a3).toInt < 0 ∨ 5 < (a3).toInt → Q (-2 : Int32) M1) ∧ ((a3).toInt = 0 → vp_in (((16 : Int32) * a1) + a2) 64 ∧ (Q (vi M1 (m + 7) ((((16 : Int32) * a1) + a2)).toNatClampNeg) M1)) ∧ ((a3).toInt = 1 → vp_in (((16 : Int32) * a1) + a2) 64 ∧ (Q (vi M1 (m + 8) ((((16 : Int32) * a1) + a2)).toNatClampNeg) M1)) ∧ ((a3).toInt = 2 → vp_in (((16 : Int32) * a1) + a2) 64 ∧ (Q (vi M1 (m + 9) ((((16 : Int32) * a1) + a2)).toNatClampNeg) M1)) ∧ ((a3).toInt = 3 → vp_in (((16 : Int32) * a1) + a2) 64 ∧ (Q (vi M1 (m + 10) ((((16 : Int32) * a1) + a2)).toNatClampNeg) M1)) ∧ ((a3).toInt = 4 → vp_in (((16 : Int32) * a1) + a2) 64 ∧ (Q (vi M1 (m + 11) ((((16 : Int32) * a1) + a2)).toNatClampNeg) M1)) ∧ ((a3).toInt = 5 → CI G d 206 [.ref m, .int (((16 : Int32) * a1) + a2)] M1 (fun v4 M3 => RefAt M3 m ∧ (Q v4 M3))) ∧ True) ∧ (v2 = 0 → Q (-2 : Int32) M1)))) : CI G (d + 1) 207 [.ref m, .int a1, .int a2, .int a3] M Q := by
  refine Cl.ofM (Nat.le_of_ble_eq_true rfl) rfl ?_
  refine vcc ok207 0 [] ?_
  refine And.intro (Nat.le_of_ble_eq_true rfl) ?_
  refine And.intro (Nat.le_of_ble_eq_true rfl) (And.intro R.1 ?_)
  refine Cl.mono H (fun r M1 h => ?_)
  obtain ⟨v2, rfl, H⟩ := h
  obtain ⟨R, H⟩ := H
  refine And.intro (fun c => ?_) (fun c => ?_)
  · replace H := H.1 c
    refine And.intro (fun c => ?_) ?_
    · replace H := H.1 c
      exact ⟨fun h => absurd h (by decide), _, rfl, H⟩
    replace H := H.2
    refine And.intro (fun c => ?_) ?_
    · replace H := H.1 c
      refine And.intro R.1 ?_
      refine Or.inl ⟨_, (ra_r7 R), ?_⟩
      refine Or.inl ⟨(ra_k7 R), vp_cst (ra_l7 R) H.1, ?_⟩
      replace H := H.2
      exact ⟨fun h => absurd h (by decide), _, rfl, H⟩
    replace H := H.2
    refine And.intro (fun c => ?_) ?_
    · replace H := H.1 c
      refine And.intro R.1 ?_
      refine Or.inl ⟨_, (ra_r8 R), ?_⟩
      refine Or.inl ⟨(ra_k8 R), vp_cst (ra_l8 R) H.1, ?_⟩
      replace H := H.2
      exact ⟨fun h => absurd h (by decide), _, rfl, H⟩
    replace H := H.2
    refine And.intro (fun c => ?_) ?_
    · replace H := H.1 c
      refine And.intro R.1 ?_
      refine Or.inl ⟨_, (ra_r9 R), ?_⟩
      refine Or.inl ⟨(ra_k9 R), vp_cst (ra_l9 R) H.1, ?_⟩
      replace H := H.2
      exact ⟨fun h => absurd h (by decide), _, rfl, H⟩
    replace H := H.2
    refine And.intro (fun c => ?_) ?_
    · replace H := H.1 c
      refine And.intro R.1 ?_
      refine Or.inl ⟨_, (ra_r10 R), ?_⟩
      refine Or.inl ⟨(ra_k10 R), vp_cst (ra_l10 R) H.1, ?_⟩
      replace H := H.2
      exact ⟨fun h => absurd h (by decide), _, rfl, H⟩
    replace H := H.2
    refine And.intro (fun c => ?_) ?_
    · replace H := H.1 c
      refine And.intro R.1 ?_
      refine Or.inl ⟨_, (ra_r11 R), ?_⟩
      refine Or.inl ⟨(ra_k11 R), vp_cst (ra_l11 R) H.1, ?_⟩
      replace H := H.2
      exact ⟨fun h => absurd h (by decide), _, rfl, H⟩
    replace H := H.2
    refine And.intro (fun c => ?_) ?_
    · replace H := H.1 c
      refine And.intro (Nat.le_of_ble_eq_true rfl) ?_
      refine And.intro (Nat.le_of_ble_eq_true rfl) (And.intro R.1 ?_)
      refine Cl.mono H (fun r M3 h => ?_)
      obtain ⟨v4, rfl, H⟩ := h
      obtain ⟨R, H⟩ := H
      exact ⟨fun h => absurd h (by decide), _, rfl, H⟩
    replace H := H.2
    exact trivial
  · replace H := H.2 c
    exact ⟨fun h => absurd h (by decide), _, rfl, H⟩

theorem r_put {G : GT} {d m : Nat} {M : Mem} (R : RefAt M m) {a1 : Int32} {a2 : Int32} {a3 : Int32} {Q : Int32 → Mem → Prop} (H : CI G d 160 [.ref m, .int a1, .int a2] M (fun v2 M1 => RefAt M1 m ∧ ((v2 = 0 → Q (-1 : Int32) M1) ∧ (¬ v2 = 0 → vp_in (((16 : Int32) * a1) + a2) 64 ∧ ((¬ (vi M1 (m + 7) ((((16 : Int32) * a1) + a2)).toNatClampNeg) = 0 → Q (-1 : Int32) M1) ∧ ((vi M1 (m + 7) ((((16 : Int32) * a1) + a2)).toNatClampNeg) = 0 → vp_in (((16 : Int32) * a1) + a2) 64 ∧ (CI G d 155 [.long ((a3).toInt64), .long (0 : Int64), .long ((((vi M1 (m + 11) ((((16 : Int32) * a1) + a2)).toNatClampNeg) - (1 : Int32))).toInt64)] M1 (fun v4 M3 => RefAt M3 m ∧ ((v4 = 0 → Q (-1 : Int32) M3) ∧ (¬ v4 = 0 → vp_in (((20 : Int32) * (((16 : Int32) * a1) + a2)) + a3) 1280 ∧ (Q (vi M3 (m + 12) ((((20 : Int32) * (((16 : Int32) * a1) + a2)) + a3)).toNatClampNeg) M3))))))))))) : CI G (d + 1) 208 [.ref m, .int a1, .int a2, .int a3] M Q := by
  refine Cl.ofM (Nat.le_of_ble_eq_true rfl) rfl ?_
  refine vcc ok208 0 [] ?_
  refine And.intro (Nat.le_of_ble_eq_true rfl) ?_
  refine And.intro (Nat.le_of_ble_eq_true rfl) (And.intro R.1 ?_)
  refine Cl.mono H (fun r M1 h => ?_)
  obtain ⟨v2, rfl, H⟩ := h
  obtain ⟨R, H⟩ := H
  refine And.intro (fun c => ?_) (fun c => ?_)
  · replace H := H.1 c
    exact ⟨fun h => absurd h (by decide), _, rfl, H⟩
  · replace H := H.2 c
    refine And.intro R.1 ?_
    refine Or.inl ⟨_, (ra_r7 R), ?_⟩
    refine Or.inl ⟨(ra_k7 R), vp_cst (ra_l7 R) H.1, ?_⟩
    replace H := H.2
    refine And.intro (fun c => ?_) (fun c => ?_)
    · replace H := H.1 c
      exact ⟨fun h => absurd h (by decide), _, rfl, H⟩
    · replace H := H.2 c
      refine And.intro R.1 ?_
      refine Or.inl ⟨_, (ra_r11 R), ?_⟩
      refine Or.inl ⟨(ra_k11 R), vp_cst (ra_l11 R) H.1, ?_⟩
      replace H := H.2
      refine And.intro (Nat.le_of_ble_eq_true rfl) ?_
      refine And.intro (Nat.le_of_ble_eq_true rfl) ?_
      refine Cl.mono H (fun r M3 h => ?_)
      obtain ⟨v4, rfl, H⟩ := h
      obtain ⟨R, H⟩ := H
      refine And.intro (fun c => ?_) (fun c => ?_)
      · replace H := H.1 c
        exact ⟨fun h => absurd h (by decide), _, rfl, H⟩
      · replace H := H.2 c
        refine And.intro R.1 ?_
        refine Or.inl ⟨_, (ra_r12 R), ?_⟩
        refine Or.inl ⟨(ra_k12 R), vp_cst (ra_l12 R) H.1, ?_⟩
        replace H := H.2
        exact ⟨fun h => absurd h (by decide), _, rfl, H⟩

theorem r_areCommon {G : GT} {d m : Nat} {M : Mem} (R : RefAt M m) {a1 : Int32} {a2 : Int32} {Q : Int32 → Mem → Prop} (H : vp_in a1 64 ∧ (vp_in a2 64 ∧ (((vi M (m + 9) (a2).toNatClampNeg) ≤ (vi M (m + 8) (a1).toNatClampNeg) → ((0 : Int32) = 0 ∨ (0 : Int32) = 1) ∧ Q (0 : Int32) M) ∧ (¬ (vi M (m + 9) (a2).toNatClampNeg) ≤ (vi M (m + 8) (a1).toNatClampNeg) → vp_in a2 64 ∧ (vp_in a1 64 ∧ (((vi M (m + 9) (a1).toNatClampNeg) ≤ (vi M (m + 8) (a2).toNatClampNeg) → ((0 : Int32) = 0 ∨ (0 : Int32) = 1) ∧ Q (0 : Int32) M) ∧ (¬ (vi M (m + 9) (a1).toNatClampNeg) ≤ (vi M (m + 8) (a2).toNatClampNeg) → ((1 : Int32) = 0 ∨ (1 : Int32) = 1) ∧ Q (1 : Int32) M))))))) : CI G (d + 1) 209 [.ref m, .int a1, .int a2] M Q := by
  refine Cl.ofM (Nat.le_of_ble_eq_true rfl) rfl ?_
  refine vcc ok209 0 [] ?_
  refine And.intro R.1 ?_
  refine Or.inl ⟨_, (ra_r8 R), ?_⟩
  refine Or.inl ⟨(ra_k8 R), vp_cst (ra_l8 R) H.1, ?_⟩
  replace H := H.2
  refine And.intro R.1 ?_
  refine Or.inl ⟨_, (ra_r9 R), ?_⟩
  refine Or.inl ⟨(ra_k9 R), vp_cst (ra_l9 R) H.1, ?_⟩
  replace H := H.2
  refine And.intro (fun c => ?_) (fun c => ?_)
  · replace H := H.1 c
    exact ⟨fun _ => H.1, _, rfl, H.2⟩
  · replace H := H.2 c
    refine And.intro R.1 ?_
    refine Or.inl ⟨_, (ra_r8 R), ?_⟩
    refine Or.inl ⟨(ra_k8 R), vp_cst (ra_l8 R) H.1, ?_⟩
    replace H := H.2
    refine And.intro R.1 ?_
    refine Or.inl ⟨_, (ra_r9 R), ?_⟩
    refine Or.inl ⟨(ra_k9 R), vp_cst (ra_l9 R) H.1, ?_⟩
    replace H := H.2
    refine And.intro (fun c => ?_) (fun c => ?_)
    · replace H := H.1 c
      exact ⟨fun _ => H.1, _, rfl, H.2⟩
    · replace H := H.2 c
      exact ⟨fun _ => H.1, _, rfl, H.2⟩

theorem r_least {G : GT} {d m : Nat} {M : Mem} (R : RefAt M m) {a1 : Int32} {Q : Int32 → Mem → Prop} (H : vp_in a1 64 ∧ (vp_in a1 64 ∧ (((vi M (m + 8) (a1).toNatClampNeg) ≤ (vi M (m + 10) (a1).toNatClampNeg) → vp_in a1 64 ∧ (Q (vi M (m + 8) (a1).toNatClampNeg) M)) ∧ (¬ (vi M (m + 8) (a1).toNatClampNeg) ≤ (vi M (m + 10) (a1).toNatClampNeg) → vp_in a1 64 ∧ (Q (vi M (m + 10) (a1).toNatClampNeg) M))))) : CI G (d + 1) 210 [.ref m, .int a1] M Q := by
  refine Cl.ofM (Nat.le_of_ble_eq_true rfl) rfl ?_
  refine vcc ok210 0 [] ?_
  refine And.intro R.1 ?_
  refine Or.inl ⟨_, (ra_r10 R), ?_⟩
  refine Or.inl ⟨(ra_k10 R), vp_cst (ra_l10 R) H.1, ?_⟩
  replace H := H.2
  refine And.intro R.1 ?_
  refine Or.inl ⟨_, (ra_r8 R), ?_⟩
  refine Or.inl ⟨(ra_k8 R), vp_cst (ra_l8 R) H.1, ?_⟩
  replace H := H.2
  refine And.intro (fun c => ?_) (fun c => ?_)
  · replace H := H.1 c
    refine And.intro R.1 ?_
    refine Or.inl ⟨_, (ra_r8 R), ?_⟩
    refine Or.inl ⟨(ra_k8 R), vp_cst (ra_l8 R) H.1, ?_⟩
    replace H := H.2
    exact ⟨fun h => absurd h (by decide), _, rfl, H⟩
  · replace H := H.2 c
    refine And.intro R.1 ?_
    refine Or.inl ⟨_, (ra_r10 R), ?_⟩
    refine Or.inl ⟨(ra_k10 R), vp_cst (ra_l10 R) H.1, ?_⟩
    replace H := H.2
    exact ⟨fun h => absurd h (by decide), _, rfl, H⟩
