/-! THE REFERENCE, block by block: by program (wip/tools/refall.py) -/
theorem r_in {G : GT} {d : Nat} {M : Mem} {a1 : Int64} {a2 : Int64} {a3 : Int64} {Q : Int32 → Mem → Prop} (H : ((lg_cmp a1 a2) < 0 → ((0 : Int32) = 0 ∨ (0 : Int32) = 1) ∧ Q (0 : Int32) M) ∧ (¬ (lg_cmp a1 a2) < 0 → (0 < (lg_cmp a1 a3) → ((0 : Int32) = 0 ∨ (0 : Int32) = 1) ∧ Q (0 : Int32) M) ∧ (¬ 0 < (lg_cmp a1 a3) → ((1 : Int32) = 0 ∨ (1 : Int32) = 1) ∧ Q (1 : Int32) M))) : CI G (d + 1) 155 [.long a1, .long a2, .long a3] M Q := by
  refine Cl.ofM (Nat.le_of_ble_eq_true rfl) rfl ?_
  refine vcc ok155 0 [] ?_
  refine And.intro (fun c => ?_) (fun c => ?_)
  · replace H := H.1 c
    exact ⟨fun _ => H.1, _, rfl, H.2⟩
  · replace H := H.2 c
    refine And.intro (fun c => ?_) (fun c => ?_)
    · replace H := H.1 c
      exact ⟨fun _ => H.1, _, rfl, H.2⟩
    · replace H := H.2 c
      exact ⟨fun _ => H.1, _, rfl, H.2⟩

theorem r_has {G : GT} {d : Nat} {M : Mem} {a1 : Int32} {a2 : Int32} {Q : Int32 → Mem → Prop} (H : (¬ ((a1 >>> (a2 &&& 31)) &&& (1 : Int32)) = (1 : Int32) → ((0 : Int32) = 0 ∨ (0 : Int32) = 1) ∧ Q (0 : Int32) M) ∧ (((a1 >>> (a2 &&& 31)) &&& (1 : Int32)) = (1 : Int32) → ((1 : Int32) = 0 ∨ (1 : Int32) = 1) ∧ Q (1 : Int32) M)) : CI G (d + 1) 156 [.int a1, .int a2] M Q := by
  refine Cl.ofM (Nat.le_of_ble_eq_true rfl) rfl ?_
  refine vcc ok156 0 [] ?_
  refine And.intro (fun c => ?_) (fun c => ?_)
  · replace H := H.1 c
    exact ⟨fun _ => H.1, _, rfl, H.2⟩
  · replace H := H.2 c
    exact ⟨fun _ => H.1, _, rfl, H.2⟩

theorem r_bits {G : GT} {d : Nat} {M : Mem} {a1 : Int32} {Q : Int32 → Mem → Prop} (H : At G (d + 1) 157 4 [(1, .int (0 : Int32)), (2, .int a1)] [] M (qI Q)) : CI G (d + 1) 157 [.int a1] M Q := by
  refine Cl.ofM (Nat.le_of_ble_eq_true rfl) rfl ?_
  refine vcc ok157 0 [4] ?_
  exact At.keep [1, 2] H

theorem r_bits_4 {G : GT} {d : Nat} {M : Mem} {l1 : Int32} {l2 : Int32} {Q : Int32 → Mem → Prop} (H : (l2 = 0 → Q l1 M) ∧ (¬ l2 = 0 → At G (d + 1) 157 4 [(1, .int (l1 + (1 : Int32))), (2, .int (l2 &&& (l2 - (1 : Int32))))] [] M (qI Q))) : At G (d + 1) 157 4 [(1, .int l1), (2, .int l2)] [] M (qI Q) := by
  refine vcc ok157 4 [] ?_
  refine And.intro (fun c => ?_) (fun c => ?_)
  · replace H := H.1 c
    exact ⟨fun h => absurd h (by decide), _, rfl, H⟩
  · replace H := H.2 c
    exact H

theorem r_divisor {G : GT} {d : Nat} {M : Mem} {a1 : Int32} {a2 : Int32} {Q : Int32 → Mem → Prop} (H : At G (d + 1) 158 4 [(2, .int a1), (3, .int a2)] [] M (qI Q)) : CI G (d + 1) 158 [.int a1, .int a2] M Q := by
  refine Cl.ofM (Nat.le_of_ble_eq_true rfl) rfl ?_
  refine vcc ok158 0 [4] ?_
  exact At.keep [2, 3] H

theorem r_divisor_4 {G : GT} {d : Nat} {M : Mem} {l2 : Int32} {l3 : Int32} {Q : Int32 → Mem → Prop} (H : (l2 = 0 → Q l3 M) ∧ (¬ l2 = 0 → ¬ l2 = 0 ∧ (At G (d + 1) 158 4 [(2, .int (l3 - l3 / l2 * l2)), (3, .int l2)] [] M (qI Q)))) : At G (d + 1) 158 4 [(2, .int l2), (3, .int l3)] [] M (qI Q) := by
  refine vcc ok158 4 [] ?_
  refine And.intro (fun c => ?_) (fun c => ?_)
  · replace H := H.1 c
    exact ⟨fun h => absurd h (by decide), _, rfl, H⟩
  · replace H := H.2 c
    refine And.intro H.1 ?_
    replace H := H.2
    exact At.keep [2, 3] H

theorem r_isHand {G : GT} {d m : Nat} {M : Mem} (R : RefAt M m) {a1 : Int32} {Q : Int32 → Mem → Prop} (H : vp_in (2 : Int32) 3 ∧ (CI G d 155 [.long ((a1).toInt64), .long (0 : Int64), .long ((((vi M (m + 1) ((2 : Int32)).toNatClampNeg) - (1 : Int32))).toInt64)] M (fun v2 M1 => RefAt M1 m ∧ ((v2 = 0 ∨ v2 = 1) ∧ Q v2 M1)))) : CI G (d + 1) 159 [.ref m, .int a1] M Q := by
  refine Cl.ofM (Nat.le_of_ble_eq_true rfl) rfl ?_
  refine vcc ok159 0 [] ?_
  refine And.intro R.1 ?_
  refine Or.inl ⟨_, (ra_r1 R), ?_⟩
  refine Or.inl ⟨(ra_k1 R), vp_cst (ra_l1 R) H.1, ?_⟩
  replace H := H.2
  refine And.intro (Nat.le_of_ble_eq_true rfl) ?_
  refine And.intro (Nat.le_of_ble_eq_true rfl) ?_
  refine Cl.mono H (fun r M1 h => ?_)
  obtain ⟨v2, rfl, H⟩ := h
  obtain ⟨R, H⟩ := H
  exact ⟨fun _ => H.1, _, rfl, H.2⟩

theorem r_isMark {G : GT} {d m : Nat} {M : Mem} (R : RefAt M m) {a1 : Int32} {a2 : Int32} {Q : Int32 → Mem → Prop} (H : CI G d 159 [.ref m, .int a1] M (fun v2 M1 => RefAt M1 m ∧ ((v2 = 0 → ((0 : Int32) = 0 ∨ (0 : Int32) = 1) ∧ Q (0 : Int32) M1) ∧ (¬ v2 = 0 → vp_in a1 4 ∧ (CI G d 155 [.long ((a2).toInt64), .long (0 : Int64), .long ((((vi M1 (m + 5) (a1).toNatClampNeg) - (1 : Int32))).toInt64)] M1 (fun v4 M3 => RefAt M3 m ∧ ((v4 = 0 → ((0 : Int32) = 0 ∨ (0 : Int32) = 1) ∧ Q (0 : Int32) M3) ∧ (¬ v4 = 0 → ((1 : Int32) = 0 ∨ (1 : Int32) = 1) ∧ Q (1 : Int32) M3)))))))) : CI G (d + 1) 160 [.ref m, .int a1, .int a2] M Q := by
  refine Cl.ofM (Nat.le_of_ble_eq_true rfl) rfl ?_
  refine vcc ok160 0 [] ?_
  refine And.intro (Nat.le_of_ble_eq_true rfl) ?_
  refine And.intro (Nat.le_of_ble_eq_true rfl) (And.intro R.1 ?_)
  refine Cl.mono H (fun r M1 h => ?_)
  obtain ⟨v2, rfl, H⟩ := h
  obtain ⟨R, H⟩ := H
  refine And.intro (fun c => ?_) (fun c => ?_)
  · replace H := H.1 c
    exact ⟨fun _ => H.1, _, rfl, H.2⟩
  · replace H := H.2 c
    refine And.intro R.1 ?_
    refine Or.inl ⟨_, (ra_r5 R), ?_⟩
    refine Or.inl ⟨(ra_k5 R), vp_cst (ra_l5 R) H.1, ?_⟩
    replace H := H.2
    refine And.intro (Nat.le_of_ble_eq_true rfl) ?_
    refine And.intro (Nat.le_of_ble_eq_true rfl) ?_
    refine Cl.mono H (fun r M3 h => ?_)
    obtain ⟨v4, rfl, H⟩ := h
    obtain ⟨R, H⟩ := H
    refine And.intro (fun c => ?_) (fun c => ?_)
    · replace H := H.1 c
      exact ⟨fun _ => H.1, _, rfl, H.2⟩
    · replace H := H.2 c
      exact ⟨fun _ => H.1, _, rfl, H.2⟩

theorem r_isThere {G : GT} {d m : Nat} {M : Mem} (R : RefAt M m) {a1 : Int32} {Q : Int32 → Mem → Prop} (H : ¬ (16 : Int32) = 0 ∧ (¬ (16 : Int32) = 0 ∧ (CI G d 160 [.ref m, .int (a1 / (16 : Int32)), .int (a1 - a1 / (16 : Int32) * (16 : Int32))] M (fun v2 M1 => RefAt M1 m ∧ ((v2 = 0 ∨ v2 = 1) ∧ Q v2 M1))))) : CI G (d + 1) 161 [.ref m, .int a1] M Q := by
  refine Cl.ofM (Nat.le_of_ble_eq_true rfl) rfl ?_
  refine vcc ok161 0 [] ?_
  refine And.intro H.1 ?_
  replace H := H.2
  refine And.intro H.1 ?_
  replace H := H.2
  refine And.intro (Nat.le_of_ble_eq_true rfl) ?_
  refine And.intro (Nat.le_of_ble_eq_true rfl) (And.intro R.1 ?_)
  refine Cl.mono H (fun r M1 h => ?_)
  obtain ⟨v2, rfl, H⟩ := h
  obtain ⟨R, H⟩ := H
  exact ⟨fun _ => H.1, _, rfl, H.2⟩

theorem r_hand {G : GT} {d m : Nat} {M : Mem} (R : RefAt M m) {a1 : Int32} {Q : Int32 → Mem → Prop} (H : vp_in (2 : Int32) 3 ∧ (((vi M (m + 1) ((2 : Int32)).toNatClampNeg) = (4 : Int32) → Q (-1 : Int32) M) ∧ (¬ (vi M (m + 1) ((2 : Int32)).toNatClampNeg) = (4 : Int32) → CI G d 155 [.long ((a1).toInt64), .long (0 : Int64), .long (9 : Int64)] M (fun v2 M1 => RefAt M1 m ∧ ((¬ v2 = 0 → vp_in (vi M (m + 1) ((2 : Int32)).toNatClampNeg) 4 ∧ (∀ M3, M3 = seti M1 (m + 4) ((vi M (m + 1) ((2 : Int32)).toNatClampNeg)).toNatClampNeg a1 → vp_in (vi M (m + 1) ((2 : Int32)).toNatClampNeg) 4 ∧ (∀ M4, M4 = seti M3 (m + 5) ((vi M (m + 1) ((2 : Int32)).toNatClampNeg)).toNatClampNeg (0 : Int32) → vp_in (2 : Int32) 3 ∧ (vp_in (2 : Int32) 3 ∧ (∀ M5, M5 = seti M4 (m + 1) ((2 : Int32)).toNatClampNeg ((vi M4 (m + 1) ((2 : Int32)).toNatClampNeg) + (1 : Int32)) → Q (vi M (m + 1) ((2 : Int32)).toNatClampNeg) M5))))) ∧ (v2 = 0 → Q (-1 : Int32) M1)))))) : CI G (d + 1) 162 [.ref m, .int a1] M Q := by
  refine Cl.ofM (Nat.le_of_ble_eq_true rfl) rfl ?_
  refine vcc ok162 0 [] ?_
  refine And.intro R.1 ?_
  refine Or.inl ⟨_, (ra_r1 R), ?_⟩
  refine Or.inl ⟨(ra_k1 R), vp_cst (ra_l1 R) H.1, ?_⟩
  replace H := H.2
  refine And.intro (fun c => ?_) (fun c => ?_)
  · replace H := H.1 c
    exact ⟨fun h => absurd h (by decide), _, rfl, H⟩
  · replace H := H.2 c
    refine And.intro (Nat.le_of_ble_eq_true rfl) ?_
    refine And.intro (Nat.le_of_ble_eq_true rfl) ?_
    refine Cl.mono H (fun r M1 h => ?_)
    obtain ⟨v2, rfl, H⟩ := h
    obtain ⟨R, H⟩ := H
    refine And.intro (fun c => ?_) (fun c => ?_)
    · replace H := H.1 c
      refine And.intro R.1 ?_
      refine Or.inl ⟨_, (ra_r4 R), ?_⟩
      refine ⟨(ra_k4 R), vp_cst (ra_l4 R) H.1, ?_⟩
      replace H := H.2
      replace H := H _ rfl
      refine And.intro R.1 ?_
      refine Or.inl ⟨_, (ra_r5 R), ?_⟩
      refine ⟨(ra_k5 R), vp_cst (ra_l5 R) H.1, ?_⟩
      replace H := H.2
      replace H := H _ rfl
      refine And.intro R.1 ?_
      refine Or.inl ⟨_, (ra_r1 R), ?_⟩
      refine Or.inl ⟨(ra_k1 R), vp_cst (ra_l1 R) H.1, ?_⟩
      replace H := H.2
      refine ⟨(ra_k1 R), vp_cst (ra_l1 R) H.1, ?_⟩
      replace H := H.2
      replace H := H _ rfl
      exact ⟨fun h => absurd h (by decide), _, rfl, H⟩
    · replace H := H.2 c
      exact ⟨fun h => absurd h (by decide), _, rfl, H⟩

theorem r_cost {G : GT} {d m : Nat} {M : Mem} (R : RefAt M m) {a1 : Int32} {a2 : Int32} {Q : Int32 → Mem → Prop} (H : CI G d 155 [.long ((a1).toInt64), .long (0 : Int64), .long (6 : Int64)] M (fun v2 M1 => RefAt M1 m ∧ ((v2 = 0 → Q (-1 : Int32) M1) ∧ (¬ v2 = 0 → CI G d 155 [.long ((a2).toInt64), .long (0 : Int64), .long (99 : Int64)] M1 (fun v4 M3 => RefAt M3 m ∧ ((¬ v4 = 0 → vp_in a1 7 ∧ (vp_in a1 7 ∧ (∀ M5, M5 = seti M3 (m + 6) (a1).toNatClampNeg a2 → Q (vi M3 (m + 6) (a1).toNatClampNeg) M5))) ∧ (v4 = 0 → Q (-1 : Int32) M3))))))) : CI G (d + 1) 163 [.ref m, .int a1, .int a2] M Q := by
  refine Cl.ofM (Nat.le_of_ble_eq_true rfl) rfl ?_
  refine vcc ok163 0 [] ?_
  refine And.intro (Nat.le_of_ble_eq_true rfl) ?_
  refine And.intro (Nat.le_of_ble_eq_true rfl) ?_
  refine Cl.mono H (fun r M1 h => ?_)
  obtain ⟨v2, rfl, H⟩ := h
  obtain ⟨R, H⟩ := H
  refine And.intro (fun c => ?_) (fun c => ?_)
  · replace H := H.1 c
    exact ⟨fun h => absurd h (by decide), _, rfl, H⟩
  · replace H := H.2 c
    refine And.intro (Nat.le_of_ble_eq_true rfl) ?_
    refine And.intro (Nat.le_of_ble_eq_true rfl) ?_
    refine Cl.mono H (fun r M3 h => ?_)
    obtain ⟨v4, rfl, H⟩ := h
    obtain ⟨R, H⟩ := H
    refine And.intro (fun c => ?_) (fun c => ?_)
    · replace H := H.1 c
      refine And.intro R.1 ?_
      refine Or.inl ⟨_, (ra_r6 R), ?_⟩
      refine Or.inl ⟨(ra_k6 R), vp_cst (ra_l6 R) H.1, ?_⟩
      replace H := H.2
      refine And.intro R.1 ?_
      refine Or.inl ⟨_, (ra_r6 R), ?_⟩
      refine ⟨(ra_k6 R), vp_cst (ra_l6 R) H.1, ?_⟩
      replace H := H.2
      replace H := H _ rfl
      exact ⟨fun h => absurd h (by decide), _, rfl, H⟩
    · replace H := H.2 c
      exact ⟨fun h => absurd h (by decide), _, rfl, H⟩

theorem r_feed {G : GT} {d m : Nat} {M : Mem} (R : RefAt M m) {a1 : Int32} {a2 : Int32} {a3 : Int32} {a4 : Int32} {a5 : Int32} {Q : Int32 → Mem → Prop} (H : (((vi M m 13) + (20 : Int32)) ≤ (400 : Int32) → CV G d 165 [.ref m, .int a1] M (fun M1 => RefAt M1 m ∧ (CV G d 165 [.ref m, .int a2] M1 (fun M2 => RefAt M2 m ∧ (CV G d 165 [.ref m, .int a3] M2 (fun M3 => RefAt M3 m ∧ (CV G d 165 [.ref m, .int a4] M3 (fun M4 => RefAt M4 m ∧ (CV G d 165 [.ref m, .int a5] M4 (fun M5 => RefAt M5 m ∧ (Q (vi M5 m 13) M5))))))))))) ∧ (¬ ((vi M m 13) + (20 : Int32)) ≤ (400 : Int32) → Q (-1 : Int32) M)) : CI G (d + 1) 164 [.ref m, .int a1, .int a2, .int a3, .int a4, .int a5] M Q := by
  refine Cl.ofM (Nat.le_of_ble_eq_true rfl) rfl ?_
  refine vcc ok164 0 [] ?_
  refine And.intro R.1 ?_
  refine And.intro (fun c => ?_) (fun c => ?_)
  · replace H := H.1 c
    refine And.intro (Nat.le_of_ble_eq_true rfl) ?_
    refine And.intro (Nat.le_of_ble_eq_true rfl) (And.intro R.1 ?_)
    refine Cl.mono H (fun r M1 h => ?_)
    obtain ⟨rfl, H⟩ := h
    obtain ⟨R, H⟩ := H
    refine And.intro (Nat.le_of_ble_eq_true rfl) ?_
    refine And.intro (Nat.le_of_ble_eq_true rfl) (And.intro R.1 ?_)
    refine Cl.mono H (fun r M2 h => ?_)
    obtain ⟨rfl, H⟩ := h
    obtain ⟨R, H⟩ := H
    refine And.intro (Nat.le_of_ble_eq_true rfl) ?_
    refine And.intro (Nat.le_of_ble_eq_true rfl) (And.intro R.1 ?_)
    refine Cl.mono H (fun r M3 h => ?_)
    obtain ⟨rfl, H⟩ := h
    obtain ⟨R, H⟩ := H
    refine And.intro (Nat.le_of_ble_eq_true rfl) ?_
    refine And.intro (Nat.le_of_ble_eq_true rfl) (And.intro R.1 ?_)
    refine Cl.mono H (fun r M4 h => ?_)
    obtain ⟨rfl, H⟩ := h
    obtain ⟨R, H⟩ := H
    refine And.intro (Nat.le_of_ble_eq_true rfl) ?_
    refine And.intro (Nat.le_of_ble_eq_true rfl) (And.intro R.1 ?_)
    refine Cl.mono H (fun r M5 h => ?_)
    obtain ⟨rfl, H⟩ := h
    obtain ⟨R, H⟩ := H
    refine And.intro R.1 ?_
    exact ⟨fun h => absurd h (by decide), _, rfl, H⟩
  · replace H := H.2 c
    exact ⟨fun h => absurd h (by decide), _, rfl, H⟩

theorem r_put4 {G : GT} {d m : Nat} {M : Mem} (R : RefAt M m) {a1 : Int32} {Q : Mem → Prop} (H : At G (d + 1) 165 3 [(0, .ref m), (1, .int a1), (2, .int (24 : Int32))] [] M (qV Q)) : CV G (d + 1) 165 [.ref m, .int a1] M Q := by
  refine Cl.ofM (Nat.le_of_ble_eq_true rfl) rfl ?_
  refine vcc ok165 0 [3] ?_
  exact H

theorem r_put4_3 {G : GT} {d m : Nat} {M : Mem} (R : RefAt M m) {l1 : Int32} {l2 : Int32} {Q : Mem → Prop} (H : (l2 < 0 → Q M) ∧ (¬ l2 < 0 → vp_in (vi M m 13) 400 ∧ (∀ M1, M1 = seti M (m + 13) ((vi M m 13)).toNatClampNeg (((l1 >>> (l2 &&& 31))).toInt8.toInt32).toInt8.toInt32 → ∀ M2, M2 = seti M1 m 13 ((vi M1 m 13) + (1 : Int32)) → At G (d + 1) 165 3 [(0, .ref m), (1, .int l1), (2, .int (l2 + (-8 : Int32)))] [] M2 (qV Q)))) : At G (d + 1) 165 3 [(0, .ref m), (1, .int l1), (2, .int l2)] [] M (qV Q) := by
  refine vcc ok165 2 [] ?_
  refine And.intro (fun c => ?_) (fun c => ?_)
  · replace H := H.1 c
    exact ⟨rfl, H⟩
  · replace H := H.2 c
    refine And.intro R.1 ?_
    refine Or.inl ⟨_, (ra_r23 R), ?_⟩
    refine And.intro R.1 ?_
    refine Or.inl ⟨(ra_k23 R), vp_cst (ra_l23 R) H.1, ?_⟩
    replace H := H.2
    replace H := H _ rfl
    refine And.intro R.1 ?_
    refine And.intro R.1 ?_
    refine And.intro (Or.inl rfl) (And.intro (fun h => absurd h (by decide)) ?_)
    replace H := H _ rfl
    exact H

theorem r_end {G : GT} {d m : Nat} {M : Mem} (R : RefAt M m) {a1 : Int32} {Q : Int32 → Mem → Prop} (H : (a1 < 0 → Q (-1 : Int32) M) ∧ (¬ a1 < 0 → (a1 ≤ (vi M m 13) → ∀ M1, M1 = seti M m 13 a1 → Q a1 M1) ∧ (¬ a1 ≤ (vi M m 13) → Q (-1 : Int32) M))) : CI G (d + 1) 166 [.ref m, .int a1] M Q := by
  refine Cl.ofM (Nat.le_of_ble_eq_true rfl) rfl ?_
  refine vcc ok166 0 [] ?_
  refine And.intro (fun c => ?_) (fun c => ?_)
  · replace H := H.1 c
    exact ⟨fun h => absurd h (by decide), _, rfl, H⟩
  · replace H := H.2 c
    refine And.intro R.1 ?_
    refine And.intro (fun c => ?_) (fun c => ?_)
    · replace H := H.1 c
      refine And.intro R.1 ?_
      refine And.intro (Or.inl rfl) (And.intro (fun h => absurd h (by decide)) ?_)
      replace H := H _ rfl
      exact ⟨fun h => absurd h (by decide), _, rfl, H⟩
    · replace H := H.2 c
      exact ⟨fun h => absurd h (by decide), _, rfl, H⟩

theorem r_isByte {G : GT} {d : Nat} {M : Mem} {a1 : Int32} {Q : Int32 → Mem → Prop} (H : CI G d 155 [.long ((a1).toInt64), .long (32 : Int64), .long (126 : Int64)] M (fun v2 M1 => (v2 = 0 ∨ v2 = 1) ∧ Q v2 M1)) : CI G (d + 1) 167 [.int a1] M Q := by
  refine Cl.ofM (Nat.le_of_ble_eq_true rfl) rfl ?_
  refine vcc ok167 0 [] ?_
  refine And.intro (Nat.le_of_ble_eq_true rfl) ?_
  refine And.intro (Nat.le_of_ble_eq_true rfl) ?_
  refine Cl.mono H (fun r M1 h => ?_)
  obtain ⟨v2, rfl, H⟩ := h
  exact ⟨fun _ => H.1, _, rfl, H.2⟩

theorem r_wrongByte {G : GT} {d m : Nat} {M : Mem} (R : RefAt M m)  {Q : Int32 → Mem → Prop} (H : At G (d + 1) 168 2 [(0, .ref m), (1, .int (0 : Int32))] [] M (qI Q)) : CI G (d + 1) 168 [.ref m] M Q := by
  refine Cl.ofM (Nat.le_of_ble_eq_true rfl) rfl ?_
  refine vcc ok168 0 [2] ?_
  exact H

theorem r_wrongByte_2 {G : GT} {d m : Nat} {M : Mem} (R : RefAt M m) {l1 : Int32} {Q : Int32 → Mem → Prop} (H : ((vi M m 13) ≤ l1 → Q (-1 : Int32) M) ∧ (¬ (vi M m 13) ≤ l1 → (l1 = (200 : Int32) → Q l1 M) ∧ (¬ l1 = (200 : Int32) → vp_in l1 400 ∧ (CI G d 167 [.int ((vi M (m + 13) (l1).toNatClampNeg) &&& (255 : Int32))] M (fun v2 M1 => RefAt M1 m ∧ ((¬ v2 = 0 → At G (d + 1) 168 2 [(0, .ref m), (1, .int (l1 + (1 : Int32)))] [] M1 (qI Q)) ∧ (v2 = 0 → Q l1 M1))))))) : At G (d + 1) 168 2 [(0, .ref m), (1, .int l1)] [] M (qI Q) := by
  refine vcc ok168 2 [] ?_
  refine And.intro R.1 ?_
  refine And.intro (fun c => ?_) (fun c => ?_)
  · replace H := H.1 c
    exact ⟨fun h => absurd h (by decide), _, rfl, H⟩
  · replace H := H.2 c
    refine And.intro (fun c => ?_) (fun c => ?_)
    · replace H := H.1 c
      exact ⟨fun h => absurd h (by decide), _, rfl, H⟩
    · replace H := H.2 c
      refine And.intro R.1 ?_
      refine Or.inl ⟨_, (ra_r23 R), ?_⟩
      refine ⟨(Or.inl (ra_k23 R)), vp_cst (ra_l23 R) H.1, ?_⟩
      replace H := H.2
      refine And.intro (Nat.le_of_ble_eq_true rfl) ?_
      refine And.intro (Nat.le_of_ble_eq_true rfl) ?_
      refine Cl.mono H (fun r M1 h => ?_)
      obtain ⟨v2, rfl, H⟩ := h
      obtain ⟨R, H⟩ := H
      refine And.intro (fun c => ?_) (fun c => ?_)
      · replace H := H.1 c
        exact H
      · replace H := H.2 c
        exact ⟨fun h => absurd h (by decide), _, rfl, H⟩

theorem r_galley {G : GT} {d m : Nat} {M : Mem} (R : RefAt M m)  {Q : Int32 → Mem → Prop} (H : CI G d 168 [.ref m] M (fun v2 M1 => RefAt M1 m ∧ (∀ M3, M3 = seti M1 m 13 (0 : Int32) → (v2 = (-1 : Int32) → At G (d + 1) 169 27 [(0, .ref m), (2, .int (vi M1 m 13)), (3, .int (0 : Int32))] [] M3 (qI Q)) ∧ (¬ v2 = (-1 : Int32) → Q ((-2 : Int32) - v2) M3)))) : CI G (d + 1) 169 [.ref m] M Q := by
  refine Cl.ofM (Nat.le_of_ble_eq_true rfl) rfl ?_
  refine vcc ok169 0 [27, 59] ?_
  refine And.intro (Nat.le_of_ble_eq_true rfl) ?_
  refine And.intro (Nat.le_of_ble_eq_true rfl) (And.intro R.1 ?_)
  refine Cl.mono H (fun r M1 h => ?_)
  obtain ⟨v2, rfl, H⟩ := h
  obtain ⟨R, H⟩ := H
  refine And.intro R.1 ?_
  refine And.intro R.1 ?_
  refine And.intro (Or.inl rfl) (And.intro (fun h => absurd h (by decide)) ?_)
  replace H := H _ rfl
  refine And.intro (fun c => ?_) (fun c => ?_)
  · replace H := H.1 c
    exact At.keep [0, 2, 3] H
  · replace H := H.2 c
    exact ⟨fun h => absurd h (by decide), _, rfl, H⟩

theorem r_galley_27 {G : GT} {d m : Nat} {M : Mem} (R : RefAt M m) {l2 : Int32} {l3 : Int32} {Q : Int32 → Mem → Prop} (H : (l2 ≤ l3 → vp_in (0 : Int32) 3 ∧ (∀ M4, M4 = seti M (m + 1) ((0 : Int32)).toNatClampNeg l2 → At G (d + 1) 169 59 [(0, .ref m), (2, .int l2), (3, .int (0 : Int32))] [] M4 (qI Q))) ∧ (¬ l2 ≤ l3 → vp_in l3 400 ∧ (vp_in l3 200 ∧ (∀ M5, M5 = seti M (m + 2) (l3).toNatClampNeg (vi M (m + 13) (l3).toNatClampNeg) → At G (d + 1) 169 27 [(0, .ref m), (2, .int l2), (3, .int (l3 + (1 : Int32)))] [] M5 (qI Q))))) : At G (d + 1) 169 27 [(0, .ref m), (2, .int l2), (3, .int l3)] [] M (qI Q) := by
  refine vcc ok169 18 [59] ?_
  refine And.intro (fun c => ?_) (fun c => ?_)
  · replace H := H.1 c
    refine And.intro R.1 ?_
    refine Or.inl ⟨_, (ra_r1 R), ?_⟩
    refine ⟨(ra_k1 R), vp_cst (ra_l1 R) H.1, ?_⟩
    replace H := H.2
    replace H := H _ rfl
    exact H
  · replace H := H.2 c
    refine And.intro R.1 ?_
    refine Or.inl ⟨_, (ra_r2 R), ?_⟩
    refine And.intro R.1 ?_
    refine Or.inl ⟨_, (ra_r23 R), ?_⟩
    refine ⟨(Or.inl (ra_k23 R)), vp_cst (ra_l23 R) H.1, ?_⟩
    replace H := H.2
    refine ⟨(ra_k2 R), vp_cst (ra_l2 R) H.1, ?_⟩
    replace H := H.2
    replace H := H _ rfl
    exact H

theorem r_galley_59 {G : GT} {d m : Nat} {M : Mem} (R : RefAt M m) {l2 : Int32} {l3 : Int32} {Q : Int32 → Mem → Prop} (H : ((4 : Int32) ≤ l3 → Q l2 M) ∧ (¬ (4 : Int32) ≤ l3 → vp_in l3 4 ∧ (∀ M6, M6 = seti M (m + 5) (l3).toNatClampNeg (0 : Int32) → At G (d + 1) 169 59 [(0, .ref m), (2, .int l2), (3, .int (l3 + (1 : Int32)))] [] M6 (qI Q)))) : At G (d + 1) 169 59 [(0, .ref m), (2, .int l2), (3, .int l3)] [] M (qI Q) := by
  refine vcc ok169 38 [27] ?_
  refine And.intro (fun c => ?_) (fun c => ?_)
  · replace H := H.1 c
    exact ⟨fun h => absurd h (by decide), _, rfl, H⟩
  · replace H := H.2 c
    refine And.intro R.1 ?_
    refine Or.inl ⟨_, (ra_r5 R), ?_⟩
    refine ⟨(ra_k5 R), vp_cst (ra_l5 R) H.1, ?_⟩
    replace H := H.2
    replace H := H _ rfl
    exact H

theorem r_wishes {G : GT} {d m : Nat} {M : Mem} (R : RefAt M m)  {Q : Int32 → Mem → Prop} (H : CI G d 168 [.ref m] M (fun v2 M1 => RefAt M1 m ∧ (∀ M3, M3 = seti M1 m 13 (0 : Int32) → (v2 = (-1 : Int32) → At G (d + 1) 170 27 [(0, .ref m), (2, .int (vi M1 m 13)), (3, .int (0 : Int32))] [] M3 (qI Q)) ∧ (¬ v2 = (-1 : Int32) → Q ((-2 : Int32) - v2) M3)))) : CI G (d + 1) 170 [.ref m] M Q := by
  refine Cl.ofM (Nat.le_of_ble_eq_true rfl) rfl ?_
  refine vcc ok170 0 [27] ?_
  refine And.intro (Nat.le_of_ble_eq_true rfl) ?_
  refine And.intro (Nat.le_of_ble_eq_true rfl) (And.intro R.1 ?_)
  refine Cl.mono H (fun r M1 h => ?_)
  obtain ⟨v2, rfl, H⟩ := h
  obtain ⟨R, H⟩ := H
  refine And.intro R.1 ?_
  refine And.intro R.1 ?_
  refine And.intro (Or.inl rfl) (And.intro (fun h => absurd h (by decide)) ?_)
  replace H := H _ rfl
  refine And.intro (fun c => ?_) (fun c => ?_)
  · replace H := H.1 c
    exact At.keep [0, 2, 3] H
  · replace H := H.2 c
    exact ⟨fun h => absurd h (by decide), _, rfl, H⟩

theorem r_wishes_27 {G : GT} {d m : Nat} {M : Mem} (R : RefAt M m) {l2 : Int32} {l3 : Int32} {Q : Int32 → Mem → Prop} (H : (l2 ≤ l3 → vp_in (1 : Int32) 3 ∧ (∀ M4, M4 = seti M (m + 1) ((1 : Int32)).toNatClampNeg l2 → Q l2 M4)) ∧ (¬ l2 ≤ l3 → vp_in l3 400 ∧ (vp_in l3 200 ∧ (∀ M5, M5 = seti M (m + 3) (l3).toNatClampNeg (vi M (m + 13) (l3).toNatClampNeg) → At G (d + 1) 170 27 [(0, .ref m), (2, .int l2), (3, .int (l3 + (1 : Int32)))] [] M5 (qI Q))))) : At G (d + 1) 170 27 [(0, .ref m), (2, .int l2), (3, .int l3)] [] M (qI Q) := by
  refine vcc ok170 18 [] ?_
  refine And.intro (fun c => ?_) (fun c => ?_)
  · replace H := H.1 c
    refine And.intro R.1 ?_
    refine Or.inl ⟨_, (ra_r1 R), ?_⟩
    refine ⟨(ra_k1 R), vp_cst (ra_l1 R) H.1, ?_⟩
    replace H := H.2
    replace H := H _ rfl
    exact ⟨fun h => absurd h (by decide), _, rfl, H⟩
  · replace H := H.2 c
    refine And.intro R.1 ?_
    refine Or.inl ⟨_, (ra_r3 R), ?_⟩
    refine And.intro R.1 ?_
    refine Or.inl ⟨_, (ra_r23 R), ?_⟩
    refine ⟨(Or.inl (ra_k23 R)), vp_cst (ra_l23 R) H.1, ?_⟩
    replace H := H.2
    refine ⟨(ra_k3 R), vp_cst (ra_l3 R) H.1, ?_⟩
    replace H := H.2
    replace H := H _ rfl
    exact H

theorem r_wordOf {G : GT} {d : Nat} {M : Mem} {a1 : Int32} {Q : Option Nat → Mem → Prop} (H : ((a1).toInt < 0 ∨ 5 < (a1).toInt → Q (some (gk G 22)) M) ∧ ((a1).toInt = 0 → Q (some (gk G 16)) M) ∧ ((a1).toInt = 1 → Q (some (gk G 17)) M) ∧ ((a1).toInt = 2 → Q (some (gk G 18)) M) ∧ ((a1).toInt = 3 → Q (some (gk G 19)) M) ∧ ((a1).toInt = 4 → Q (some (gk G 20)) M) ∧ ((a1).toInt = 5 → Q (some (gk G 21)) M) ∧ True) : CR G (d + 1) 171 [.int a1] M Q := by
  refine Cl.ofM (Nat.le_of_ble_eq_true rfl) rfl ?_
  refine vcc ok171 0 [] ?_
  refine And.intro (fun c => ?_) ?_
  · replace H := H.1 c
    exact ⟨some _, rfl, H⟩
  replace H := H.2
  refine And.intro (fun c => ?_) ?_
  · replace H := H.1 c
    exact ⟨some _, rfl, H⟩
  replace H := H.2
  refine And.intro (fun c => ?_) ?_
  · replace H := H.1 c
    exact ⟨some _, rfl, H⟩
  replace H := H.2
  refine And.intro (fun c => ?_) ?_
  · replace H := H.1 c
    exact ⟨some _, rfl, H⟩
  replace H := H.2
  refine And.intro (fun c => ?_) ?_
  · replace H := H.1 c
    exact ⟨some _, rfl, H⟩
  replace H := H.2
  refine And.intro (fun c => ?_) ?_
  · replace H := H.1 c
    exact ⟨some _, rfl, H⟩
  replace H := H.2
  refine And.intro (fun c => ?_) ?_
  · replace H := H.1 c
    exact ⟨some _, rfl, H⟩
  replace H := H.2
  exact trivial

theorem r_markWord {G : GT} {d : Nat} {M : Mem} {a1 : Int32} {Q : Option Nat → Mem → Prop} (H : ((a1).toInt < 0 ∨ 6 < (a1).toInt → Q (some (gk G 14)) M) ∧ ((a1).toInt = 0 → Q (some (gk G 7)) M) ∧ ((a1).toInt = 1 → Q (some (gk G 8)) M) ∧ ((a1).toInt = 2 → Q (some (gk G 9)) M) ∧ ((a1).toInt = 3 → Q (some (gk G 10)) M) ∧ ((a1).toInt = 4 → Q (some (gk G 11)) M) ∧ ((a1).toInt = 5 → Q (some (gk G 12)) M) ∧ ((a1).toInt = 6 → Q (some (gk G 13)) M) ∧ True) : CR G (d + 1) 172 [.int a1] M Q := by
  refine Cl.ofM (Nat.le_of_ble_eq_true rfl) rfl ?_
  refine vcc ok172 0 [] ?_
  refine And.intro (fun c => ?_) ?_
  · replace H := H.1 c
    exact ⟨some _, rfl, H⟩
  replace H := H.2
  refine And.intro (fun c => ?_) ?_
  · replace H := H.1 c
    exact ⟨some _, rfl, H⟩
  replace H := H.2
  refine And.intro (fun c => ?_) ?_
  · replace H := H.1 c
    exact ⟨some _, rfl, H⟩
  replace H := H.2
  refine And.intro (fun c => ?_) ?_
  · replace H := H.1 c
    exact ⟨some _, rfl, H⟩
  replace H := H.2
  refine And.intro (fun c => ?_) ?_
  · replace H := H.1 c
    exact ⟨some _, rfl, H⟩
  replace H := H.2
  refine And.intro (fun c => ?_) ?_
  · replace H := H.1 c
    exact ⟨some _, rfl, H⟩
  replace H := H.2
  refine And.intro (fun c => ?_) ?_
  · replace H := H.1 c
    exact ⟨some _, rfl, H⟩
  replace H := H.2
  refine And.intro (fun c => ?_) ?_
  · replace H := H.1 c
    exact ⟨some _, rfl, H⟩
  replace H := H.2
  exact trivial

theorem r_fails {G : GT} {d m : Nat} {M : Mem} (R : RefAt M m) {a1 : Int32} {a2 : Int32} {Q : Mem → Prop} (H : (¬ (vi M m 15) = 0 → ∀ M1, M1 = seti M m 15 (vi M m 15) → Q M1) ∧ ((vi M m 15) = 0 → ∀ M2, M2 = seti M m 15 (((1 : Int32) + ((8 : Int32) * a2)) + a1) → Q M2)) : CV G (d + 1) 173 [.ref m, .int a1, .int a2] M Q := by
  refine Cl.ofM (Nat.le_of_ble_eq_true rfl) rfl ?_
  refine vcc ok173 0 [] ?_
  refine And.intro R.1 ?_
  refine And.intro (fun c => ?_) (fun c => ?_)
  · replace H := H.1 c
    refine And.intro R.1 ?_
    refine And.intro R.1 ?_
    refine And.intro (Or.inl rfl) (And.intro (fun h => absurd h (by decide)) ?_)
    replace H := H _ rfl
    exact ⟨rfl, H⟩
  · replace H := H.2 c
    refine And.intro R.1 ?_
    refine And.intro (Or.inl rfl) (And.intro (fun h => absurd h (by decide)) ?_)
    replace H := H _ rfl
    exact ⟨rfl, H⟩

theorem r_sign {G : GT} {d m : Nat} {M : Mem} (R : RefAt M m)  {Q : Int32 → Mem → Prop} (H : ((vi M m 13) ≤ (vi M m 14) → Q (-1 : Int32) M) ∧ (¬ (vi M m 13) ≤ (vi M m 14) → vp_in (vi M m 14) 400 ∧ (Q ((vi M (m + 13) ((vi M m 14)).toNatClampNeg) &&& (255 : Int32)) M))) : CI G (d + 1) 174 [.ref m] M Q := by
  refine Cl.ofM (Nat.le_of_ble_eq_true rfl) rfl ?_
  refine vcc ok174 0 [] ?_
  refine And.intro R.1 ?_
  refine And.intro R.1 ?_
  refine And.intro (fun c => ?_) (fun c => ?_)
  · replace H := H.1 c
    exact ⟨fun h => absurd h (by decide), _, rfl, H⟩
  · replace H := H.2 c
    refine And.intro R.1 ?_
    refine Or.inl ⟨_, (ra_r23 R), ?_⟩
    refine And.intro R.1 ?_
    refine ⟨(Or.inl (ra_k23 R)), vp_cst (ra_l23 R) H.1, ?_⟩
    replace H := H.2
    exact ⟨fun h => absurd h (by decide), _, rfl, H⟩

theorem r_blanks {G : GT} {d m : Nat} {M : Mem} (R : RefAt M m)  {Q : Mem → Prop} (H : CI G d 174 [.ref m] M (fun v2 M1 => RefAt M1 m ∧ ((¬ v2 = (32 : Int32) → Q M1) ∧ (v2 = (32 : Int32) → ∀ M3, M3 = seti M1 m 14 ((vi M1 m 14) + (1 : Int32)) → At G (d + 1) 175 0 [(0, .ref m)] [] M3 (qV Q))))) : CV G (d + 1) 175 [.ref m] M Q := by
  refine Cl.ofM (Nat.le_of_ble_eq_true rfl) rfl ?_
  refine vcc ok175 0 [] ?_
  refine And.intro (Nat.le_of_ble_eq_true rfl) ?_
  refine And.intro (Nat.le_of_ble_eq_true rfl) (And.intro R.1 ?_)
  refine Cl.mono H (fun r M1 h => ?_)
  obtain ⟨v2, rfl, H⟩ := h
  obtain ⟨R, H⟩ := H
  refine And.intro (fun c => ?_) (fun c => ?_)
  · replace H := H.1 c
    exact ⟨rfl, H⟩
  · replace H := H.2 c
    refine And.intro R.1 ?_
    refine And.intro R.1 ?_
    refine And.intro (Or.inl rfl) (And.intro (fun h => absurd h (by decide)) ?_)
    replace H := H _ rfl
    exact H

theorem r_blanks_0 {G : GT} {d m : Nat} {M : Mem} (R : RefAt M m)  {Q : Mem → Prop} (H : CI G d 174 [.ref m] M (fun v5 M4 => RefAt M4 m ∧ ((¬ v5 = (32 : Int32) → Q M4) ∧ (v5 = (32 : Int32) → ∀ M6, M6 = seti M4 m 14 ((vi M4 m 14) + (1 : Int32)) → At G (d + 1) 175 0 [(0, .ref m)] [] M6 (qV Q))))) : At G (d + 1) 175 0 [(0, .ref m)] [] M (qV Q) := by
  refine vcc ok175 0 [] ?_
  refine And.intro (Nat.le_of_ble_eq_true rfl) ?_
  refine And.intro (Nat.le_of_ble_eq_true rfl) (And.intro R.1 ?_)
  refine Cl.mono H (fun r M4 h => ?_)
  obtain ⟨v5, rfl, H⟩ := h
  obtain ⟨R, H⟩ := H
  refine And.intro (fun c => ?_) (fun c => ?_)
  · replace H := H.1 c
    exact ⟨rfl, H⟩
  · replace H := H.2 c
    refine And.intro R.1 ?_
    refine And.intro R.1 ?_
    refine And.intro (Or.inl rfl) (And.intro (fun h => absurd h (by decide)) ?_)
    replace H := H _ rfl
    exact H

theorem r_isDigit {G : GT} {d m : Nat} {M : Mem} (R : RefAt M m)  {Q : Int32 → Mem → Prop} (H : CI G d 174 [.ref m] M (fun v2 M1 => RefAt M1 m ∧ (CI G d 155 [.long ((v2).toInt64), .long (48 : Int64), .long (57 : Int64)] M1 (fun v4 M3 => RefAt M3 m ∧ ((v4 = 0 ∨ v4 = 1) ∧ Q v4 M3))))) : CI G (d + 1) 176 [.ref m] M Q := by
  refine Cl.ofM (Nat.le_of_ble_eq_true rfl) rfl ?_
  refine vcc ok176 0 [] ?_
  refine And.intro (Nat.le_of_ble_eq_true rfl) ?_
  refine And.intro (Nat.le_of_ble_eq_true rfl) (And.intro R.1 ?_)
  refine Cl.mono H (fun r M1 h => ?_)
  obtain ⟨v2, rfl, H⟩ := h
  obtain ⟨R, H⟩ := H
  refine And.intro (Nat.le_of_ble_eq_true rfl) ?_
  refine And.intro (Nat.le_of_ble_eq_true rfl) ?_
  refine Cl.mono H (fun r M3 h => ?_)
  obtain ⟨v4, rfl, H⟩ := h
  obtain ⟨R, H⟩ := H
  exact ⟨fun _ => H.1, _, rfl, H.2⟩

theorem r_isAt {G : GT} {d m : Nat} {M : Mem} (R : RefAt M m) {a1 : Nat} (ha1 : a1 < 27) {Q : Int32 → Mem → Prop} (H : At G (d + 1) 177 5 [(0, .ref m), (1, .ref (gk G a1)), (2, .int (vi M m 14))] [] M (qI Q)) : CI G (d + 1) 177 [.ref m, .ref (gk G a1)] M Q := by
  refine Cl.ofM (Nat.le_of_ble_eq_true rfl) rfl ?_
  refine vcc ok177 0 [5, 63] ?_
  refine And.intro R.1 ?_
  exact H

theorem r_isAt_5 {G : GT} {d m : Nat} {M : Mem} (R : RefAt M m) {a1 : Nat} (ha1 : a1 < 27) {l2 : Int32} {Q : Int32 → Mem → Prop} (H : ((vi M m 13) ≤ l2 → CI G d 275 [.ref (gk G a1)] M (fun v2 M1 => RefAt M1 m ∧ ((¬ (l2 - (vi M m 14)) = v2 → At G (d + 1) 177 63 [(0, .ref m), (1, .ref (gk G a1)), (3, .int (0 : Int32)), (4, .int (0 : Int32))] [] M1 (qI Q)) ∧ ((l2 - (vi M m 14)) = v2 → At G (d + 1) 177 63 [(0, .ref m), (1, .ref (gk G a1)), (3, .int (1 : Int32)), (4, .int (0 : Int32))] [] M1 (qI Q))))) ∧ (¬ (vi M m 13) ≤ l2 → vp_in l2 400 ∧ (((vi M (m + 13) (l2).toNatClampNeg) < (97 : Int32) → CI G d 275 [.ref (gk G a1)] M (fun v4 M3 => RefAt M3 m ∧ ((¬ (l2 - (vi M m 14)) = v4 → At G (d + 1) 177 63 [(0, .ref m), (1, .ref (gk G a1)), (3, .int (0 : Int32)), (4, .int (0 : Int32))] [] M3 (qI Q)) ∧ ((l2 - (vi M m 14)) = v4 → At G (d + 1) 177 63 [(0, .ref m), (1, .ref (gk G a1)), (3, .int (1 : Int32)), (4, .int (0 : Int32))] [] M3 (qI Q))))) ∧ (¬ (vi M (m + 13) (l2).toNatClampNeg) < (97 : Int32) → vp_in l2 400 ∧ (((122 : Int32) < (vi M (m + 13) (l2).toNatClampNeg) → CI G d 275 [.ref (gk G a1)] M (fun v6 M5 => RefAt M5 m ∧ ((¬ (l2 - (vi M m 14)) = v6 → At G (d + 1) 177 63 [(0, .ref m), (1, .ref (gk G a1)), (3, .int (0 : Int32)), (4, .int (0 : Int32))] [] M5 (qI Q)) ∧ ((l2 - (vi M m 14)) = v6 → At G (d + 1) 177 63 [(0, .ref m), (1, .ref (gk G a1)), (3, .int (1 : Int32)), (4, .int (0 : Int32))] [] M5 (qI Q))))) ∧ (¬ (122 : Int32) < (vi M (m + 13) (l2).toNatClampNeg) → At G (d + 1) 177 5 [(0, .ref m), (1, .ref (gk G a1)), (2, .int (l2 + (1 : Int32)))] [] M (qI Q))))))) : At G (d + 1) 177 5 [(0, .ref m), (1, .ref (gk G a1)), (2, .int l2)] [] M (qI Q) := by
  refine vcc ok177 3 [63] ?_
  refine And.intro R.1 ?_
  refine And.intro (fun c => ?_) (fun c => ?_)
  · replace H := H.1 c
    refine And.intro R.1 ?_
    refine And.intro (Nat.le_of_ble_eq_true rfl) ?_
    refine And.intro (Nat.le_of_ble_eq_true rfl) ⟨a1, ha1, rfl, ?_⟩
    refine Cl.mono H (fun r M1 h => ?_)
    obtain ⟨v2, rfl, H⟩ := h
    obtain ⟨R, H⟩ := H
    refine And.intro (fun c => ?_) (fun c => ?_)
    · replace H := H.1 c
      exact At.keep [0, 1, 3, 4] H
    · replace H := H.2 c
      exact At.keep [0, 1, 3, 4] H
  · replace H := H.2 c
    refine And.intro R.1 ?_
    refine Or.inl ⟨_, (ra_r23 R), ?_⟩
    refine ⟨(Or.inl (ra_k23 R)), vp_cst (ra_l23 R) H.1, ?_⟩
    replace H := H.2
    refine And.intro (fun c => ?_) (fun c => ?_)
    · replace H := H.1 c
      refine And.intro R.1 ?_
      refine And.intro (Nat.le_of_ble_eq_true rfl) ?_
      refine And.intro (Nat.le_of_ble_eq_true rfl) ⟨a1, ha1, rfl, ?_⟩
      refine Cl.mono H (fun r M3 h => ?_)
      obtain ⟨v4, rfl, H⟩ := h
      obtain ⟨R, H⟩ := H
      refine And.intro (fun c => ?_) (fun c => ?_)
      · replace H := H.1 c
        exact At.keep [0, 1, 3, 4] H
      · replace H := H.2 c
        exact At.keep [0, 1, 3, 4] H
    · replace H := H.2 c
      refine And.intro R.1 ?_
      refine Or.inl ⟨_, (ra_r23 R), ?_⟩
      refine ⟨(Or.inl (ra_k23 R)), vp_cst (ra_l23 R) H.1, ?_⟩
      replace H := H.2
      refine And.intro (fun c => ?_) (fun c => ?_)
      · replace H := H.1 c
        refine And.intro R.1 ?_
        refine And.intro (Nat.le_of_ble_eq_true rfl) ?_
        refine And.intro (Nat.le_of_ble_eq_true rfl) ⟨a1, ha1, rfl, ?_⟩
        refine Cl.mono H (fun r M5 h => ?_)
        obtain ⟨v6, rfl, H⟩ := h
        obtain ⟨R, H⟩ := H
        refine And.intro (fun c => ?_) (fun c => ?_)
        · replace H := H.1 c
          exact At.keep [0, 1, 3, 4] H
        · replace H := H.2 c
          exact At.keep [0, 1, 3, 4] H
      · replace H := H.2 c
        exact H

theorem r_isAt_63 {G : GT} {d m : Nat} {M : Mem} (R : RefAt M m) {a1 : Nat} (ha1 : a1 < 27) {l3 : Int32} {l4 : Int32} {Q : Int32 → Mem → Prop} (H : CI G d 275 [.ref (gk G a1)] M (fun v8 M7 => RefAt M7 m ∧ ((v8 ≤ l4 → (l3 = 0 ∨ l3 = 1) ∧ Q l3 M7) ∧ (¬ v8 ≤ l4 → (l3 = 0 → (l3 = 0 ∨ l3 = 1) ∧ Q l3 M7) ∧ (¬ l3 = 0 → vp_in ((vi M7 m 14) + l4) 400 ∧ (CI G d 278 [.ref (gk G a1), .int l4] M7 (fun v10 M9 => RefAt M9 m ∧ ((¬ (vi M7 (m + 13) (((vi M7 m 14) + l4)).toNatClampNeg) = v10 → At G (d + 1) 177 63 [(0, .ref m), (1, .ref (gk G a1)), (3, .int (0 : Int32)), (4, .int (l4 + (1 : Int32)))] [] M9 (qI Q)) ∧ ((vi M7 (m + 13) (((vi M7 m 14) + l4)).toNatClampNeg) = v10 → At G (d + 1) 177 63 [(0, .ref m), (1, .ref (gk G a1)), (3, .int (1 : Int32)), (4, .int (l4 + (1 : Int32)))] [] M9 (qI Q)))))))))) : At G (d + 1) 177 63 [(0, .ref m), (1, .ref (gk G a1)), (3, .int l3), (4, .int l4)] [] M (qI Q) := by
  refine vcc ok177 34 [5] ?_
  refine And.intro (Nat.le_of_ble_eq_true rfl) ?_
  refine And.intro (Nat.le_of_ble_eq_true rfl) ⟨a1, ha1, rfl, ?_⟩
  refine Cl.mono H (fun r M7 h => ?_)
  obtain ⟨v8, rfl, H⟩ := h
  obtain ⟨R, H⟩ := H
  refine And.intro (fun c => ?_) (fun c => ?_)
  · replace H := H.1 c
    exact ⟨fun _ => H.1, _, rfl, H.2⟩
  · replace H := H.2 c
    refine And.intro (fun c => ?_) (fun c => ?_)
    · replace H := H.1 c
      exact ⟨fun _ => H.1, _, rfl, H.2⟩
    · replace H := H.2 c
      refine And.intro R.1 ?_
      refine Or.inl ⟨_, (ra_r23 R), ?_⟩
      refine And.intro R.1 ?_
      refine ⟨(Or.inl (ra_k23 R)), vp_cst (ra_l23 R) H.1, ?_⟩
      replace H := H.2
      refine And.intro (Nat.le_of_ble_eq_true rfl) ?_
      refine And.intro (Nat.le_of_ble_eq_true rfl) ⟨a1, ha1, rfl, ?_⟩
      refine Cl.mono H (fun r M9 h => ?_)
      obtain ⟨v10, rfl, H⟩ := h
      obtain ⟨R, H⟩ := H
      refine And.intro (fun c => ?_) (fun c => ?_)
      · replace H := H.1 c
        exact H
      · replace H := H.2 c
        exact H

theorem r_takes {G : GT} {d m : Nat} {M : Mem} (R : RefAt M m) {a1 : Nat} (ha1 : a1 < 27) {Q : Int32 → Mem → Prop} (H : CV G d 175 [.ref m] M (fun M1 => RefAt M1 m ∧ (CI G d 177 [.ref m, .ref (gk G a1)] M1 (fun v3 M2 => RefAt M2 m ∧ ((v3 = 0 → ∀ M4, M4 = seti M2 m 14 ((vi M2 m 14) + (0 : Int32)) → (v3 = 0 ∨ v3 = 1) ∧ Q v3 M4) ∧ (¬ v3 = 0 → CI G d 275 [.ref (gk G a1)] M2 (fun v6 M5 => RefAt M5 m ∧ (∀ M7, M7 = seti M5 m 14 ((vi M2 m 14) + v6) → (v3 = 0 ∨ v3 = 1) ∧ Q v3 M7)))))))) : CI G (d + 1) 178 [.ref m, .ref (gk G a1)] M Q := by
  refine Cl.ofM (Nat.le_of_ble_eq_true rfl) rfl ?_
  refine vcc ok178 0 [] ?_
  refine And.intro (Nat.le_of_ble_eq_true rfl) ?_
  refine And.intro (Nat.le_of_ble_eq_true rfl) (And.intro R.1 ?_)
  refine Cl.mono H (fun r M1 h => ?_)
  obtain ⟨rfl, H⟩ := h
  obtain ⟨R, H⟩ := H
  refine And.intro (Nat.le_of_ble_eq_true rfl) ?_
  refine And.intro (Nat.le_of_ble_eq_true rfl) (And.intro R.1 ?_)
  refine Cl.mono H (fun r M2 h => ?_)
  obtain ⟨v3, rfl, H⟩ := h
  obtain ⟨R, H⟩ := H
  refine And.intro R.1 ?_
  refine And.intro (fun c => ?_) (fun c => ?_)
  · replace H := H.1 c
    refine And.intro R.1 ?_
    refine And.intro (Or.inl rfl) (And.intro (fun h => absurd h (by decide)) ?_)
    replace H := H _ rfl
    exact ⟨fun _ => H.1, _, rfl, H.2⟩
  · replace H := H.2 c
    refine And.intro (Nat.le_of_ble_eq_true rfl) ?_
    refine And.intro (Nat.le_of_ble_eq_true rfl) ⟨a1, ha1, rfl, ?_⟩
    refine Cl.mono H (fun r M5 h => ?_)
    obtain ⟨v6, rfl, H⟩ := h
    obtain ⟨R, H⟩ := H
    refine And.intro R.1 ?_
    refine And.intro (Or.inl rfl) (And.intro (fun h => absurd h (by decide)) ?_)
    replace H := H _ rfl
    exact ⟨fun _ => H.1, _, rfl, H.2⟩

theorem r_entry {G : GT} {d m : Nat} {M : Mem} (R : RefAt M m) {a1 : Int32} {a2 : Int32} {Q : Mem → Prop} (H : (¬ (vi M m 15) = 0 → Q M) ∧ ((vi M m 15) = 0 → vp_in (((300 : Int32) * (vi M m 16)) + (vi M m 18)) 1200 ∧ (∀ M1, M1 = seti M (m + 14) ((((300 : Int32) * (vi M m 16)) + (vi M m 18))).toNatClampNeg a1 → vp_in (((300 : Int32) * (vi M1 m 16)) + (vi M1 m 18)) 1200 ∧ (∀ M2, M2 = seti M1 (m + 15) ((((300 : Int32) * (vi M1 m 16)) + (vi M1 m 18))).toNatClampNeg a2 → ∀ M3, M3 = seti M2 m 18 ((vi M2 m 18) + (1 : Int32)) → Q M3)))) : CV G (d + 1) 179 [.ref m, .int a1, .int a2] M Q := by
  refine Cl.ofM (Nat.le_of_ble_eq_true rfl) rfl ?_
  refine vcc ok179 0 [] ?_
  refine And.intro R.1 ?_
  refine And.intro (fun c => ?_) (fun c => ?_)
  · replace H := H.1 c
    exact ⟨rfl, H⟩
  · replace H := H.2 c
    refine And.intro R.1 ?_
    refine Or.inl ⟨_, (ra_r24 R), ?_⟩
    refine And.intro R.1 ?_
    refine And.intro R.1 ?_
    refine ⟨(ra_k24 R), vp_cst (ra_l24 R) H.1, ?_⟩
    replace H := H.2
    replace H := H _ rfl
    refine And.intro R.1 ?_
    refine Or.inl ⟨_, (ra_r25 R), ?_⟩
    refine And.intro R.1 ?_
    refine And.intro R.1 ?_
    refine ⟨(ra_k25 R), vp_cst (ra_l25 R) H.1, ?_⟩
    replace H := H.2
    replace H := H _ rfl
    refine And.intro R.1 ?_
    refine And.intro R.1 ?_
    refine And.intro (Or.inl rfl) (And.intro (fun h => absurd h (by decide)) ?_)
    replace H := H _ rfl
    exact ⟨rfl, H⟩

theorem r_isCounted {G : GT} {d m : Nat} {M : Mem} (R : RefAt M m) {a1 : Int32} {Q : Mem → Prop} (H : (¬ (vi M m 20) = (60 : Int32) → ∀ M1, M1 = seti M m 20 ((vi M m 20) + (1 : Int32)) → Q M1) ∧ ((vi M m 20) = (60 : Int32) → CV G d 173 [.ref m, .int (3 : Int32), .int a1] M (fun M2 => RefAt M2 m ∧ (∀ M3, M3 = seti M2 m 20 ((vi M2 m 20) + (1 : Int32)) → Q M3)))) : CV G (d + 1) 180 [.ref m, .int a1] M Q := by
  refine Cl.ofM (Nat.le_of_ble_eq_true rfl) rfl ?_
  refine vcc ok180 0 [] ?_
  refine And.intro R.1 ?_
  refine And.intro (fun c => ?_) (fun c => ?_)
  · replace H := H.1 c
    refine And.intro R.1 ?_
    refine And.intro R.1 ?_
    refine And.intro (Or.inl rfl) (And.intro (fun h => absurd h (by decide)) ?_)
    replace H := H _ rfl
    exact ⟨rfl, H⟩
  · replace H := H.2 c
    refine And.intro (Nat.le_of_ble_eq_true rfl) ?_
    refine And.intro (Nat.le_of_ble_eq_true rfl) (And.intro R.1 ?_)
    refine Cl.mono H (fun r M2 h => ?_)
    obtain ⟨rfl, H⟩ := h
    obtain ⟨R, H⟩ := H
    refine And.intro R.1 ?_
    refine And.intro R.1 ?_
    refine And.intro (Or.inl rfl) (And.intro (fun h => absurd h (by decide)) ?_)
    replace H := H _ rfl
    exact ⟨rfl, H⟩

theorem r_digits {G : GT} {d m : Nat} {M : Mem} (R : RefAt M m) {a1 : Int32} {Q : Int32 → Mem → Prop} (H : CI G d 176 [.ref m] M (fun v2 M1 => RefAt M1 m ∧ ((¬ v2 = 0 → At G (d + 1) 181 25 [(0, .ref m), (1, .int a1), (2, .int (vi M1 m 14)), (3, .int (0 : Int32))] [] M1 (qI Q)) ∧ (v2 = 0 → CV G d 173 [.ref m, .int (0 : Int32), .int (vi M1 m 14)] M1 (fun M3 => RefAt M3 m ∧ (Q (0 : Int32) M3)))))) : CI G (d + 1) 181 [.ref m, .int a1] M Q := by
  refine Cl.ofM (Nat.le_of_ble_eq_true rfl) rfl ?_
  refine vcc ok181 0 [25] ?_
  refine And.intro (Nat.le_of_ble_eq_true rfl) ?_
  refine And.intro (Nat.le_of_ble_eq_true rfl) (And.intro R.1 ?_)
  refine Cl.mono H (fun r M1 h => ?_)
  obtain ⟨v2, rfl, H⟩ := h
  obtain ⟨R, H⟩ := H
  refine And.intro (fun c => ?_) (fun c => ?_)
  · replace H := H.1 c
    refine And.intro R.1 ?_
    exact H
  · replace H := H.2 c
    refine And.intro R.1 ?_
    refine And.intro (Nat.le_of_ble_eq_true rfl) ?_
    refine And.intro (Nat.le_of_ble_eq_true rfl) (And.intro R.1 ?_)
    refine Cl.mono H (fun r M3 h => ?_)
    obtain ⟨rfl, H⟩ := h
    obtain ⟨R, H⟩ := H
    exact ⟨fun h => absurd h (by decide), _, rfl, H⟩

theorem r_digits_25 {G : GT} {d m : Nat} {M : Mem} (R : RefAt M m) {l1 : Int32} {l2 : Int32} {l3 : Int32} {Q : Int32 → Mem → Prop} (H : CI G d 176 [.ref m] M (fun v5 M4 => RefAt M4 m ∧ ((v5 = 0 → ((5 : Int32) < ((vi M4 m 14) - l2) → CV G d 173 [.ref m, .int (1 : Int32), .int l2] M4 (fun M6 => RefAt M6 m ∧ (Q l3 M6))) ∧ (¬ (5 : Int32) < ((vi M4 m 14) - l2) → (l3 ≤ l1 → Q l3 M4) ∧ (¬ l3 ≤ l1 → CV G d 173 [.ref m, .int (1 : Int32), .int l2] M4 (fun M7 => RefAt M7 m ∧ (Q l3 M7))))) ∧ (¬ v5 = 0 → ((5 : Int32) ≤ ((vi M4 m 14) - l2) → ∀ M8, M8 = seti M4 m 14 ((vi M4 m 14) + (1 : Int32)) → At G (d + 1) 181 25 [(0, .ref m), (1, .int l1), (2, .int l2), (3, .int l3)] [] M8 (qI Q)) ∧ (¬ (5 : Int32) ≤ ((vi M4 m 14) - l2) → CI G d 174 [.ref m] M4 (fun v10 M9 => RefAt M9 m ∧ (∀ M11, M11 = seti M9 m 14 ((vi M9 m 14) + (1 : Int32)) → At G (d + 1) 181 25 [(0, .ref m), (1, .int l1), (2, .int l2), (3, .int ((((10 : Int32) * l3) + v10) - (48 : Int32)))] [] M11 (qI Q)))))))) : At G (d + 1) 181 25 [(0, .ref m), (1, .int l1), (2, .int l2), (3, .int l3)] [] M (qI Q) := by
  refine vcc ok181 15 [] ?_
  refine And.intro (Nat.le_of_ble_eq_true rfl) ?_
  refine And.intro (Nat.le_of_ble_eq_true rfl) (And.intro R.1 ?_)
  refine Cl.mono H (fun r M4 h => ?_)
  obtain ⟨v5, rfl, H⟩ := h
  obtain ⟨R, H⟩ := H
  refine And.intro (fun c => ?_) (fun c => ?_)
  · replace H := H.1 c
    refine And.intro R.1 ?_
    refine And.intro (fun c => ?_) (fun c => ?_)
    · replace H := H.1 c
      refine And.intro (Nat.le_of_ble_eq_true rfl) ?_
      refine And.intro (Nat.le_of_ble_eq_true rfl) (And.intro R.1 ?_)
      refine Cl.mono H (fun r M6 h => ?_)
      obtain ⟨rfl, H⟩ := h
      obtain ⟨R, H⟩ := H
      exact ⟨fun h => absurd h (by decide), _, rfl, H⟩
    · replace H := H.2 c
      refine And.intro (fun c => ?_) (fun c => ?_)
      · replace H := H.1 c
        exact ⟨fun h => absurd h (by decide), _, rfl, H⟩
      · replace H := H.2 c
        refine And.intro (Nat.le_of_ble_eq_true rfl) ?_
        refine And.intro (Nat.le_of_ble_eq_true rfl) (And.intro R.1 ?_)
        refine Cl.mono H (fun r M7 h => ?_)
        obtain ⟨rfl, H⟩ := h
        obtain ⟨R, H⟩ := H
        exact ⟨fun h => absurd h (by decide), _, rfl, H⟩
  · replace H := H.2 c
    refine And.intro R.1 ?_
    refine And.intro (fun c => ?_) (fun c => ?_)
    · replace H := H.1 c
      refine And.intro R.1 ?_
      refine And.intro R.1 ?_
      refine And.intro (Or.inl rfl) (And.intro (fun h => absurd h (by decide)) ?_)
      replace H := H _ rfl
      exact H
    · replace H := H.2 c
      refine And.intro (Nat.le_of_ble_eq_true rfl) ?_
      refine And.intro (Nat.le_of_ble_eq_true rfl) (And.intro R.1 ?_)
      refine Cl.mono H (fun r M9 h => ?_)
      obtain ⟨v10, rfl, H⟩ := h
      obtain ⟨R, H⟩ := H
      refine And.intro R.1 ?_
      refine And.intro R.1 ?_
      refine And.intro (Or.inl rfl) (And.intro (fun h => absurd h (by decide)) ?_)
      replace H := H _ rfl
      exact H

theorem r_value {G : GT} {d m : Nat} {M : Mem} (R : RefAt M m)  {Q : Mem → Prop} (H : CV G d 175 [.ref m] M (fun M1 => RefAt M1 m ∧ (CI G d 176 [.ref m] M1 (fun v3 M2 => RefAt M2 m ∧ ((v3 = 0 → At G (d + 1) 182 38 [(0, .ref m), (1, .int (vi M1 m 14)), (2, .int (0 : Int32))] [] M2 (qV Q)) ∧ (¬ v3 = 0 → CI G d 181 [.ref m, .int (99999 : Int32)] M2 (fun v5 M4 => RefAt M4 m ∧ (CV G d 180 [.ref m, .int (vi M1 m 14)] M4 (fun M6 => RefAt M6 m ∧ (CV G d 179 [.ref m, .int (0 : Int32), .int v5] M6 (fun M7 => RefAt M7 m ∧ (Q M7)))))))))))) : CV G (d + 1) 182 [.ref m] M Q := by
  refine Cl.ofM (Nat.le_of_ble_eq_true rfl) rfl ?_
  refine vcc ok182 0 [38] ?_
  refine And.intro (Nat.le_of_ble_eq_true rfl) ?_
  refine And.intro (Nat.le_of_ble_eq_true rfl) (And.intro R.1 ?_)
  refine Cl.mono H (fun r M1 h => ?_)
  obtain ⟨rfl, H⟩ := h
  obtain ⟨R, H⟩ := H
  refine And.intro R.1 ?_
  refine And.intro (Nat.le_of_ble_eq_true rfl) ?_
  refine And.intro (Nat.le_of_ble_eq_true rfl) (And.intro R.1 ?_)
  refine Cl.mono H (fun r M2 h => ?_)
  obtain ⟨v3, rfl, H⟩ := h
  obtain ⟨R, H⟩ := H
  refine And.intro (fun c => ?_) (fun c => ?_)
  · replace H := H.1 c
    exact H
  · replace H := H.2 c
    refine And.intro (Nat.le_of_ble_eq_true rfl) ?_
    refine And.intro (Nat.le_of_ble_eq_true rfl) (And.intro R.1 ?_)
    refine Cl.mono H (fun r M4 h => ?_)
    obtain ⟨v5, rfl, H⟩ := h
    obtain ⟨R, H⟩ := H
    refine And.intro (Nat.le_of_ble_eq_true rfl) ?_
    refine And.intro (Nat.le_of_ble_eq_true rfl) (And.intro R.1 ?_)
    refine Cl.mono H (fun r M6 h => ?_)
    obtain ⟨rfl, H⟩ := h
    obtain ⟨R, H⟩ := H
    refine And.intro (Nat.le_of_ble_eq_true rfl) ?_
    refine And.intro (Nat.le_of_ble_eq_true rfl) (And.intro R.1 ?_)
    refine Cl.mono H (fun r M7 h => ?_)
    obtain ⟨rfl, H⟩ := h
    obtain ⟨R, H⟩ := H
    exact ⟨rfl, H⟩

theorem r_value_38 {G : GT} {d m : Nat} {M : Mem} (R : RefAt M m) {l1 : Int32} {l2 : Int32} {Q : Mem → Prop} (H : ((vi M m 22) ≤ l2 → (¬ l2 = (vi M m 22) → CV G d 180 [.ref m, .int l1] M (fun M8 => RefAt M8 m ∧ (CR G d 171 [.int l2] M8 (fun o15 M9 => RefAt M9 m ∧ ((∀ r10, o15 = some r10 → (∃ i, i < 27 ∧ r10 = gk G i) ∧ CI G d 275 [.ref r10] M9 (fun v12 M11 => RefAt M11 m ∧ (∀ M13, M13 = seti M11 m 14 ((vi M8 m 14) + v12) → CV G d 179 [.ref m, .int (1 : Int32), .int l2] M13 (fun M14 => RefAt M14 m ∧ (Q M14))))) ∧ (o15 = none → False)))))) ∧ (l2 = (vi M m 22) → CV G d 173 [.ref m, .int (0 : Int32), .int l1] M (fun M16 => RefAt M16 m ∧ (Q M16)))) ∧ (¬ (vi M m 22) ≤ l2 → CR G d 171 [.int l2] M (fun o41 M17 => RefAt M17 m ∧ ((∀ r18, o41 = some r18 → CI G d 177 [.ref m, .ref r18] M17 (fun v20 M19 => RefAt M19 m ∧ ((¬ v20 = 0 → (¬ l2 = (vi M19 m 22) → CV G d 180 [.ref m, .int l1] M19 (fun M21 => RefAt M21 m ∧ (CR G d 171 [.int l2] M21 (fun o28 M22 => RefAt M22 m ∧ ((∀ r23, o28 = some r23 → (∃ i, i < 27 ∧ r23 = gk G i) ∧ CI G d 275 [.ref r23] M22 (fun v25 M24 => RefAt M24 m ∧ (∀ M26, M26 = seti M24 m 14 ((vi M21 m 14) + v25) → CV G d 179 [.ref m, .int (1 : Int32), .int l2] M26 (fun M27 => RefAt M27 m ∧ (Q M27))))) ∧ (o28 = none → False)))))) ∧ (l2 = (vi M19 m 22) → CV G d 173 [.ref m, .int (0 : Int32), .int l1] M19 (fun M29 => RefAt M29 m ∧ (Q M29)))) ∧ (v20 = 0 → At G (d + 1) 182 38 [(0, .ref m), (1, .int l1), (2, .int (l2 + (1 : Int32)))] [] M19 (qV Q))))) ∧ (o41 = none → CI G d 177 [.ref m, .null] M17 (fun v31 M30 => RefAt M30 m ∧ ((¬ v31 = 0 → (¬ l2 = (vi M30 m 22) → CV G d 180 [.ref m, .int l1] M30 (fun M32 => RefAt M32 m ∧ (CR G d 171 [.int l2] M32 (fun o39 M33 => RefAt M33 m ∧ ((∀ r34, o39 = some r34 → (∃ i, i < 27 ∧ r34 = gk G i) ∧ CI G d 275 [.ref r34] M33 (fun v36 M35 => RefAt M35 m ∧ (∀ M37, M37 = seti M35 m 14 ((vi M32 m 14) + v36) → CV G d 179 [.ref m, .int (1 : Int32), .int l2] M37 (fun M38 => RefAt M38 m ∧ (Q M38))))) ∧ (o39 = none → False)))))) ∧ (l2 = (vi M30 m 22) → CV G d 173 [.ref m, .int (0 : Int32), .int l1] M30 (fun M40 => RefAt M40 m ∧ (Q M40)))) ∧ (v31 = 0 → At G (d + 1) 182 38 [(0, .ref m), (1, .int l1), (2, .int (l2 + (1 : Int32)))] [] M30 (qV Q))))))))) : At G (d + 1) 182 38 [(0, .ref m), (1, .int l1), (2, .int l2)] [] M (qV Q) := by
  refine vcc ok182 22 [] ?_
  refine And.intro R.1 ?_
  refine And.intro (fun c => ?_) (fun c => ?_)
  · replace H := H.1 c
    refine And.intro R.1 ?_
    refine And.intro (fun c => ?_) (fun c => ?_)
    · replace H := H.1 c
      refine And.intro (Nat.le_of_ble_eq_true rfl) ?_
      refine And.intro (Nat.le_of_ble_eq_true rfl) (And.intro R.1 ?_)
      refine Cl.mono H (fun r M8 h => ?_)
      obtain ⟨rfl, H⟩ := h
      obtain ⟨R, H⟩ := H
      refine And.intro R.1 ?_
      refine And.intro (Nat.le_of_ble_eq_true rfl) ?_
      refine And.intro (Nat.le_of_ble_eq_true rfl) ?_
      refine Cl.mono H (fun r M9 h => ?_)
      obtain ⟨o15, rfl, H⟩ := h
      obtain ⟨R, H⟩ := H
      rcases o15 with _ | r10
      · replace H := H.2 rfl
        exact H.elim
      · replace H := H.1 _ rfl
        refine And.intro (Nat.le_of_ble_eq_true rfl) ?_
        obtain ⟨⟨i, hi, ei⟩, H⟩ := H
        refine And.intro (Nat.le_of_ble_eq_true rfl) ⟨i, hi, ei, ?_⟩
        refine Cl.mono H (fun r M11 h => ?_)
        obtain ⟨v12, rfl, H⟩ := h
        obtain ⟨R, H⟩ := H
        refine And.intro R.1 ?_
        refine And.intro (Or.inl rfl) (And.intro (fun h => absurd h (by decide)) ?_)
        replace H := H _ rfl
        refine And.intro (Nat.le_of_ble_eq_true rfl) ?_
        refine And.intro (Nat.le_of_ble_eq_true rfl) (And.intro R.1 ?_)
        refine Cl.mono H (fun r M14 h => ?_)
        obtain ⟨rfl, H⟩ := h
        obtain ⟨R, H⟩ := H
        exact ⟨rfl, H⟩
    · replace H := H.2 c
      refine And.intro (Nat.le_of_ble_eq_true rfl) ?_
      refine And.intro (Nat.le_of_ble_eq_true rfl) (And.intro R.1 ?_)
      refine Cl.mono H (fun r M16 h => ?_)
      obtain ⟨rfl, H⟩ := h
      obtain ⟨R, H⟩ := H
      exact ⟨rfl, H⟩
  · replace H := H.2 c
    refine And.intro (Nat.le_of_ble_eq_true rfl) ?_
    refine And.intro (Nat.le_of_ble_eq_true rfl) ?_
    refine Cl.mono H (fun r M17 h => ?_)
    obtain ⟨o41, rfl, H⟩ := h
    obtain ⟨R, H⟩ := H
    rcases o41 with _ | r18
    · replace H := H.2 rfl
      refine And.intro (Nat.le_of_ble_eq_true rfl) ?_
      refine And.intro (Nat.le_of_ble_eq_true rfl) (And.intro R.1 ?_)
      refine Cl.mono H (fun r M30 h => ?_)
      obtain ⟨v31, rfl, H⟩ := h
      obtain ⟨R, H⟩ := H
      refine And.intro (fun c => ?_) (fun c => ?_)
      · replace H := H.1 c
        refine And.intro R.1 ?_
        refine And.intro (fun c => ?_) (fun c => ?_)
        · replace H := H.1 c
          refine And.intro (Nat.le_of_ble_eq_true rfl) ?_
          refine And.intro (Nat.le_of_ble_eq_true rfl) (And.intro R.1 ?_)
          refine Cl.mono H (fun r M32 h => ?_)
          obtain ⟨rfl, H⟩ := h
          obtain ⟨R, H⟩ := H
          refine And.intro R.1 ?_
          refine And.intro (Nat.le_of_ble_eq_true rfl) ?_
          refine And.intro (Nat.le_of_ble_eq_true rfl) ?_
          refine Cl.mono H (fun r M33 h => ?_)
          obtain ⟨o39, rfl, H⟩ := h
          obtain ⟨R, H⟩ := H
          rcases o39 with _ | r34
          · replace H := H.2 rfl
            exact H.elim
          · replace H := H.1 _ rfl
            refine And.intro (Nat.le_of_ble_eq_true rfl) ?_
            obtain ⟨⟨i, hi, ei⟩, H⟩ := H
            refine And.intro (Nat.le_of_ble_eq_true rfl) ⟨i, hi, ei, ?_⟩
            refine Cl.mono H (fun r M35 h => ?_)
            obtain ⟨v36, rfl, H⟩ := h
            obtain ⟨R, H⟩ := H
            refine And.intro R.1 ?_
            refine And.intro (Or.inl rfl) (And.intro (fun h => absurd h (by decide)) ?_)
            replace H := H _ rfl
            refine And.intro (Nat.le_of_ble_eq_true rfl) ?_
            refine And.intro (Nat.le_of_ble_eq_true rfl) (And.intro R.1 ?_)
            refine Cl.mono H (fun r M38 h => ?_)
            obtain ⟨rfl, H⟩ := h
            obtain ⟨R, H⟩ := H
            exact ⟨rfl, H⟩
        · replace H := H.2 c
          refine And.intro (Nat.le_of_ble_eq_true rfl) ?_
          refine And.intro (Nat.le_of_ble_eq_true rfl) (And.intro R.1 ?_)
          refine Cl.mono H (fun r M40 h => ?_)
          obtain ⟨rfl, H⟩ := h
          obtain ⟨R, H⟩ := H
          exact ⟨rfl, H⟩
      · replace H := H.2 c
        exact H
    · replace H := H.1 _ rfl
      refine And.intro (Nat.le_of_ble_eq_true rfl) ?_
      refine And.intro (Nat.le_of_ble_eq_true rfl) (And.intro R.1 ?_)
      refine Cl.mono H (fun r M19 h => ?_)
      obtain ⟨v20, rfl, H⟩ := h
      obtain ⟨R, H⟩ := H
      refine And.intro (fun c => ?_) (fun c => ?_)
      · replace H := H.1 c
        refine And.intro R.1 ?_
        refine And.intro (fun c => ?_) (fun c => ?_)
        · replace H := H.1 c
          refine And.intro (Nat.le_of_ble_eq_true rfl) ?_
          refine And.intro (Nat.le_of_ble_eq_true rfl) (And.intro R.1 ?_)
          refine Cl.mono H (fun r M21 h => ?_)
          obtain ⟨rfl, H⟩ := h
          obtain ⟨R, H⟩ := H
          refine And.intro R.1 ?_
          refine And.intro (Nat.le_of_ble_eq_true rfl) ?_
          refine And.intro (Nat.le_of_ble_eq_true rfl) ?_
          refine Cl.mono H (fun r M22 h => ?_)
          obtain ⟨o28, rfl, H⟩ := h
          obtain ⟨R, H⟩ := H
          rcases o28 with _ | r23
          · replace H := H.2 rfl
            exact H.elim
          · replace H := H.1 _ rfl
            refine And.intro (Nat.le_of_ble_eq_true rfl) ?_
            obtain ⟨⟨i, hi, ei⟩, H⟩ := H
            refine And.intro (Nat.le_of_ble_eq_true rfl) ⟨i, hi, ei, ?_⟩
            refine Cl.mono H (fun r M24 h => ?_)
            obtain ⟨v25, rfl, H⟩ := h
            obtain ⟨R, H⟩ := H
            refine And.intro R.1 ?_
            refine And.intro (Or.inl rfl) (And.intro (fun h => absurd h (by decide)) ?_)
            replace H := H _ rfl
            refine And.intro (Nat.le_of_ble_eq_true rfl) ?_
            refine And.intro (Nat.le_of_ble_eq_true rfl) (And.intro R.1 ?_)
            refine Cl.mono H (fun r M27 h => ?_)
            obtain ⟨rfl, H⟩ := h
            obtain ⟨R, H⟩ := H
            exact ⟨rfl, H⟩
        · replace H := H.2 c
          refine And.intro (Nat.le_of_ble_eq_true rfl) ?_
          refine And.intro (Nat.le_of_ble_eq_true rfl) (And.intro R.1 ?_)
          refine Cl.mono H (fun r M29 h => ?_)
          obtain ⟨rfl, H⟩ := h
          obtain ⟨R, H⟩ := H
          exact ⟨rfl, H⟩
      · replace H := H.2 c
        exact H

theorem r_term {G : GT} {d m : Nat} {M : Mem} (R : RefAt M m)  {Q : Mem → Prop} (H : CV G d 182 [.ref m] M (fun M1 => RefAt M1 m ∧ (CV G d 175 [.ref m] M1 (fun M2 => RefAt M2 m ∧ (At G (d + 1) 183 8 [(0, .ref m)] [] M2 (qV Q)))))) : CV G (d + 1) 183 [.ref m] M Q := by
  refine Cl.ofM (Nat.le_of_ble_eq_true rfl) rfl ?_
  refine vcc ok183 0 [8] ?_
  refine And.intro (Nat.le_of_ble_eq_true rfl) ?_
  refine And.intro (Nat.le_of_ble_eq_true rfl) (And.intro R.1 ?_)
  refine Cl.mono H (fun r M1 h => ?_)
  obtain ⟨rfl, H⟩ := h
  obtain ⟨R, H⟩ := H
  refine And.intro (Nat.le_of_ble_eq_true rfl) ?_
  refine And.intro (Nat.le_of_ble_eq_true rfl) (And.intro R.1 ?_)
  refine Cl.mono H (fun r M2 h => ?_)
  obtain ⟨rfl, H⟩ := h
  obtain ⟨R, H⟩ := H
  exact H

theorem r_term_8 {G : GT} {d m : Nat} {M : Mem} (R : RefAt M m)  {Q : Mem → Prop} (H : (¬ (vi M m 15) = 0 → Q M) ∧ ((vi M m 15) = 0 → CI G d 174 [.ref m] M (fun v4 M3 => RefAt M3 m ∧ ((v4 = (42 : Int32) → CI G d 174 [.ref m] M3 (fun v6 M5 => RefAt M5 m ∧ ((¬ v6 = (42 : Int32) → ∀ M7, M7 = seti M5 m 14 ((vi M5 m 14) + (1 : Int32)) → CV G d 182 [.ref m] M7 (fun M8 => RefAt M8 m ∧ (CV G d 179 [.ref m, .int (14 : Int32), .int (0 : Int32)] M8 (fun M9 => RefAt M9 m ∧ (CV G d 175 [.ref m] M9 (fun M10 => RefAt M10 m ∧ (At G (d + 1) 183 8 [(0, .ref m)] [] M10 (qV Q)))))))) ∧ (v6 = (42 : Int32) → ∀ M11, M11 = seti M5 m 14 ((vi M5 m 14) + (1 : Int32)) → CV G d 182 [.ref m] M11 (fun M12 => RefAt M12 m ∧ (CV G d 179 [.ref m, .int (13 : Int32), .int (0 : Int32)] M12 (fun M13 => RefAt M13 m ∧ (CV G d 175 [.ref m] M13 (fun M14 => RefAt M14 m ∧ (At G (d + 1) 183 8 [(0, .ref m)] [] M14 (qV Q))))))))))) ∧ (¬ v4 = (42 : Int32) → CI G d 174 [.ref m] M3 (fun v16 M15 => RefAt M15 m ∧ ((¬ v16 = (47 : Int32) → Q M15) ∧ (v16 = (47 : Int32) → CI G d 174 [.ref m] M15 (fun v18 M17 => RefAt M17 m ∧ ((¬ v18 = (42 : Int32) → ∀ M19, M19 = seti M17 m 14 ((vi M17 m 14) + (1 : Int32)) → CV G d 182 [.ref m] M19 (fun M20 => RefAt M20 m ∧ (CV G d 179 [.ref m, .int (14 : Int32), .int (0 : Int32)] M20 (fun M21 => RefAt M21 m ∧ (CV G d 175 [.ref m] M21 (fun M22 => RefAt M22 m ∧ (At G (d + 1) 183 8 [(0, .ref m)] [] M22 (qV Q)))))))) ∧ (v18 = (42 : Int32) → ∀ M23, M23 = seti M17 m 14 ((vi M17 m 14) + (1 : Int32)) → CV G d 182 [.ref m] M23 (fun M24 => RefAt M24 m ∧ (CV G d 179 [.ref m, .int (13 : Int32), .int (0 : Int32)] M24 (fun M25 => RefAt M25 m ∧ (CV G d 175 [.ref m] M25 (fun M26 => RefAt M26 m ∧ (At G (d + 1) 183 8 [(0, .ref m)] [] M26 (qV Q)))))))))))))))))) : At G (d + 1) 183 8 [(0, .ref m)] [] M (qV Q) := by
  refine vcc ok183 4 [] ?_
  refine And.intro R.1 ?_
  refine And.intro (fun c => ?_) (fun c => ?_)
  · replace H := H.1 c
    exact ⟨rfl, H⟩
  · replace H := H.2 c
    refine And.intro (Nat.le_of_ble_eq_true rfl) ?_
    refine And.intro (Nat.le_of_ble_eq_true rfl) (And.intro R.1 ?_)
    refine Cl.mono H (fun r M3 h => ?_)
    obtain ⟨v4, rfl, H⟩ := h
    obtain ⟨R, H⟩ := H
    refine And.intro (fun c => ?_) (fun c => ?_)
    · replace H := H.1 c
      refine And.intro (Nat.le_of_ble_eq_true rfl) ?_
      refine And.intro (Nat.le_of_ble_eq_true rfl) (And.intro R.1 ?_)
      refine Cl.mono H (fun r M5 h => ?_)
      obtain ⟨v6, rfl, H⟩ := h
      obtain ⟨R, H⟩ := H
      refine And.intro (fun c => ?_) (fun c => ?_)
      · replace H := H.1 c
        refine And.intro R.1 ?_
        refine And.intro R.1 ?_
        refine And.intro (Or.inl rfl) (And.intro (fun h => absurd h (by decide)) ?_)
        replace H := H _ rfl
        refine And.intro (Nat.le_of_ble_eq_true rfl) ?_
        refine And.intro (Nat.le_of_ble_eq_true rfl) (And.intro R.1 ?_)
        refine Cl.mono H (fun r M8 h => ?_)
        obtain ⟨rfl, H⟩ := h
        obtain ⟨R, H⟩ := H
        refine And.intro (Nat.le_of_ble_eq_true rfl) ?_
        refine And.intro (Nat.le_of_ble_eq_true rfl) (And.intro R.1 ?_)
        refine Cl.mono H (fun r M9 h => ?_)
        obtain ⟨rfl, H⟩ := h
        obtain ⟨R, H⟩ := H
        refine And.intro (Nat.le_of_ble_eq_true rfl) ?_
        refine And.intro (Nat.le_of_ble_eq_true rfl) (And.intro R.1 ?_)
        refine Cl.mono H (fun r M10 h => ?_)
        obtain ⟨rfl, H⟩ := h
        obtain ⟨R, H⟩ := H
        exact At.keep [0] H
      · replace H := H.2 c
        refine And.intro R.1 ?_
        refine And.intro R.1 ?_
        refine And.intro (Or.inl rfl) (And.intro (fun h => absurd h (by decide)) ?_)
        replace H := H _ rfl
        refine And.intro (Nat.le_of_ble_eq_true rfl) ?_
        refine And.intro (Nat.le_of_ble_eq_true rfl) (And.intro R.1 ?_)
        refine Cl.mono H (fun r M12 h => ?_)
        obtain ⟨rfl, H⟩ := h
        obtain ⟨R, H⟩ := H
        refine And.intro (Nat.le_of_ble_eq_true rfl) ?_
        refine And.intro (Nat.le_of_ble_eq_true rfl) (And.intro R.1 ?_)
        refine Cl.mono H (fun r M13 h => ?_)
        obtain ⟨rfl, H⟩ := h
        obtain ⟨R, H⟩ := H
        refine And.intro (Nat.le_of_ble_eq_true rfl) ?_
        refine And.intro (Nat.le_of_ble_eq_true rfl) (And.intro R.1 ?_)
        refine Cl.mono H (fun r M14 h => ?_)
        obtain ⟨rfl, H⟩ := h
        obtain ⟨R, H⟩ := H
        exact At.keep [0] H
    · replace H := H.2 c
      refine And.intro (Nat.le_of_ble_eq_true rfl) ?_
      refine And.intro (Nat.le_of_ble_eq_true rfl) (And.intro R.1 ?_)
      refine Cl.mono H (fun r M15 h => ?_)
      obtain ⟨v16, rfl, H⟩ := h
      obtain ⟨R, H⟩ := H
      refine And.intro (fun c => ?_) (fun c => ?_)
      · replace H := H.1 c
        exact ⟨rfl, H⟩
      · replace H := H.2 c
        refine And.intro (Nat.le_of_ble_eq_true rfl) ?_
        refine And.intro (Nat.le_of_ble_eq_true rfl) (And.intro R.1 ?_)
        refine Cl.mono H (fun r M17 h => ?_)
        obtain ⟨v18, rfl, H⟩ := h
        obtain ⟨R, H⟩ := H
        refine And.intro (fun c => ?_) (fun c => ?_)
        · replace H := H.1 c
          refine And.intro R.1 ?_
          refine And.intro R.1 ?_
          refine And.intro (Or.inl rfl) (And.intro (fun h => absurd h (by decide)) ?_)
          replace H := H _ rfl
          refine And.intro (Nat.le_of_ble_eq_true rfl) ?_
          refine And.intro (Nat.le_of_ble_eq_true rfl) (And.intro R.1 ?_)
          refine Cl.mono H (fun r M20 h => ?_)
          obtain ⟨rfl, H⟩ := h
          obtain ⟨R, H⟩ := H
          refine And.intro (Nat.le_of_ble_eq_true rfl) ?_
          refine And.intro (Nat.le_of_ble_eq_true rfl) (And.intro R.1 ?_)
          refine Cl.mono H (fun r M21 h => ?_)
          obtain ⟨rfl, H⟩ := h
          obtain ⟨R, H⟩ := H
          refine And.intro (Nat.le_of_ble_eq_true rfl) ?_
          refine And.intro (Nat.le_of_ble_eq_true rfl) (And.intro R.1 ?_)
          refine Cl.mono H (fun r M22 h => ?_)
          obtain ⟨rfl, H⟩ := h
          obtain ⟨R, H⟩ := H
          exact At.keep [0] H
        · replace H := H.2 c
          refine And.intro R.1 ?_
          refine And.intro R.1 ?_
          refine And.intro (Or.inl rfl) (And.intro (fun h => absurd h (by decide)) ?_)
          replace H := H _ rfl
          refine And.intro (Nat.le_of_ble_eq_true rfl) ?_
          refine And.intro (Nat.le_of_ble_eq_true rfl) (And.intro R.1 ?_)
          refine Cl.mono H (fun r M24 h => ?_)
          obtain ⟨rfl, H⟩ := h
          obtain ⟨R, H⟩ := H
          refine And.intro (Nat.le_of_ble_eq_true rfl) ?_
          refine And.intro (Nat.le_of_ble_eq_true rfl) (And.intro R.1 ?_)
          refine Cl.mono H (fun r M25 h => ?_)
          obtain ⟨rfl, H⟩ := h
          obtain ⟨R, H⟩ := H
          refine And.intro (Nat.le_of_ble_eq_true rfl) ?_
          refine And.intro (Nat.le_of_ble_eq_true rfl) (And.intro R.1 ?_)
          refine Cl.mono H (fun r M26 h => ?_)
          obtain ⟨rfl, H⟩ := h
          obtain ⟨R, H⟩ := H
          exact At.keep [0] H

theorem r_sum {G : GT} {d m : Nat} {M : Mem} (R : RefAt M m)  {Q : Mem → Prop} (H : CV G d 183 [.ref m] M (fun M1 => RefAt M1 m ∧ (At G (d + 1) 184 4 [(0, .ref m)] [] M1 (qV Q)))) : CV G (d + 1) 184 [.ref m] M Q := by
  refine Cl.ofM (Nat.le_of_ble_eq_true rfl) rfl ?_
  refine vcc ok184 0 [4] ?_
  refine And.intro (Nat.le_of_ble_eq_true rfl) ?_
  refine And.intro (Nat.le_of_ble_eq_true rfl) (And.intro R.1 ?_)
  refine Cl.mono H (fun r M1 h => ?_)
  obtain ⟨rfl, H⟩ := h
  obtain ⟨R, H⟩ := H
  exact H

theorem r_sum_4 {G : GT} {d m : Nat} {M : Mem} (R : RefAt M m)  {Q : Mem → Prop} (H : (¬ (vi M m 15) = 0 → Q M) ∧ ((vi M m 15) = 0 → CI G d 174 [.ref m] M (fun v3 M2 => RefAt M2 m ∧ ((v3 = (43 : Int32) → CI G d 174 [.ref m] M2 (fun v5 M4 => RefAt M4 m ∧ ((¬ v5 = (43 : Int32) → ∀ M6, M6 = seti M4 m 14 ((vi M4 m 14) + (1 : Int32)) → CV G d 183 [.ref m] M6 (fun M7 => RefAt M7 m ∧ (CV G d 179 [.ref m, .int (3 : Int32), .int (0 : Int32)] M7 (fun M8 => RefAt M8 m ∧ (At G (d + 1) 184 4 [(0, .ref m)] [] M8 (qV Q)))))) ∧ (v5 = (43 : Int32) → ∀ M9, M9 = seti M4 m 14 ((vi M4 m 14) + (1 : Int32)) → CV G d 183 [.ref m] M9 (fun M10 => RefAt M10 m ∧ (CV G d 179 [.ref m, .int (2 : Int32), .int (0 : Int32)] M10 (fun M11 => RefAt M11 m ∧ (At G (d + 1) 184 4 [(0, .ref m)] [] M11 (qV Q))))))))) ∧ (¬ v3 = (43 : Int32) → CI G d 174 [.ref m] M2 (fun v13 M12 => RefAt M12 m ∧ ((¬ v13 = (45 : Int32) → Q M12) ∧ (v13 = (45 : Int32) → CI G d 174 [.ref m] M12 (fun v15 M14 => RefAt M14 m ∧ ((¬ v15 = (43 : Int32) → ∀ M16, M16 = seti M14 m 14 ((vi M14 m 14) + (1 : Int32)) → CV G d 183 [.ref m] M16 (fun M17 => RefAt M17 m ∧ (CV G d 179 [.ref m, .int (3 : Int32), .int (0 : Int32)] M17 (fun M18 => RefAt M18 m ∧ (At G (d + 1) 184 4 [(0, .ref m)] [] M18 (qV Q)))))) ∧ (v15 = (43 : Int32) → ∀ M19, M19 = seti M14 m 14 ((vi M14 m 14) + (1 : Int32)) → CV G d 183 [.ref m] M19 (fun M20 => RefAt M20 m ∧ (CV G d 179 [.ref m, .int (2 : Int32), .int (0 : Int32)] M20 (fun M21 => RefAt M21 m ∧ (At G (d + 1) 184 4 [(0, .ref m)] [] M21 (qV Q)))))))))))))))) : At G (d + 1) 184 4 [(0, .ref m)] [] M (qV Q) := by
  refine vcc ok184 2 [] ?_
  refine And.intro R.1 ?_
  refine And.intro (fun c => ?_) (fun c => ?_)
  · replace H := H.1 c
    exact ⟨rfl, H⟩
  · replace H := H.2 c
    refine And.intro (Nat.le_of_ble_eq_true rfl) ?_
    refine And.intro (Nat.le_of_ble_eq_true rfl) (And.intro R.1 ?_)
    refine Cl.mono H (fun r M2 h => ?_)
    obtain ⟨v3, rfl, H⟩ := h
    obtain ⟨R, H⟩ := H
    refine And.intro (fun c => ?_) (fun c => ?_)
    · replace H := H.1 c
      refine And.intro (Nat.le_of_ble_eq_true rfl) ?_
      refine And.intro (Nat.le_of_ble_eq_true rfl) (And.intro R.1 ?_)
      refine Cl.mono H (fun r M4 h => ?_)
      obtain ⟨v5, rfl, H⟩ := h
      obtain ⟨R, H⟩ := H
      refine And.intro (fun c => ?_) (fun c => ?_)
      · replace H := H.1 c
        refine And.intro R.1 ?_
        refine And.intro R.1 ?_
        refine And.intro (Or.inl rfl) (And.intro (fun h => absurd h (by decide)) ?_)
        replace H := H _ rfl
        refine And.intro (Nat.le_of_ble_eq_true rfl) ?_
        refine And.intro (Nat.le_of_ble_eq_true rfl) (And.intro R.1 ?_)
        refine Cl.mono H (fun r M7 h => ?_)
        obtain ⟨rfl, H⟩ := h
        obtain ⟨R, H⟩ := H
        refine And.intro (Nat.le_of_ble_eq_true rfl) ?_
        refine And.intro (Nat.le_of_ble_eq_true rfl) (And.intro R.1 ?_)
        refine Cl.mono H (fun r M8 h => ?_)
        obtain ⟨rfl, H⟩ := h
        obtain ⟨R, H⟩ := H
        exact At.keep [0] H
      · replace H := H.2 c
        refine And.intro R.1 ?_
        refine And.intro R.1 ?_
        refine And.intro (Or.inl rfl) (And.intro (fun h => absurd h (by decide)) ?_)
        replace H := H _ rfl
        refine And.intro (Nat.le_of_ble_eq_true rfl) ?_
        refine And.intro (Nat.le_of_ble_eq_true rfl) (And.intro R.1 ?_)
        refine Cl.mono H (fun r M10 h => ?_)
        obtain ⟨rfl, H⟩ := h
        obtain ⟨R, H⟩ := H
        refine And.intro (Nat.le_of_ble_eq_true rfl) ?_
        refine And.intro (Nat.le_of_ble_eq_true rfl) (And.intro R.1 ?_)
        refine Cl.mono H (fun r M11 h => ?_)
        obtain ⟨rfl, H⟩ := h
        obtain ⟨R, H⟩ := H
        exact At.keep [0] H
    · replace H := H.2 c
      refine And.intro (Nat.le_of_ble_eq_true rfl) ?_
      refine And.intro (Nat.le_of_ble_eq_true rfl) (And.intro R.1 ?_)
      refine Cl.mono H (fun r M12 h => ?_)
      obtain ⟨v13, rfl, H⟩ := h
      obtain ⟨R, H⟩ := H
      refine And.intro (fun c => ?_) (fun c => ?_)
      · replace H := H.1 c
        exact ⟨rfl, H⟩
      · replace H := H.2 c
        refine And.intro (Nat.le_of_ble_eq_true rfl) ?_
        refine And.intro (Nat.le_of_ble_eq_true rfl) (And.intro R.1 ?_)
        refine Cl.mono H (fun r M14 h => ?_)
        obtain ⟨v15, rfl, H⟩ := h
        obtain ⟨R, H⟩ := H
        refine And.intro (fun c => ?_) (fun c => ?_)
        · replace H := H.1 c
          refine And.intro R.1 ?_
          refine And.intro R.1 ?_
          refine And.intro (Or.inl rfl) (And.intro (fun h => absurd h (by decide)) ?_)
          replace H := H _ rfl
          refine And.intro (Nat.le_of_ble_eq_true rfl) ?_
          refine And.intro (Nat.le_of_ble_eq_true rfl) (And.intro R.1 ?_)
          refine Cl.mono H (fun r M17 h => ?_)
          obtain ⟨rfl, H⟩ := h
          obtain ⟨R, H⟩ := H
          refine And.intro (Nat.le_of_ble_eq_true rfl) ?_
          refine And.intro (Nat.le_of_ble_eq_true rfl) (And.intro R.1 ?_)
          refine Cl.mono H (fun r M18 h => ?_)
          obtain ⟨rfl, H⟩ := h
          obtain ⟨R, H⟩ := H
          exact At.keep [0] H
        · replace H := H.2 c
          refine And.intro R.1 ?_
          refine And.intro R.1 ?_
          refine And.intro (Or.inl rfl) (And.intro (fun h => absurd h (by decide)) ?_)
          replace H := H _ rfl
          refine And.intro (Nat.le_of_ble_eq_true rfl) ?_
          refine And.intro (Nat.le_of_ble_eq_true rfl) (And.intro R.1 ?_)
          refine Cl.mono H (fun r M20 h => ?_)
          obtain ⟨rfl, H⟩ := h
          obtain ⟨R, H⟩ := H
          refine And.intro (Nat.le_of_ble_eq_true rfl) ?_
          refine And.intro (Nat.le_of_ble_eq_true rfl) (And.intro R.1 ?_)
          refine Cl.mono H (fun r M21 h => ?_)
          obtain ⟨rfl, H⟩ := h
          obtain ⟨R, H⟩ := H
          exact At.keep [0] H

theorem r_compared {G : GT} {d m : Nat} {M : Mem} (R : RefAt M m)  {Q : Mem → Prop} (H : CV G d 184 [.ref m] M (fun M1 => RefAt M1 m ∧ (CI G d 174 [.ref m] M1 (fun v3 M2 => RefAt M2 m ∧ ((v3 = (60 : Int32) → At G (d + 1) 185 37 [(0, .ref m), (1, .int v3)] [] M2 (qV Q)) ∧ (¬ v3 = (60 : Int32) → (v3 = (61 : Int32) → At G (d + 1) 185 37 [(0, .ref m), (1, .int v3)] [] M2 (qV Q)) ∧ (¬ v3 = (61 : Int32) → (v3 = (62 : Int32) → At G (d + 1) 185 37 [(0, .ref m), (1, .int v3)] [] M2 (qV Q)) ∧ (¬ v3 = (62 : Int32) → CV G d 173 [.ref m, .int (0 : Int32), .int (vi M2 m 14)] M2 (fun M4 => RefAt M4 m ∧ (Q M4)))))))))) : CV G (d + 1) 185 [.ref m] M Q := by
  refine Cl.ofM (Nat.le_of_ble_eq_true rfl) rfl ?_
  refine vcc ok185 0 [37, 74, 75, 90, 139] ?_
  refine And.intro (Nat.le_of_ble_eq_true rfl) ?_
  refine And.intro (Nat.le_of_ble_eq_true rfl) (And.intro R.1 ?_)
  refine Cl.mono H (fun r M1 h => ?_)
  obtain ⟨rfl, H⟩ := h
  obtain ⟨R, H⟩ := H
  refine And.intro (Nat.le_of_ble_eq_true rfl) ?_
  refine And.intro (Nat.le_of_ble_eq_true rfl) (And.intro R.1 ?_)
  refine Cl.mono H (fun r M2 h => ?_)
  obtain ⟨v3, rfl, H⟩ := h
  obtain ⟨R, H⟩ := H
  refine And.intro (fun c => ?_) (fun c => ?_)
  · replace H := H.1 c
    exact H
  · replace H := H.2 c
    refine And.intro (fun c => ?_) (fun c => ?_)
    · replace H := H.1 c
      exact H
    · replace H := H.2 c
      refine And.intro (fun c => ?_) (fun c => ?_)
      · replace H := H.1 c
        exact H
      · replace H := H.2 c
        refine And.intro R.1 ?_
        refine And.intro (Nat.le_of_ble_eq_true rfl) ?_
        refine And.intro (Nat.le_of_ble_eq_true rfl) (And.intro R.1 ?_)
        refine Cl.mono H (fun r M4 h => ?_)
        obtain ⟨rfl, H⟩ := h
        obtain ⟨R, H⟩ := H
        exact ⟨rfl, H⟩

theorem r_compared_37 {G : GT} {d m : Nat} {M : Mem} (R : RefAt M m) {l1 : Int32} {Q : Mem → Prop} (H : CV G d 180 [.ref m, .int (vi M m 14)] M (fun M5 => RefAt M5 m ∧ (∀ M6, M6 = seti M5 m 14 ((vi M5 m 14) + (1 : Int32)) → (l1 = (61 : Int32) → At G (d + 1) 185 74 [(0, .ref m), (1, .int l1)] [] M6 (qV Q)) ∧ (¬ l1 = (61 : Int32) → CI G d 174 [.ref m] M6 (fun v8 M7 => RefAt M7 m ∧ ((¬ v8 = (61 : Int32) → At G (d + 1) 185 74 [(0, .ref m), (1, .int l1)] [] M7 (qV Q)) ∧ (v8 = (61 : Int32) → At G (d + 1) 185 75 [(0, .ref m), (1, .int l1)] [.int (1 : Int32)] M7 (qV Q)))))))) : At G (d + 1) 185 37 [(0, .ref m), (1, .int l1)] [] M (qV Q) := by
  refine vcc ok185 20 [74, 75, 90, 139] ?_
  refine And.intro R.1 ?_
  refine And.intro (Nat.le_of_ble_eq_true rfl) ?_
  refine And.intro (Nat.le_of_ble_eq_true rfl) (And.intro R.1 ?_)
  refine Cl.mono H (fun r M5 h => ?_)
  obtain ⟨rfl, H⟩ := h
  obtain ⟨R, H⟩ := H
  refine And.intro R.1 ?_
  refine And.intro R.1 ?_
  refine And.intro (Or.inl rfl) (And.intro (fun h => absurd h (by decide)) ?_)
  replace H := H _ rfl
  refine And.intro (fun c => ?_) (fun c => ?_)
  · replace H := H.1 c
    exact H
  · replace H := H.2 c
    refine And.intro (Nat.le_of_ble_eq_true rfl) ?_
    refine And.intro (Nat.le_of_ble_eq_true rfl) (And.intro R.1 ?_)
    refine Cl.mono H (fun r M7 h => ?_)
    obtain ⟨v8, rfl, H⟩ := h
    obtain ⟨R, H⟩ := H
    refine And.intro (fun c => ?_) (fun c => ?_)
    · replace H := H.1 c
      exact H
    · replace H := H.2 c
      exact H

theorem r_compared_74 {G : GT} {d m : Nat} {M : Mem} (R : RefAt M m) {l1 : Int32} {Q : Mem → Prop} (H : At G (d + 1) 185 75 [(0, .ref m), (1, .int l1)] [.int (0 : Int32)] M (qV Q)) : At G (d + 1) 185 74 [(0, .ref m), (1, .int l1)] [] M (qV Q) := by
  refine vcc ok185 39 [37, 75, 90, 139] ?_
  exact H

theorem r_compared_75 {G : GT} {d m : Nat} {M : Mem} (R : RefAt M m) {l1 : Int32} {t0 : Int32} {Q : Mem → Prop} (H : (t0 = 0 → At G (d + 1) 185 90 [(0, .ref m), (1, .int l1), (2, .int t0)] [.int (0 : Int32), .int (vi M m 14), .ref m] M (qV Q)) ∧ (¬ t0 = 0 → At G (d + 1) 185 90 [(0, .ref m), (1, .int l1), (2, .int t0)] [.int (1 : Int32), .int (vi M m 14), .ref m] M (qV Q))) : At G (d + 1) 185 75 [(0, .ref m), (1, .int l1)] [.int t0] M (qV Q) := by
  refine vcc ok185 40 [37, 74, 90, 139] ?_
  refine And.intro R.1 ?_
  refine And.intro (fun c => ?_) (fun c => ?_)
  · replace H := H.1 c
    exact H
  · replace H := H.2 c
    exact H

theorem r_compared_90 {G : GT} {d m : Nat} {M : Mem} (R : RefAt M m) {l1 : Int32} {l2 : Int32} {t0 : Int32} {t1 : Int32} {t2 : Nat} {Q : Mem → Prop} (H : mK M t2 = 13 ∧ (∀ M9, M9 = seti M t2 14 (t1 + t0) → CV G d 184 [.ref m] M9 (fun M10 => RefAt M10 m ∧ ((¬ l1 = (61 : Int32) → (¬ l1 = (60 : Int32) → (l2 = 0 → At G (d + 1) 185 139 [] [.int (8 : Int32), .ref m] M10 (qV Q)) ∧ (¬ l2 = 0 → At G (d + 1) 185 139 [] [.int (7 : Int32), .ref m] M10 (qV Q))) ∧ (l1 = (60 : Int32) → (l2 = 0 → At G (d + 1) 185 139 [] [.int (4 : Int32), .ref m] M10 (qV Q)) ∧ (¬ l2 = 0 → At G (d + 1) 185 139 [] [.int (5 : Int32), .ref m] M10 (qV Q)))) ∧ (l1 = (61 : Int32) → At G (d + 1) 185 139 [] [.int (6 : Int32), .ref m] M10 (qV Q)))))) : At G (d + 1) 185 90 [(0, .ref m), (1, .int l1), (2, .int l2)] [.int t0, .int t1, .ref t2] M (qV Q) := by
  refine vcc ok185 49 [37, 74, 75, 139] ?_
  refine And.intro H.1 ?_
  replace H := H.2
  refine And.intro (Or.inl rfl) (And.intro (fun h => absurd h (by decide)) ?_)
  replace H := H _ rfl
  refine And.intro (Nat.le_of_ble_eq_true rfl) ?_
  refine And.intro (Nat.le_of_ble_eq_true rfl) (And.intro R.1 ?_)
  refine Cl.mono H (fun r M10 h => ?_)
  obtain ⟨rfl, H⟩ := h
  obtain ⟨R, H⟩ := H
  refine And.intro (fun c => ?_) (fun c => ?_)
  · replace H := H.1 c
    refine And.intro (fun c => ?_) (fun c => ?_)
    · replace H := H.1 c
      refine And.intro (fun c => ?_) (fun c => ?_)
      · replace H := H.1 c
        exact At.keep [] H
      · replace H := H.2 c
        exact At.keep [] H
    · replace H := H.2 c
      refine And.intro (fun c => ?_) (fun c => ?_)
      · replace H := H.1 c
        exact At.keep [] H
      · replace H := H.2 c
        exact At.keep [] H
  · replace H := H.2 c
    exact At.keep [] H

theorem r_compared_139 {G : GT} {d m : Nat} {M : Mem} (R : RefAt M m) {t0 : Int32} {t1 : Nat} {Q : Mem → Prop} (H : mK M t1 = 13 ∧ CV G d 179 [.ref t1, .int t0, .int (0 : Int32)] M (fun M11 => RefAt M11 m ∧ (Q M11))) : At G (d + 1) 185 139 [] [.int t0, .ref t1] M (qV Q) := by
  refine vcc ok185 73 [37, 74, 75, 90] ?_
  refine And.intro (Nat.le_of_ble_eq_true rfl) ?_
  refine And.intro (Nat.le_of_ble_eq_true rfl) (And.intro H.1 ?_)
  replace H := H.2
  refine Cl.mono H (fun r M11 h => ?_)
  obtain ⟨rfl, H⟩ := h
  obtain ⟨R, H⟩ := H
  exact ⟨rfl, H⟩

theorem r_top {G : GT} {d m : Nat} {M : Mem} (R : RefAt M m)  {Q : Int32 → Mem → Prop} (H : (¬ (vi M m 21) = 0 → vp_in ((vi M m 21) - (1 : Int32)) 402 ∧ (Q (vi M (m + 20) (((vi M m 21) - (1 : Int32))).toNatClampNeg) M)) ∧ ((vi M m 21) = 0 → Q (-1 : Int32) M)) : CI G (d + 1) 186 [.ref m] M Q := by
  refine Cl.ofM (Nat.le_of_ble_eq_true rfl) rfl ?_
  refine vcc ok186 0 [] ?_
  refine And.intro R.1 ?_
  refine And.intro (fun c => ?_) (fun c => ?_)
  · replace H := H.1 c
    refine And.intro R.1 ?_
    refine Or.inl ⟨_, (ra_r30 R), ?_⟩
    refine And.intro R.1 ?_
    refine Or.inl ⟨(ra_k30 R), vp_cst (ra_l30 R) H.1, ?_⟩
    replace H := H.2
    exact ⟨fun h => absurd h (by decide), _, rfl, H⟩
  · replace H := H.2 c
    exact ⟨fun h => absurd h (by decide), _, rfl, H⟩

theorem r_opens {G : GT} {d m : Nat} {M : Mem} (R : RefAt M m) {a1 : Int32} {Q : Mem → Prop} (H : (a1 = (9 : Int32) → (¬ (vi M m 19) = (10 : Int32) → ∀ M1, M1 = seti M m 19 ((vi M m 19) + (1 : Int32)) → vp_in (vi M1 m 21) 402 ∧ (∀ M2, M2 = seti M1 (m + 20) ((vi M1 m 21)).toNatClampNeg a1 → ∀ M3, M3 = seti M2 m 21 ((vi M2 m 21) + (1 : Int32)) → Q M3)) ∧ ((vi M m 19) = (10 : Int32) → CV G d 173 [.ref m, .int (2 : Int32), .int (vi M m 14)] M (fun M4 => RefAt M4 m ∧ (∀ M5, M5 = seti M4 m 19 ((vi M4 m 19) + (1 : Int32)) → vp_in (vi M5 m 21) 402 ∧ (∀ M6, M6 = seti M5 (m + 20) ((vi M5 m 21)).toNatClampNeg a1 → ∀ M7, M7 = seti M6 m 21 ((vi M6 m 21) + (1 : Int32)) → Q M7))))) ∧ (¬ a1 = (9 : Int32) → (¬ a1 = (12 : Int32) → vp_in (vi M m 21) 402 ∧ (∀ M8, M8 = seti M (m + 20) ((vi M m 21)).toNatClampNeg a1 → ∀ M9, M9 = seti M8 m 21 ((vi M8 m 21) + (1 : Int32)) → Q M9)) ∧ (a1 = (12 : Int32) → (¬ (vi M m 19) = (10 : Int32) → ∀ M10, M10 = seti M m 19 ((vi M m 19) + (1 : Int32)) → vp_in (vi M10 m 21) 402 ∧ (∀ M11, M11 = seti M10 (m + 20) ((vi M10 m 21)).toNatClampNeg a1 → ∀ M12, M12 = seti M11 m 21 ((vi M11 m 21) + (1 : Int32)) → Q M12)) ∧ ((vi M m 19) = (10 : Int32) → CV G d 173 [.ref m, .int (2 : Int32), .int (vi M m 14)] M (fun M13 => RefAt M13 m ∧ (∀ M14, M14 = seti M13 m 19 ((vi M13 m 19) + (1 : Int32)) → vp_in (vi M14 m 21) 402 ∧ (∀ M15, M15 = seti M14 (m + 20) ((vi M14 m 21)).toNatClampNeg a1 → ∀ M16, M16 = seti M15 m 21 ((vi M15 m 21) + (1 : Int32)) → Q M16))))))) : CV G (d + 1) 187 [.ref m, .int a1] M Q := by
  refine Cl.ofM (Nat.le_of_ble_eq_true rfl) rfl ?_
  refine vcc ok187 0 [] ?_
  refine And.intro (fun c => ?_) (fun c => ?_)
  · replace H := H.1 c
    refine And.intro R.1 ?_
    refine And.intro (fun c => ?_) (fun c => ?_)
    · replace H := H.1 c
      refine And.intro R.1 ?_
      refine And.intro R.1 ?_
      refine And.intro (Or.inl rfl) (And.intro (fun h => absurd h (by decide)) ?_)
      replace H := H _ rfl
      refine And.intro R.1 ?_
      refine Or.inl ⟨_, (ra_r30 R), ?_⟩
      refine And.intro R.1 ?_
      refine ⟨(ra_k30 R), vp_cst (ra_l30 R) H.1, ?_⟩
      replace H := H.2
      replace H := H _ rfl
      refine And.intro R.1 ?_
      refine And.intro R.1 ?_
      refine And.intro (Or.inl rfl) (And.intro (fun h => absurd h (by decide)) ?_)
      replace H := H _ rfl
      exact ⟨rfl, H⟩
    · replace H := H.2 c
      refine And.intro R.1 ?_
      refine And.intro (Nat.le_of_ble_eq_true rfl) ?_
      refine And.intro (Nat.le_of_ble_eq_true rfl) (And.intro R.1 ?_)
      refine Cl.mono H (fun r M4 h => ?_)
      obtain ⟨rfl, H⟩ := h
      obtain ⟨R, H⟩ := H
      refine And.intro R.1 ?_
      refine And.intro R.1 ?_
      refine And.intro (Or.inl rfl) (And.intro (fun h => absurd h (by decide)) ?_)
      replace H := H _ rfl
      refine And.intro R.1 ?_
      refine Or.inl ⟨_, (ra_r30 R), ?_⟩
      refine And.intro R.1 ?_
      refine ⟨(ra_k30 R), vp_cst (ra_l30 R) H.1, ?_⟩
      replace H := H.2
      replace H := H _ rfl
      refine And.intro R.1 ?_
      refine And.intro R.1 ?_
      refine And.intro (Or.inl rfl) (And.intro (fun h => absurd h (by decide)) ?_)
      replace H := H _ rfl
      exact ⟨rfl, H⟩
  · replace H := H.2 c
    refine And.intro (fun c => ?_) (fun c => ?_)
    · replace H := H.1 c
      refine And.intro R.1 ?_
      refine Or.inl ⟨_, (ra_r30 R), ?_⟩
      refine And.intro R.1 ?_
      refine ⟨(ra_k30 R), vp_cst (ra_l30 R) H.1, ?_⟩
      replace H := H.2
      replace H := H _ rfl
      refine And.intro R.1 ?_
      refine And.intro R.1 ?_
      refine And.intro (Or.inl rfl) (And.intro (fun h => absurd h (by decide)) ?_)
      replace H := H _ rfl
      exact ⟨rfl, H⟩
    · replace H := H.2 c
      refine And.intro R.1 ?_
      refine And.intro (fun c => ?_) (fun c => ?_)
      · replace H := H.1 c
        refine And.intro R.1 ?_
        refine And.intro R.1 ?_
        refine And.intro (Or.inl rfl) (And.intro (fun h => absurd h (by decide)) ?_)
        replace H := H _ rfl
        refine And.intro R.1 ?_
        refine Or.inl ⟨_, (ra_r30 R), ?_⟩
        refine And.intro R.1 ?_
        refine ⟨(ra_k30 R), vp_cst (ra_l30 R) H.1, ?_⟩
        replace H := H.2
        replace H := H _ rfl
        refine And.intro R.1 ?_
        refine And.intro R.1 ?_
        refine And.intro (Or.inl rfl) (And.intro (fun h => absurd h (by decide)) ?_)
        replace H := H _ rfl
        exact ⟨rfl, H⟩
      · replace H := H.2 c
        refine And.intro R.1 ?_
        refine And.intro (Nat.le_of_ble_eq_true rfl) ?_
        refine And.intro (Nat.le_of_ble_eq_true rfl) (And.intro R.1 ?_)
        refine Cl.mono H (fun r M13 h => ?_)
        obtain ⟨rfl, H⟩ := h
        obtain ⟨R, H⟩ := H
        refine And.intro R.1 ?_
        refine And.intro R.1 ?_
        refine And.intro (Or.inl rfl) (And.intro (fun h => absurd h (by decide)) ?_)
        replace H := H _ rfl
        refine And.intro R.1 ?_
        refine Or.inl ⟨_, (ra_r30 R), ?_⟩
        refine And.intro R.1 ?_
        refine ⟨(ra_k30 R), vp_cst (ra_l30 R) H.1, ?_⟩
        replace H := H.2
        replace H := H _ rfl
        refine And.intro R.1 ?_
        refine And.intro R.1 ?_
        refine And.intro (Or.inl rfl) (And.intro (fun h => absurd h (by decide)) ?_)
        replace H := H _ rfl
        exact ⟨rfl, H⟩

theorem r_answers {G : GT} {d m : Nat} {M : Mem} (R : RefAt M m) {a1 : Int32} {Q : Mem → Prop} (H : CI G d 186 [.ref m] M (fun v2 M1 => RefAt M1 m ∧ ((¬ v2 = a1 → Q M1) ∧ (v2 = a1 → (¬ (vi M1 m 15) = 0 → Q M1) ∧ ((vi M1 m 15) = 0 → CV G d 179 [.ref m, .int a1, .int (0 : Int32)] M1 (fun M3 => RefAt M3 m ∧ (∀ M4, M4 = seti M3 m 21 ((vi M3 m 21) - (1 : Int32)) → (¬ a1 = (9 : Int32) → ∀ M5, M5 = seti M4 m 19 ((vi M4 m 19) - (0 : Int32)) → At G (d + 1) 188 0 [(0, .ref m), (1, .int a1)] [] M5 (qV Q)) ∧ (a1 = (9 : Int32) → ∀ M6, M6 = seti M4 m 19 ((vi M4 m 19) - (1 : Int32)) → At G (d + 1) 188 0 [(0, .ref m), (1, .int a1)] [] M6 (qV Q))))))))) : CV G (d + 1) 188 [.ref m, .int a1] M Q := by
  refine Cl.ofM (Nat.le_of_ble_eq_true rfl) rfl ?_
  refine vcc ok188 0 [] ?_
  refine And.intro (Nat.le_of_ble_eq_true rfl) ?_
  refine And.intro (Nat.le_of_ble_eq_true rfl) (And.intro R.1 ?_)
  refine Cl.mono H (fun r M1 h => ?_)
  obtain ⟨v2, rfl, H⟩ := h
  obtain ⟨R, H⟩ := H
  refine And.intro (fun c => ?_) (fun c => ?_)
  · replace H := H.1 c
    exact ⟨rfl, H⟩
  · replace H := H.2 c
    refine And.intro R.1 ?_
    refine And.intro (fun c => ?_) (fun c => ?_)
    · replace H := H.1 c
      exact ⟨rfl, H⟩
    · replace H := H.2 c
      refine And.intro (Nat.le_of_ble_eq_true rfl) ?_
      refine And.intro (Nat.le_of_ble_eq_true rfl) (And.intro R.1 ?_)
      refine Cl.mono H (fun r M3 h => ?_)
      obtain ⟨rfl, H⟩ := h
      obtain ⟨R, H⟩ := H
      refine And.intro R.1 ?_
      refine And.intro R.1 ?_
      refine And.intro (Or.inl rfl) (And.intro (fun h => absurd h (by decide)) ?_)
      replace H := H _ rfl
      refine And.intro R.1 ?_
      refine And.intro (fun c => ?_) (fun c => ?_)
      · replace H := H.1 c
        refine And.intro R.1 ?_
        refine And.intro (Or.inl rfl) (And.intro (fun h => absurd h (by decide)) ?_)
        replace H := H _ rfl
        exact H
      · replace H := H.2 c
        refine And.intro R.1 ?_
        refine And.intro (Or.inl rfl) (And.intro (fun h => absurd h (by decide)) ?_)
        replace H := H _ rfl
        exact H

theorem r_answers_0 {G : GT} {d m : Nat} {M : Mem} (R : RefAt M m) {l1 : Int32} {Q : Mem → Prop} (H : CI G d 186 [.ref m] M (fun v8 M7 => RefAt M7 m ∧ ((¬ v8 = l1 → Q M7) ∧ (v8 = l1 → (¬ (vi M7 m 15) = 0 → Q M7) ∧ ((vi M7 m 15) = 0 → CV G d 179 [.ref m, .int l1, .int (0 : Int32)] M7 (fun M9 => RefAt M9 m ∧ (∀ M10, M10 = seti M9 m 21 ((vi M9 m 21) - (1 : Int32)) → (¬ l1 = (9 : Int32) → ∀ M11, M11 = seti M10 m 19 ((vi M10 m 19) - (0 : Int32)) → At G (d + 1) 188 0 [(0, .ref m), (1, .int l1)] [] M11 (qV Q)) ∧ (l1 = (9 : Int32) → ∀ M12, M12 = seti M10 m 19 ((vi M10 m 19) - (1 : Int32)) → At G (d + 1) 188 0 [(0, .ref m), (1, .int l1)] [] M12 (qV Q))))))))) : At G (d + 1) 188 0 [(0, .ref m), (1, .int l1)] [] M (qV Q) := by
  refine vcc ok188 0 [] ?_
  refine And.intro (Nat.le_of_ble_eq_true rfl) ?_
  refine And.intro (Nat.le_of_ble_eq_true rfl) (And.intro R.1 ?_)
  refine Cl.mono H (fun r M7 h => ?_)
  obtain ⟨v8, rfl, H⟩ := h
  obtain ⟨R, H⟩ := H
  refine And.intro (fun c => ?_) (fun c => ?_)
  · replace H := H.1 c
    exact ⟨rfl, H⟩
  · replace H := H.2 c
    refine And.intro R.1 ?_
    refine And.intro (fun c => ?_) (fun c => ?_)
    · replace H := H.1 c
      exact ⟨rfl, H⟩
    · replace H := H.2 c
      refine And.intro (Nat.le_of_ble_eq_true rfl) ?_
      refine And.intro (Nat.le_of_ble_eq_true rfl) (And.intro R.1 ?_)
      refine Cl.mono H (fun r M9 h => ?_)
      obtain ⟨rfl, H⟩ := h
      obtain ⟨R, H⟩ := H
      refine And.intro R.1 ?_
      refine And.intro R.1 ?_
      refine And.intro (Or.inl rfl) (And.intro (fun h => absurd h (by decide)) ?_)
      replace H := H _ rfl
      refine And.intro R.1 ?_
      refine And.intro (fun c => ?_) (fun c => ?_)
      · replace H := H.1 c
        refine And.intro R.1 ?_
        refine And.intro (Or.inl rfl) (And.intro (fun h => absurd h (by decide)) ?_)
        replace H := H _ rfl
        exact H
      · replace H := H.2 c
        refine And.intro R.1 ?_
        refine And.intro (Or.inl rfl) (And.intro (fun h => absurd h (by decide)) ?_)
        replace H := H _ rfl
        exact H

theorem r_fact {G : GT} {d m : Nat} {M : Mem} (R : RefAt M m)  {Q : Int32 → Mem → Prop} (H : CV G d 175 [.ref m] M (fun M1 => RefAt M1 m ∧ (CI G d 177 [.ref m, .ref (gk G 24)] M1 (fun v3 M2 => RefAt M2 m ∧ ((v3 = 0 → CI G d 174 [.ref m] M2 (fun v5 M4 => RefAt M4 m ∧ ((¬ v5 = (91 : Int32) → CV G d 185 [.ref m] M4 (fun M6 => RefAt M6 m ∧ (((1 : Int32) = 0 ∨ (1 : Int32) = 1) ∧ Q (1 : Int32) M6))) ∧ (v5 = (91 : Int32) → CV G d 187 [.ref m, .int (12 : Int32)] M4 (fun M7 => RefAt M7 m ∧ (∀ M8, M8 = seti M7 m 14 ((vi M7 m 14) + (1 : Int32)) → ((0 : Int32) = 0 ∨ (0 : Int32) = 1) ∧ Q (0 : Int32) M8)))))) ∧ (¬ v3 = 0 → CV G d 187 [.ref m, .int (9 : Int32)] M2 (fun M9 => RefAt M9 m ∧ (∀ M10, M10 = seti M9 m 14 ((vi M9 m 14) + (3 : Int32)) → ((0 : Int32) = 0 ∨ (0 : Int32) = 1) ∧ Q (0 : Int32) M10)))))))) : CI G (d + 1) 189 [.ref m] M Q := by
  refine Cl.ofM (Nat.le_of_ble_eq_true rfl) rfl ?_
  refine vcc ok189 0 [] ?_
  refine And.intro (Nat.le_of_ble_eq_true rfl) ?_
  refine And.intro (Nat.le_of_ble_eq_true rfl) (And.intro R.1 ?_)
  refine Cl.mono H (fun r M1 h => ?_)
  obtain ⟨rfl, H⟩ := h
  obtain ⟨R, H⟩ := H
  refine And.intro (Nat.le_of_ble_eq_true rfl) ?_
  refine And.intro (Nat.le_of_ble_eq_true rfl) (And.intro R.1 ?_)
  refine Cl.mono H (fun r M2 h => ?_)
  obtain ⟨v3, rfl, H⟩ := h
  obtain ⟨R, H⟩ := H
  refine And.intro (fun c => ?_) (fun c => ?_)
  · replace H := H.1 c
    refine And.intro (Nat.le_of_ble_eq_true rfl) ?_
    refine And.intro (Nat.le_of_ble_eq_true rfl) (And.intro R.1 ?_)
    refine Cl.mono H (fun r M4 h => ?_)
    obtain ⟨v5, rfl, H⟩ := h
    obtain ⟨R, H⟩ := H
    refine And.intro (fun c => ?_) (fun c => ?_)
    · replace H := H.1 c
      refine And.intro (Nat.le_of_ble_eq_true rfl) ?_
      refine And.intro (Nat.le_of_ble_eq_true rfl) (And.intro R.1 ?_)
      refine Cl.mono H (fun r M6 h => ?_)
      obtain ⟨rfl, H⟩ := h
      obtain ⟨R, H⟩ := H
      exact ⟨fun _ => H.1, _, rfl, H.2⟩
    · replace H := H.2 c
      refine And.intro (Nat.le_of_ble_eq_true rfl) ?_
      refine And.intro (Nat.le_of_ble_eq_true rfl) (And.intro R.1 ?_)
      refine Cl.mono H (fun r M7 h => ?_)
      obtain ⟨rfl, H⟩ := h
      obtain ⟨R, H⟩ := H
      refine And.intro R.1 ?_
      refine And.intro R.1 ?_
      refine And.intro (Or.inl rfl) (And.intro (fun h => absurd h (by decide)) ?_)
      replace H := H _ rfl
      exact ⟨fun _ => H.1, _, rfl, H.2⟩
  · replace H := H.2 c
    refine And.intro (Nat.le_of_ble_eq_true rfl) ?_
    refine And.intro (Nat.le_of_ble_eq_true rfl) (And.intro R.1 ?_)
    refine Cl.mono H (fun r M9 h => ?_)
    obtain ⟨rfl, H⟩ := h
    obtain ⟨R, H⟩ := H
    refine And.intro R.1 ?_
    refine And.intro R.1 ?_
    refine And.intro (Or.inl rfl) (And.intro (fun h => absurd h (by decide)) ?_)
    replace H := H _ rfl
    exact ⟨fun _ => H.1, _, rfl, H.2⟩

theorem r_test {G : GT} {d m : Nat} {M : Mem} (R : RefAt M m)  {Q : Mem → Prop} (H : ∀ M1, M1 = seti M m 21 (0 : Int32) → At G (d + 1) 190 9 [(0, .ref m), (1, .int (1 : Int32)), (2, .int (1 : Int32))] [] M1 (qV Q)) : CV G (d + 1) 190 [.ref m] M Q := by
  refine Cl.ofM (Nat.le_of_ble_eq_true rfl) rfl ?_
  refine vcc ok190 0 [9, 36, 82, 93, 105, 122, 164, 199, 202] ?_
  refine And.intro R.1 ?_
  refine And.intro (Or.inl rfl) (And.intro (fun h => absurd h (by decide)) ?_)
  replace H := H _ rfl
  exact H

theorem r_test_9 {G : GT} {d m : Nat} {M : Mem} (R : RefAt M m) {l1 : Int32} {l2 : Int32} {Q : Mem → Prop} (H : (l2 = 0 → At G (d + 1) 190 202 [] [] M (qV Q)) ∧ (¬ l2 = 0 → (¬ (vi M m 15) = 0 → At G (d + 1) 190 202 [] [] M (qV Q)) ∧ ((vi M m 15) = 0 → (l1 = 0 → CV G d 188 [.ref m, .int (9 : Int32)] M (fun M2 => RefAt M2 m ∧ (CV G d 175 [.ref m] M2 (fun M3 => RefAt M3 m ∧ (CI G d 177 [.ref m, .ref (gk G 25)] M3 (fun v5 M4 => RefAt M4 m ∧ (CI G d 177 [.ref m, .ref (gk G 26)] M4 (fun v7 M6 => RefAt M6 m ∧ (CV G d 188 [.ref m, .int (10 : Int32)] M6 (fun M8 => RefAt M8 m ∧ ((¬ v5 = 0 → At G (d + 1) 190 82 [(0, .ref m), (2, .int l2), (3, .int v5), (4, .int v7)] [] M8 (qV Q)) ∧ (v5 = 0 → (v7 = 0 → CV G d 188 [.ref m, .int (11 : Int32)] M8 (fun M9 => RefAt M9 m ∧ (CI G d 186 [.ref m] M9 (fun v11 M10 => RefAt M10 m ∧ ((¬ v11 = (12 : Int32) → At G (d + 1) 190 199 [(0, .ref m), (1, .int l1), (2, .int (0 : Int32))] [] M10 (qV Q)) ∧ (v11 = (12 : Int32) → CI G d 174 [.ref m] M10 (fun v13 M12 => RefAt M12 m ∧ ((v13 = (93 : Int32) → At G (d + 1) 190 164 [(0, .ref m), (1, .int l1), (2, .int l2)] [] M12 (qV Q)) ∧ (¬ v13 = (93 : Int32) → CV G d 173 [.ref m, .int (0 : Int32), .int (vi M12 m 14)] M12 (fun M14 => RefAt M14 m ∧ (At G (d + 1) 190 164 [(0, .ref m), (1, .int l1), (2, .int l2)] [] M14 (qV Q)))))))))))) ∧ (¬ v7 = 0 → At G (d + 1) 190 82 [(0, .ref m), (2, .int l2), (3, .int v5), (4, .int v7)] [] M8 (qV Q)))))))))))))) ∧ (¬ l1 = 0 → CI G d 189 [.ref m] M (fun v16 M15 => RefAt M15 m ∧ ((¬ v16 = 0 → At G (d + 1) 190 36 [(0, .ref m), (2, .int l2)] [.int (0 : Int32)] M15 (qV Q)) ∧ (v16 = 0 → At G (d + 1) 190 36 [(0, .ref m), (2, .int l2)] [.int (1 : Int32)] M15 (qV Q)))))))) : At G (d + 1) 190 9 [(0, .ref m), (1, .int l1), (2, .int l2)] [] M (qV Q) := by
  refine vcc ok190 7 [36, 82, 93, 105, 122, 164, 199, 202] ?_
  refine And.intro (fun c => ?_) (fun c => ?_)
  · replace H := H.1 c
    exact At.keep [] H
  · replace H := H.2 c
    refine And.intro R.1 ?_
    refine And.intro (fun c => ?_) (fun c => ?_)
    · replace H := H.1 c
      exact At.keep [] H
    · replace H := H.2 c
      refine And.intro (fun c => ?_) (fun c => ?_)
      · replace H := H.1 c
        refine And.intro (Nat.le_of_ble_eq_true rfl) ?_
        refine And.intro (Nat.le_of_ble_eq_true rfl) (And.intro R.1 ?_)
        refine Cl.mono H (fun r M2 h => ?_)
        obtain ⟨rfl, H⟩ := h
        obtain ⟨R, H⟩ := H
        refine And.intro (Nat.le_of_ble_eq_true rfl) ?_
        refine And.intro (Nat.le_of_ble_eq_true rfl) (And.intro R.1 ?_)
        refine Cl.mono H (fun r M3 h => ?_)
        obtain ⟨rfl, H⟩ := h
        obtain ⟨R, H⟩ := H
        refine And.intro (Nat.le_of_ble_eq_true rfl) ?_
        refine And.intro (Nat.le_of_ble_eq_true rfl) (And.intro R.1 ?_)
        refine Cl.mono H (fun r M4 h => ?_)
        obtain ⟨v5, rfl, H⟩ := h
        obtain ⟨R, H⟩ := H
        refine And.intro (Nat.le_of_ble_eq_true rfl) ?_
        refine And.intro (Nat.le_of_ble_eq_true rfl) (And.intro R.1 ?_)
        refine Cl.mono H (fun r M6 h => ?_)
        obtain ⟨v7, rfl, H⟩ := h
        obtain ⟨R, H⟩ := H
        refine And.intro (Nat.le_of_ble_eq_true rfl) ?_
        refine And.intro (Nat.le_of_ble_eq_true rfl) (And.intro R.1 ?_)
        refine Cl.mono H (fun r M8 h => ?_)
        obtain ⟨rfl, H⟩ := h
        obtain ⟨R, H⟩ := H
        refine And.intro (fun c => ?_) (fun c => ?_)
        · replace H := H.1 c
          exact At.keep [0, 2, 3, 4] H
        · replace H := H.2 c
          refine And.intro (fun c => ?_) (fun c => ?_)
          · replace H := H.1 c
            refine And.intro (Nat.le_of_ble_eq_true rfl) ?_
            refine And.intro (Nat.le_of_ble_eq_true rfl) (And.intro R.1 ?_)
            refine Cl.mono H (fun r M9 h => ?_)
            obtain ⟨rfl, H⟩ := h
            obtain ⟨R, H⟩ := H
            refine And.intro (Nat.le_of_ble_eq_true rfl) ?_
            refine And.intro (Nat.le_of_ble_eq_true rfl) (And.intro R.1 ?_)
            refine Cl.mono H (fun r M10 h => ?_)
            obtain ⟨v11, rfl, H⟩ := h
            obtain ⟨R, H⟩ := H
            refine And.intro (fun c => ?_) (fun c => ?_)
            · replace H := H.1 c
              exact At.keep [0, 1, 2] H
            · replace H := H.2 c
              refine And.intro (Nat.le_of_ble_eq_true rfl) ?_
              refine And.intro (Nat.le_of_ble_eq_true rfl) (And.intro R.1 ?_)
              refine Cl.mono H (fun r M12 h => ?_)
              obtain ⟨v13, rfl, H⟩ := h
              obtain ⟨R, H⟩ := H
              refine And.intro (fun c => ?_) (fun c => ?_)
              · replace H := H.1 c
                exact At.keep [0, 1, 2] H
              · replace H := H.2 c
                refine And.intro R.1 ?_
                refine And.intro (Nat.le_of_ble_eq_true rfl) ?_
                refine And.intro (Nat.le_of_ble_eq_true rfl) (And.intro R.1 ?_)
                refine Cl.mono H (fun r M14 h => ?_)
                obtain ⟨rfl, H⟩ := h
                obtain ⟨R, H⟩ := H
                exact At.keep [0, 1, 2] H
          · replace H := H.2 c
            exact At.keep [0, 2, 3, 4] H
      · replace H := H.2 c
        refine And.intro (Nat.le_of_ble_eq_true rfl) ?_
        refine And.intro (Nat.le_of_ble_eq_true rfl) (And.intro R.1 ?_)
        refine Cl.mono H (fun r M15 h => ?_)
        obtain ⟨v16, rfl, H⟩ := h
        obtain ⟨R, H⟩ := H
        refine And.intro (fun c => ?_) (fun c => ?_)
        · replace H := H.1 c
          exact At.keep [0, 2] H
        · replace H := H.2 c
          exact At.keep [0, 2] H

theorem r_test_36 {G : GT} {d m : Nat} {M : Mem} (R : RefAt M m) {l2 : Int32} {t0 : Int32} {Q : Mem → Prop} (H : At G (d + 1) 190 9 [(0, .ref m), (1, .int t0), (2, .int l2)] [] M (qV Q)) : At G (d + 1) 190 36 [(0, .ref m), (2, .int l2)] [.int t0] M (qV Q) := by
  refine vcc ok190 20 [9, 82, 93, 105, 122, 164, 199, 202] ?_
  exact H

theorem r_test_82 {G : GT} {d m : Nat} {M : Mem} (R : RefAt M m) {l2 : Int32} {l3 : Int32} {l4 : Int32} {Q : Mem → Prop} (H : (l4 = 0 → At G (d + 1) 190 93 [(0, .ref m), (2, .int l2), (3, .int l3)] [] M (qV Q)) ∧ (¬ l4 = 0 → CV G d 188 [.ref m, .int (11 : Int32)] M (fun M17 => RefAt M17 m ∧ (At G (d + 1) 190 93 [(0, .ref m), (2, .int l2), (3, .int l3)] [] M17 (qV Q))))) : At G (d + 1) 190 82 [(0, .ref m), (2, .int l2), (3, .int l3), (4, .int l4)] [] M (qV Q) := by
  refine vcc ok190 42 [9, 36, 93, 105, 122, 164, 199, 202] ?_
  refine And.intro (fun c => ?_) (fun c => ?_)
  · replace H := H.1 c
    exact At.keep [0, 2, 3] H
  · replace H := H.2 c
    refine And.intro (Nat.le_of_ble_eq_true rfl) ?_
    refine And.intro (Nat.le_of_ble_eq_true rfl) (And.intro R.1 ?_)
    refine Cl.mono H (fun r M17 h => ?_)
    obtain ⟨rfl, H⟩ := h
    obtain ⟨R, H⟩ := H
    exact At.keep [0, 2, 3] H

theorem r_test_93 {G : GT} {d m : Nat} {M : Mem} (R : RefAt M m) {l2 : Int32} {l3 : Int32} {Q : Mem → Prop} (H : (l3 = 0 → At G (d + 1) 190 105 [(0, .ref m), (2, .int l2), (3, .int l3)] [.int (11 : Int32), .ref m] M (qV Q)) ∧ (¬ l3 = 0 → At G (d + 1) 190 105 [(0, .ref m), (2, .int l2), (3, .int l3)] [.int (10 : Int32), .ref m] M (qV Q))) : At G (d + 1) 190 93 [(0, .ref m), (2, .int l2), (3, .int l3)] [] M (qV Q) := by
  refine vcc ok190 47 [9, 36, 82, 105, 122, 164, 199, 202] ?_
  refine And.intro (fun c => ?_) (fun c => ?_)
  · replace H := H.1 c
    exact H
  · replace H := H.2 c
    exact H

theorem r_test_105 {G : GT} {d m : Nat} {M : Mem} (R : RefAt M m) {l2 : Int32} {l3 : Int32} {t0 : Int32} {t1 : Nat} {Q : Mem → Prop} (H : mK M t1 = 13 ∧ CV G d 187 [.ref t1, .int t0] M (fun M18 => RefAt M18 m ∧ ((l3 = 0 → At G (d + 1) 190 122 [(0, .ref m), (2, .int l2)] [.int (2 : Int32), .int (vi M18 m 14), .ref m] M18 (qV Q)) ∧ (¬ l3 = 0 → At G (d + 1) 190 122 [(0, .ref m), (2, .int l2)] [.int (3 : Int32), .int (vi M18 m 14), .ref m] M18 (qV Q))))) : At G (d + 1) 190 105 [(0, .ref m), (2, .int l2), (3, .int l3)] [.int t0, .ref t1] M (qV Q) := by
  refine vcc ok190 53 [9, 36, 82, 93, 122, 164, 199, 202] ?_
  refine And.intro (Nat.le_of_ble_eq_true rfl) ?_
  refine And.intro (Nat.le_of_ble_eq_true rfl) (And.intro H.1 ?_)
  replace H := H.2
  refine Cl.mono H (fun r M18 h => ?_)
  obtain ⟨rfl, H⟩ := h
  obtain ⟨R, H⟩ := H
  refine And.intro R.1 ?_
  refine And.intro (fun c => ?_) (fun c => ?_)
  · replace H := H.1 c
    exact At.keep [0, 2] H
  · replace H := H.2 c
    exact At.keep [0, 2] H

theorem r_test_122 {G : GT} {d m : Nat} {M : Mem} (R : RefAt M m) {l2 : Int32} {t0 : Int32} {t1 : Int32} {t2 : Nat} {Q : Mem → Prop} (H : mK M t2 = 13 ∧ (∀ M19, M19 = seti M t2 14 (t1 + t0) → At G (d + 1) 190 199 [(0, .ref m), (1, .int (1 : Int32)), (2, .int l2)] [] M19 (qV Q))) : At G (d + 1) 190 122 [(0, .ref m), (2, .int l2)] [.int t0, .int t1, .ref t2] M (qV Q) := by
  refine vcc ok190 62 [9, 36, 82, 93, 105, 164, 199, 202] ?_
  refine And.intro H.1 ?_
  replace H := H.2
  refine And.intro (Or.inl rfl) (And.intro (fun h => absurd h (by decide)) ?_)
  replace H := H _ rfl
  exact H

theorem r_test_164 {G : GT} {d m : Nat} {M : Mem} (R : RefAt M m) {l1 : Int32} {l2 : Int32} {Q : Mem → Prop} (H : ∀ M20, M20 = seti M m 14 ((vi M m 14) + (1 : Int32)) → ∀ M21, M21 = seti M20 m 21 ((vi M20 m 21) - (1 : Int32)) → ∀ M22, M22 = seti M21 m 19 ((vi M21 m 19) - (1 : Int32)) → At G (d + 1) 190 199 [(0, .ref m), (1, .int l1), (2, .int l2)] [] M22 (qV Q)) : At G (d + 1) 190 164 [(0, .ref m), (1, .int l1), (2, .int l2)] [] M (qV Q) := by
  refine vcc ok190 83 [9, 36, 82, 93, 105, 122, 199, 202] ?_
  refine And.intro R.1 ?_
  refine And.intro R.1 ?_
  refine And.intro (Or.inl rfl) (And.intro (fun h => absurd h (by decide)) ?_)
  replace H := H _ rfl
  refine And.intro R.1 ?_
  refine And.intro R.1 ?_
  refine And.intro (Or.inl rfl) (And.intro (fun h => absurd h (by decide)) ?_)
  replace H := H _ rfl
  refine And.intro R.1 ?_
  refine And.intro R.1 ?_
  refine And.intro (Or.inl rfl) (And.intro (fun h => absurd h (by decide)) ?_)
  replace H := H _ rfl
  exact H

theorem r_test_199 {G : GT} {d m : Nat} {M : Mem} (R : RefAt M m) {l1 : Int32} {l2 : Int32} {Q : Mem → Prop} (H : At G (d + 1) 190 9 [(0, .ref m), (1, .int l1), (2, .int l2)] [] M (qV Q)) : At G (d + 1) 190 199 [(0, .ref m), (1, .int l1), (2, .int l2)] [] M (qV Q) := by
  refine vcc ok190 104 [9, 36, 82, 93, 105, 122, 164, 202] ?_
  exact H

theorem r_test_202 {G : GT} {d m : Nat} {M : Mem} (R : RefAt M m)  {Q : Mem → Prop} (H : Q M) : At G (d + 1) 190 202 [] [] M (qV Q) := by
  refine vcc ok190 105 [9, 36, 82, 93, 105, 122, 164, 199] ?_
  exact ⟨rfl, H⟩
