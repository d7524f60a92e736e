theorem r_in {G : GT} {d : Nat} {M : Mem} {v : Int64} {lo : Int64} {hi : Int64} {Q : Int32 → Mem → Prop} (H : ((lg_cmp v lo) < 0 → ((0 : Int32) = 0 ∨ (0 : Int32) = 1) ∧ Q (0 : Int32) M) ∧ (¬ (lg_cmp v lo) < 0 → (0 < (lg_cmp v hi) → ((0 : Int32) = 0 ∨ (0 : Int32) = 1) ∧ Q (0 : Int32) M) ∧ (¬ 0 < (lg_cmp v hi) → ((1 : Int32) = 0 ∨ (1 : Int32) = 1) ∧ Q (1 : Int32) M))) : CI G (d + 1) 155 [.long v, .long lo, .long hi] M Q := by
  refine Cl.ofM (Nat.le_of_ble_eq_true rfl) rfl ?_
  refine vcc ok155 0 [] ?_
  refine And.intro (fun c => ?_) (fun c => ?_)
  · replace H := H.1 c
    exact ⟨fun _ => H.1, _, rfl, H.2⟩
  · replace H := H.2 c
    refine And.intro (fun c => ?_) (fun c => ?_)
    · replace H := H.1 c
      exact ⟨fun _ => H.1, _, rfl, H.2⟩
    · replace H := H.2 c
      exact ⟨fun _ => H.1, _, rfl, H.2⟩

theorem r_has {G : GT} {d : Nat} {M : Mem} {s : Int32} {k : Int32} {Q : Int32 → Mem → Prop} (H : (¬ ((s >>> (k &&& 31)) &&& (1 : Int32)) = (1 : Int32) → ((0 : Int32) = 0 ∨ (0 : Int32) = 1) ∧ Q (0 : Int32) M) ∧ (((s >>> (k &&& 31)) &&& (1 : Int32)) = (1 : Int32) → ((1 : Int32) = 0 ∨ (1 : Int32) = 1) ∧ Q (1 : Int32) M)) : CI G (d + 1) 156 [.int s, .int k] M Q := by
  refine Cl.ofM (Nat.le_of_ble_eq_true rfl) rfl ?_
  refine vcc ok156 0 [] ?_
  refine And.intro (fun c => ?_) (fun c => ?_)
  · replace H := H.1 c
    exact ⟨fun _ => H.1, _, rfl, H.2⟩
  · replace H := H.2 c
    exact ⟨fun _ => H.1, _, rfl, H.2⟩

theorem r_bits {G : GT} {d : Nat} {M : Mem} {s : Int32} {Q : Int32 → Mem → Prop} (H : At G (d + 1) 157 4 [(1, .int (0 : Int32)), (2, .int s)] [] M (qI Q)) : CI G (d + 1) 157 [.int s] M Q := by
  refine Cl.ofM (Nat.le_of_ble_eq_true rfl) rfl ?_
  refine vcc ok157 0 [4] ?_
  exact At.keep [1, 2] H

theorem r_bits_4 {G : GT} {d : Nat} {M : Mem} {l1 : Int32} {l2 : Int32} {Q : Int32 → Mem → Prop} (H : (l2 = 0 → Q l1 M) ∧ (¬ l2 = 0 → At G (d + 1) 157 4 [(1, .int (l1 + (1 : Int32))), (2, .int (l2 &&& (l2 - (1 : Int32))))] [] M (qI Q))) : At G (d + 1) 157 4 [(1, .int l1), (2, .int l2)] [] M (qI Q) := by
  refine vcc ok157 4 [] ?_
  refine And.intro (fun c => ?_) (fun c => ?_)
  · replace H := H.1 c
    exact ⟨fun h => absurd h (by decide), _, rfl, H⟩
  · replace H := H.2 c
    exact H

theorem r_divisor {G : GT} {d : Nat} {M : Mem} {a : Int32} {b : Int32} {Q : Int32 → Mem → Prop} (H : At G (d + 1) 158 4 [(2, .int a), (3, .int b)] [] M (qI Q)) : CI G (d + 1) 158 [.int a, .int b] M Q := by
  refine Cl.ofM (Nat.le_of_ble_eq_true rfl) rfl ?_
  refine vcc ok158 0 [4] ?_
  exact At.keep [2, 3] H

theorem r_divisor_4 {G : GT} {d : Nat} {M : Mem} {l2 : Int32} {l3 : Int32} {Q : Int32 → Mem → Prop} (H : (l2 = 0 → Q l3 M) ∧ (¬ l2 = 0 → ¬ l2 = 0 ∧ (At G (d + 1) 158 4 [(2, .int (l3 - l3 / l2 * l2)), (3, .int l2)] [] M (qI Q)))) : At G (d + 1) 158 4 [(2, .int l2), (3, .int l3)] [] M (qI Q) := by
  refine vcc ok158 4 [] ?_
  refine And.intro (fun c => ?_) (fun c => ?_)
  · replace H := H.1 c
    exact ⟨fun h => absurd h (by decide), _, rfl, H⟩
  · replace H := H.2 c
    refine And.intro H.1 ?_
    replace H := H.2
    exact At.keep [2, 3] H

theorem r_isHand {G : GT} {d m : Nat} {M : Mem} (R : RefAt M m) {h : Int32} {Q : Int32 → Mem → Prop} (H : vp_in (2 : Int32) 3 ∧ (CI G d 155 [.long ((h).toInt64), .long (0 : Int64), .long ((((vi M (m + 1) ((2 : Int32)).toNatClampNeg) - (1 : Int32))).toInt64)] M (fun v2 M1 => RefAt M1 m ∧ ((v2 = 0 ∨ v2 = 1) ∧ Q v2 M1)))) : CI G (d + 1) 159 [.ref m, .int h] M Q := by
  refine Cl.ofM (Nat.le_of_ble_eq_true rfl) rfl ?_
  refine vcc ok159 0 [] ?_
  refine And.intro R.1 ?_
  refine Or.inl ⟨_, (ra_r1 R), ?_⟩
  refine Or.inl ⟨(ra_k1 R), vp_cst (ra_l1 R) H.1, ?_⟩
  replace H := H.2
  refine And.intro (Nat.le_of_ble_eq_true rfl) ?_
  refine And.intro (Nat.le_of_ble_eq_true rfl) ?_
  refine Cl.mono H (fun r M1 h => ?_)
  obtain ⟨v2, rfl, H⟩ := h
  obtain ⟨R, H⟩ := H
  exact ⟨fun _ => H.1, _, rfl, H.2⟩

theorem r_isMark {G : GT} {d m : Nat} {M : Mem} (R : RefAt M m) {h : Int32} {k : Int32} {Q : Int32 → Mem → Prop} (H : CI G d 159 [.ref m, .int h] M (fun v2 M1 => RefAt M1 m ∧ ((v2 = 0 → ((0 : Int32) = 0 ∨ (0 : Int32) = 1) ∧ Q (0 : Int32) M1) ∧ (¬ v2 = 0 → vp_in h 4 ∧ (CI G d 155 [.long ((k).toInt64), .long (0 : Int64), .long ((((vi M1 (m + 5) (h).toNatClampNeg) - (1 : Int32))).toInt64)] M1 (fun v4 M3 => RefAt M3 m ∧ ((v4 = 0 → ((0 : Int32) = 0 ∨ (0 : Int32) = 1) ∧ Q (0 : Int32) M3) ∧ (¬ v4 = 0 → ((1 : Int32) = 0 ∨ (1 : Int32) = 1) ∧ Q (1 : Int32) M3)))))))) : CI G (d + 1) 160 [.ref m, .int h, .int k] M Q := by
  refine Cl.ofM (Nat.le_of_ble_eq_true rfl) rfl ?_
  refine vcc ok160 0 [] ?_
  refine And.intro (Nat.le_of_ble_eq_true rfl) ?_
  refine And.intro (Nat.le_of_ble_eq_true rfl) (And.intro R.1 ?_)
  refine Cl.mono H (fun r M1 h => ?_)
  obtain ⟨v2, rfl, H⟩ := h
  obtain ⟨R, H⟩ := H
  refine And.intro (fun c => ?_) (fun c => ?_)
  · replace H := H.1 c
    exact ⟨fun _ => H.1, _, rfl, H.2⟩
  · replace H := H.2 c
    refine And.intro R.1 ?_
    refine Or.inl ⟨_, (ra_r5 R), ?_⟩
    refine Or.inl ⟨(ra_k5 R), vp_cst (ra_l5 R) H.1, ?_⟩
    replace H := H.2
    refine And.intro (Nat.le_of_ble_eq_true rfl) ?_
    refine And.intro (Nat.le_of_ble_eq_true rfl) ?_
    refine Cl.mono H (fun r M3 h => ?_)
    obtain ⟨v4, rfl, H⟩ := h
    obtain ⟨R, H⟩ := H
    refine And.intro (fun c => ?_) (fun c => ?_)
    · replace H := H.1 c
      exact ⟨fun _ => H.1, _, rfl, H.2⟩
    · replace H := H.2 c
      exact ⟨fun _ => H.1, _, rfl, H.2⟩

theorem r_isThere {G : GT} {d m : Nat} {M : Mem} (R : RefAt M m) {k : Int32} {Q : Int32 → Mem → Prop} (H : ¬ (16 : Int32) = 0 ∧ (¬ (16 : Int32) = 0 ∧ (CI G d 160 [.ref m, .int (k / (16 : Int32)), .int (k - k / (16 : Int32) * (16 : Int32))] M (fun v2 M1 => RefAt M1 m ∧ ((v2 = 0 ∨ v2 = 1) ∧ Q v2 M1))))) : CI G (d + 1) 161 [.ref m, .int k] M Q := by
  refine Cl.ofM (Nat.le_of_ble_eq_true rfl) rfl ?_
  refine vcc ok161 0 [] ?_
  refine And.intro H.1 ?_
  replace H := H.2
  refine And.intro H.1 ?_
  replace H := H.2
  refine And.intro (Nat.le_of_ble_eq_true rfl) ?_
  refine And.intro (Nat.le_of_ble_eq_true rfl) (And.intro R.1 ?_)
  refine Cl.mono H (fun r M1 h => ?_)
  obtain ⟨v2, rfl, H⟩ := h
  obtain ⟨R, H⟩ := H
  exact ⟨fun _ => H.1, _, rfl, H.2⟩

theorem r_hand {G : GT} {d m : Nat} {M : Mem} (R : RefAt M m) {rank : Int32} {Q : Int32 → Mem → Prop} (H : vp_in (2 : Int32) 3 ∧ (((vi M (m + 1) ((2 : Int32)).toNatClampNeg) = (4 : Int32) → Q (-1 : Int32) M) ∧ (¬ (vi M (m + 1) ((2 : Int32)).toNatClampNeg) = (4 : Int32) → CI G d 155 [.long ((rank).toInt64), .long (0 : Int64), .long (9 : Int64)] M (fun v2 M1 => RefAt M1 m ∧ ((¬ v2 = 0 → vp_in (vi M (m + 1) ((2 : Int32)).toNatClampNeg) 4 ∧ (∀ M3, M3 = seti M1 (m + 4) ((vi M (m + 1) ((2 : Int32)).toNatClampNeg)).toNatClampNeg rank → vp_in (vi M (m + 1) ((2 : Int32)).toNatClampNeg) 4 ∧ (∀ M4, M4 = seti M3 (m + 5) ((vi M (m + 1) ((2 : Int32)).toNatClampNeg)).toNatClampNeg (0 : Int32) → vp_in (2 : Int32) 3 ∧ (vp_in (2 : Int32) 3 ∧ (∀ M5, M5 = seti M4 (m + 1) ((2 : Int32)).toNatClampNeg ((vi M4 (m + 1) ((2 : Int32)).toNatClampNeg) + (1 : Int32)) → Q (vi M (m + 1) ((2 : Int32)).toNatClampNeg) M5))))) ∧ (v2 = 0 → Q (-1 : Int32) M1)))))) : CI G (d + 1) 162 [.ref m, .int rank] M Q := by
  refine Cl.ofM (Nat.le_of_ble_eq_true rfl) rfl ?_
  refine vcc ok162 0 [] ?_
  refine And.intro R.1 ?_
  refine Or.inl ⟨_, (ra_r1 R), ?_⟩
  refine Or.inl ⟨(ra_k1 R), vp_cst (ra_l1 R) H.1, ?_⟩
  replace H := H.2
  refine And.intro (fun c => ?_) (fun c => ?_)
  · replace H := H.1 c
    exact ⟨fun h => absurd h (by decide), _, rfl, H⟩
  · replace H := H.2 c
    refine And.intro (Nat.le_of_ble_eq_true rfl) ?_
    refine And.intro (Nat.le_of_ble_eq_true rfl) ?_
    refine Cl.mono H (fun r M1 h => ?_)
    obtain ⟨v2, rfl, H⟩ := h
    obtain ⟨R, H⟩ := H
    refine And.intro (fun c => ?_) (fun c => ?_)
    · replace H := H.1 c
      refine And.intro R.1 ?_
      refine Or.inl ⟨_, (ra_r4 R), ?_⟩
      refine ⟨(ra_k4 R), vp_cst (ra_l4 R) H.1, ?_⟩
      replace H := H.2
      replace H := H _ rfl
      refine And.intro R.1 ?_
      refine Or.inl ⟨_, (ra_r5 R), ?_⟩
      refine ⟨(ra_k5 R), vp_cst (ra_l5 R) H.1, ?_⟩
      replace H := H.2
      replace H := H _ rfl
      refine And.intro R.1 ?_
      refine Or.inl ⟨_, (ra_r1 R), ?_⟩
      refine Or.inl ⟨(ra_k1 R), vp_cst (ra_l1 R) H.1, ?_⟩
      replace H := H.2
      refine ⟨(ra_k1 R), vp_cst (ra_l1 R) H.1, ?_⟩
      replace H := H.2
      replace H := H _ rfl
      exact ⟨fun h => absurd h (by decide), _, rfl, H⟩
    · replace H := H.2 c
      exact ⟨fun h => absurd h (by decide), _, rfl, H⟩

theorem r_cost {G : GT} {d m : Nat} {M : Mem} (R : RefAt M m) {k : Int32} {n : Int32} {Q : Int32 → Mem → Prop} (H : CI G d 155 [.long ((k).toInt64), .long (0 : Int64), .long (6 : Int64)] M (fun v2 M1 => RefAt M1 m ∧ ((v2 = 0 → Q (-1 : Int32) M1) ∧ (¬ v2 = 0 → CI G d 155 [.long ((n).toInt64), .long (0 : Int64), .long (99 : Int64)] M1 (fun v4 M3 => RefAt M3 m ∧ ((¬ v4 = 0 → vp_in k 7 ∧ (vp_in k 7 ∧ (∀ M5, M5 = seti M3 (m + 6) (k).toNatClampNeg n → Q (vi M3 (m + 6) (k).toNatClampNeg) M5))) ∧ (v4 = 0 → Q (-1 : Int32) M3))))))) : CI G (d + 1) 163 [.ref m, .int k, .int n] M Q := by
  refine Cl.ofM (Nat.le_of_ble_eq_true rfl) rfl ?_
  refine vcc ok163 0 [] ?_
  refine And.intro (Nat.le_of_ble_eq_true rfl) ?_
  refine And.intro (Nat.le_of_ble_eq_true rfl) ?_
  refine Cl.mono H (fun r M1 h => ?_)
  obtain ⟨v2, rfl, H⟩ := h
  obtain ⟨R, H⟩ := H
  refine And.intro (fun c => ?_) (fun c => ?_)
  · replace H := H.1 c
    exact ⟨fun h => absurd h (by decide), _, rfl, H⟩
  · replace H := H.2 c
    refine And.intro (Nat.le_of_ble_eq_true rfl) ?_
    refine And.intro (Nat.le_of_ble_eq_true rfl) ?_
    refine Cl.mono H (fun r M3 h => ?_)
    obtain ⟨v4, rfl, H⟩ := h
    obtain ⟨R, H⟩ := H
    refine And.intro (fun c => ?_) (fun c => ?_)
    · replace H := H.1 c
      refine And.intro R.1 ?_
      refine Or.inl ⟨_, (ra_r6 R), ?_⟩
      refine Or.inl ⟨(ra_k6 R), vp_cst (ra_l6 R) H.1, ?_⟩
      replace H := H.2
      refine And.intro R.1 ?_
      refine Or.inl ⟨_, (ra_r6 R), ?_⟩
      refine ⟨(ra_k6 R), vp_cst (ra_l6 R) H.1, ?_⟩
      replace H := H.2
      replace H := H _ rfl
      exact ⟨fun h => absurd h (by decide), _, rfl, H⟩
    · replace H := H.2 c
      exact ⟨fun h => absurd h (by decide), _, rfl, H⟩

theorem r_feed {G : GT} {d m : Nat} {M : Mem} (R : RefAt M m) {a : Int32} {b : Int32} {c : Int32} {e : Int32} {f : Int32} {Q : Int32 → Mem → Prop} (H : (((vi M m 13) + (20 : Int32)) ≤ (400 : Int32) → CV G d 165 [.ref m, .int a] M (fun M1 => RefAt M1 m ∧ (CV G d 165 [.ref m, .int b] M1 (fun M2 => RefAt M2 m ∧ (CV G d 165 [.ref m, .int c] M2 (fun M3 => RefAt M3 m ∧ (CV G d 165 [.ref m, .int e] M3 (fun M4 => RefAt M4 m ∧ (CV G d 165 [.ref m, .int f] M4 (fun M5 => RefAt M5 m ∧ (Q (vi M5 m 13) M5))))))))))) ∧ (¬ ((vi M m 13) + (20 : Int32)) ≤ (400 : Int32) → Q (-1 : Int32) M)) : CI G (d + 1) 164 [.ref m, .int a, .int b, .int c, .int e, .int f] M Q := by
  refine Cl.ofM (Nat.le_of_ble_eq_true rfl) rfl ?_
  refine vcc ok164 0 [] ?_
  refine And.intro R.1 ?_
  refine And.intro (fun c => ?_) (fun c => ?_)
  · replace H := H.1 c
    refine And.intro (Nat.le_of_ble_eq_true rfl) ?_
    refine And.intro (Nat.le_of_ble_eq_true rfl) (And.intro R.1 ?_)
    refine Cl.mono H (fun r M1 h => ?_)
    obtain ⟨rfl, H⟩ := h
    obtain ⟨R, H⟩ := H
    refine And.intro (Nat.le_of_ble_eq_true rfl) ?_
    refine And.intro (Nat.le_of_ble_eq_true rfl) (And.intro R.1 ?_)
    refine Cl.mono H (fun r M2 h => ?_)
    obtain ⟨rfl, H⟩ := h
    obtain ⟨R, H⟩ := H
    refine And.intro (Nat.le_of_ble_eq_true rfl) ?_
    refine And.intro (Nat.le_of_ble_eq_true rfl) (And.intro R.1 ?_)
    refine Cl.mono H (fun r M3 h => ?_)
    obtain ⟨rfl, H⟩ := h
    obtain ⟨R, H⟩ := H
    refine And.intro (Nat.le_of_ble_eq_true rfl) ?_
    refine And.intro (Nat.le_of_ble_eq_true rfl) (And.intro R.1 ?_)
    refine Cl.mono H (fun r M4 h => ?_)
    obtain ⟨rfl, H⟩ := h
    obtain ⟨R, H⟩ := H
    refine And.intro (Nat.le_of_ble_eq_true rfl) ?_
    refine And.intro (Nat.le_of_ble_eq_true rfl) (And.intro R.1 ?_)
    refine Cl.mono H (fun r M5 h => ?_)
    obtain ⟨rfl, H⟩ := h
    obtain ⟨R, H⟩ := H
    refine And.intro R.1 ?_
    exact ⟨fun h => absurd h (by decide), _, rfl, H⟩
  · replace H := H.2 c
    exact ⟨fun h => absurd h (by decide), _, rfl, H⟩

theorem r_put4 {G : GT} {d m : Nat} {M : Mem} (R : RefAt M m) {x : Int32} {Q : Mem → Prop} (H : At G (d + 1) 165 3 [(0, .ref m), (1, .int x), (2, .int (24 : Int32))] [] M (qV Q)) : CV G (d + 1) 165 [.ref m, .int x] M Q := by
  refine Cl.ofM (Nat.le_of_ble_eq_true rfl) rfl ?_
  refine vcc ok165 0 [3] ?_
  exact H

theorem r_put4_3 {G : GT} {d m : Nat} {M : Mem} (R : RefAt M m) {l1 : Int32} {l2 : Int32} {Q : Mem → Prop} (H : (l2 < 0 → Q M) ∧ (¬ l2 < 0 → vp_in (vi M m 13) 400 ∧ (∀ M1, M1 = seti M (m + 13) ((vi M m 13)).toNatClampNeg (((l1 >>> (l2 &&& 31))).toInt8.toInt32).toInt8.toInt32 → ∀ M2, M2 = seti M1 m 13 ((vi M1 m 13) + (1 : Int32)) → At G (d + 1) 165 3 [(0, .ref m), (1, .int l1), (2, .int (l2 + (-8 : Int32)))] [] M2 (qV Q)))) : At G (d + 1) 165 3 [(0, .ref m), (1, .int l1), (2, .int l2)] [] M (qV Q) := by
  refine vcc ok165 2 [] ?_
  refine And.intro (fun c => ?_) (fun c => ?_)
  · replace H := H.1 c
    exact ⟨rfl, H⟩
  · replace H := H.2 c
    refine And.intro R.1 ?_
    refine Or.inl ⟨_, (ra_r23 R), ?_⟩
    refine And.intro R.1 ?_
    refine Or.inl ⟨(ra_k23 R), vp_cst (ra_l23 R) H.1, ?_⟩
    replace H := H.2
    replace H := H _ rfl
    refine And.intro R.1 ?_
    refine And.intro R.1 ?_
    refine And.intro (Or.inl rfl) (And.intro (fun h => absurd h (by decide)) ?_)
    replace H := H _ rfl
    exact H

theorem r_end {G : GT} {d m : Nat} {M : Mem} (R : RefAt M m) {n : Int32} {Q : Int32 → Mem → Prop} (H : (n < 0 → Q (-1 : Int32) M) ∧ (¬ n < 0 → (n ≤ (vi M m 13) → ∀ M1, M1 = seti M m 13 n → Q n M1) ∧ (¬ n ≤ (vi M m 13) → Q (-1 : Int32) M))) : CI G (d + 1) 166 [.ref m, .int n] M Q := by
  refine Cl.ofM (Nat.le_of_ble_eq_true rfl) rfl ?_
  refine vcc ok166 0 [] ?_
  refine And.intro (fun c => ?_) (fun c => ?_)
  · replace H := H.1 c
    exact ⟨fun h => absurd h (by decide), _, rfl, H⟩
  · replace H := H.2 c
    refine And.intro R.1 ?_
    refine And.intro (fun c => ?_) (fun c => ?_)
    · replace H := H.1 c
      refine And.intro R.1 ?_
      refine And.intro (Or.inl rfl) (And.intro (fun h => absurd h (by decide)) ?_)
      replace H := H _ rfl
      exact ⟨fun h => absurd h (by decide), _, rfl, H⟩
    · replace H := H.2 c
      exact ⟨fun h => absurd h (by decide), _, rfl, H⟩

theorem r_isByte {G : GT} {d : Nat} {M : Mem} {c : Int32} {Q : Int32 → Mem → Prop} (H : CI G d 155 [.long ((c).toInt64), .long (32 : Int64), .long (126 : Int64)] M (fun v2 M1 => (v2 = 0 ∨ v2 = 1) ∧ Q v2 M1)) : CI G (d + 1) 167 [.int c] M Q := by
  refine Cl.ofM (Nat.le_of_ble_eq_true rfl) rfl ?_
  refine vcc ok167 0 [] ?_
  refine And.intro (Nat.le_of_ble_eq_true rfl) ?_
  refine And.intro (Nat.le_of_ble_eq_true rfl) ?_
  refine Cl.mono H (fun r M1 h => ?_)
  obtain ⟨v2, rfl, H⟩ := h
  exact ⟨fun _ => H.1, _, rfl, H.2⟩

theorem r_wrongByte {G : GT} {d m : Nat} {M : Mem} (R : RefAt M m)  {Q : Int32 → Mem → Prop} (H : At G (d + 1) 168 2 [(0, .ref m), (1, .int (0 : Int32))] [] M (qI Q)) : CI G (d + 1) 168 [.ref m] M Q := by
  refine Cl.ofM (Nat.le_of_ble_eq_true rfl) rfl ?_
  refine vcc ok168 0 [2] ?_
  exact H

theorem r_wrongByte_2 {G : GT} {d m : Nat} {M : Mem} (R : RefAt M m) {l1 : Int32} {Q : Int32 → Mem → Prop} (H : ((vi M m 13) ≤ l1 → Q (-1 : Int32) M) ∧ (¬ (vi M m 13) ≤ l1 → (l1 = (200 : Int32) → Q l1 M) ∧ (¬ l1 = (200 : Int32) → vp_in l1 400 ∧ (CI G d 167 [.int ((vi M (m + 13) (l1).toNatClampNeg) &&& (255 : Int32))] M (fun v2 M1 => RefAt M1 m ∧ ((¬ v2 = 0 → At G (d + 1) 168 2 [(0, .ref m), (1, .int (l1 + (1 : Int32)))] [] M1 (qI Q)) ∧ (v2 = 0 → Q l1 M1))))))) : At G (d + 1) 168 2 [(0, .ref m), (1, .int l1)] [] M (qI Q) := by
  refine vcc ok168 2 [] ?_
  refine And.intro R.1 ?_
  refine And.intro (fun c => ?_) (fun c => ?_)
  · replace H := H.1 c
    exact ⟨fun h => absurd h (by decide), _, rfl, H⟩
  · replace H := H.2 c
    refine And.intro (fun c => ?_) (fun c => ?_)
    · replace H := H.1 c
      exact ⟨fun h => absurd h (by decide), _, rfl, H⟩
    · replace H := H.2 c
      refine And.intro R.1 ?_
      refine Or.inl ⟨_, (ra_r23 R), ?_⟩
      refine ⟨(Or.inl (ra_k23 R)), vp_cst (ra_l23 R) H.1, ?_⟩
      replace H := H.2
      refine And.intro (Nat.le_of_ble_eq_true rfl) ?_
      refine And.intro (Nat.le_of_ble_eq_true rfl) ?_
      refine Cl.mono H (fun r M1 h => ?_)
      obtain ⟨v2, rfl, H⟩ := h
      obtain ⟨R, H⟩ := H
      refine And.intro (fun c => ?_) (fun c => ?_)
      · replace H := H.1 c
        exact H
      · replace H := H.2 c
        exact ⟨fun h => absurd h (by decide), _, rfl, H⟩

theorem r_galley {G : GT} {d m : Nat} {M : Mem} (R : RefAt M m)  {Q : Int32 → Mem → Prop} (H : CI G d 168 [.ref m] M (fun v2 M1 => RefAt M1 m ∧ (∀ M3, M3 = seti M1 m 13 (0 : Int32) → (v2 = (-1 : Int32) → At G (d + 1) 169 27 [(0, .ref m), (2, .int (vi M1 m 13)), (3, .int (0 : Int32))] [] M3 (qI Q)) ∧ (¬ v2 = (-1 : Int32) → Q ((-2 : Int32) - v2) M3)))) : CI G (d + 1) 169 [.ref m] M Q := by
  refine Cl.ofM (Nat.le_of_ble_eq_true rfl) rfl ?_
  refine vcc ok169 0 [27, 59] ?_
  refine And.intro (Nat.le_of_ble_eq_true rfl) ?_
  refine And.intro (Nat.le_of_ble_eq_true rfl) (And.intro R.1 ?_)
  refine Cl.mono H (fun r M1 h => ?_)
  obtain ⟨v2, rfl, H⟩ := h
  obtain ⟨R, H⟩ := H
  refine And.intro R.1 ?_
  refine And.intro R.1 ?_
  refine And.intro (Or.inl rfl) (And.intro (fun h => absurd h (by decide)) ?_)
  replace H := H _ rfl
  refine And.intro (fun c => ?_) (fun c => ?_)
  · replace H := H.1 c
    exact At.keep [0, 2, 3] H
  · replace H := H.2 c
    exact ⟨fun h => absurd h (by decide), _, rfl, H⟩

theorem r_galley_27 {G : GT} {d m : Nat} {M : Mem} (R : RefAt M m) {l2 : Int32} {l3 : Int32} {Q : Int32 → Mem → Prop} (H : (l2 ≤ l3 → vp_in (0 : Int32) 3 ∧ (∀ M4, M4 = seti M (m + 1) ((0 : Int32)).toNatClampNeg l2 → At G (d + 1) 169 59 [(0, .ref m), (2, .int l2), (3, .int (0 : Int32))] [] M4 (qI Q))) ∧ (¬ l2 ≤ l3 → vp_in l3 400 ∧ (vp_in l3 200 ∧ (∀ M5, M5 = seti M (m + 2) (l3).toNatClampNeg (vi M (m + 13) (l3).toNatClampNeg) → At G (d + 1) 169 27 [(0, .ref m), (2, .int l2), (3, .int (l3 + (1 : Int32)))] [] M5 (qI Q))))) : At G (d + 1) 169 27 [(0, .ref m), (2, .int l2), (3, .int l3)] [] M (qI Q) := by
  refine vcc ok169 18 [59] ?_
  refine And.intro (fun c => ?_) (fun c => ?_)
  · replace H := H.1 c
    refine And.intro R.1 ?_
    refine Or.inl ⟨_, (ra_r1 R), ?_⟩
    refine ⟨(ra_k1 R), vp_cst (ra_l1 R) H.1, ?_⟩
    replace H := H.2
    replace H := H _ rfl
    exact H
  · replace H := H.2 c
    refine And.intro R.1 ?_
    refine Or.inl ⟨_, (ra_r2 R), ?_⟩
    refine And.intro R.1 ?_
    refine Or.inl ⟨_, (ra_r23 R), ?_⟩
    refine ⟨(Or.inl (ra_k23 R)), vp_cst (ra_l23 R) H.1, ?_⟩
    replace H := H.2
    refine ⟨(ra_k2 R), vp_cst (ra_l2 R) H.1, ?_⟩
    replace H := H.2
    replace H := H _ rfl
    exact H

theorem r_galley_59 {G : GT} {d m : Nat} {M : Mem} (R : RefAt M m) {l2 : Int32} {l3 : Int32} {Q : Int32 → Mem → Prop} (H : ((4 : Int32) ≤ l3 → Q l2 M) ∧ (¬ (4 : Int32) ≤ l3 → vp_in l3 4 ∧ (∀ M6, M6 = seti M (m + 5) (l3).toNatClampNeg (0 : Int32) → At G (d + 1) 169 59 [(0, .ref m), (2, .int l2), (3, .int (l3 + (1 : Int32)))] [] M6 (qI Q)))) : At G (d + 1) 169 59 [(0, .ref m), (2, .int l2), (3, .int l3)] [] M (qI Q) := by
  refine vcc ok169 38 [27] ?_
  refine And.intro (fun c => ?_) (fun c => ?_)
  · replace H := H.1 c
    exact ⟨fun h => absurd h (by decide), _, rfl, H⟩
  · replace H := H.2 c
    refine And.intro R.1 ?_
    refine Or.inl ⟨_, (ra_r5 R), ?_⟩
    refine ⟨(ra_k5 R), vp_cst (ra_l5 R) H.1, ?_⟩
    replace H := H.2
    replace H := H _ rfl
    exact H

theorem r_wishes {G : GT} {d m : Nat} {M : Mem} (R : RefAt M m)  {Q : Int32 → Mem → Prop} (H : CI G d 168 [.ref m] M (fun v2 M1 => RefAt M1 m ∧ (∀ M3, M3 = seti M1 m 13 (0 : Int32) → (v2 = (-1 : Int32) → At G (d + 1) 170 27 [(0, .ref m), (2, .int (vi M1 m 13)), (3, .int (0 : Int32))] [] M3 (qI Q)) ∧ (¬ v2 = (-1 : Int32) → Q ((-2 : Int32) - v2) M3)))) : CI G (d + 1) 170 [.ref m] M Q := by
  refine Cl.ofM (Nat.le_of_ble_eq_true rfl) rfl ?_
  refine vcc ok170 0 [27] ?_
  refine And.intro (Nat.le_of_ble_eq_true rfl) ?_
  refine And.intro (Nat.le_of_ble_eq_true rfl) (And.intro R.1 ?_)
  refine Cl.mono H (fun r M1 h => ?_)
  obtain ⟨v2, rfl, H⟩ := h
  obtain ⟨R, H⟩ := H
  refine And.intro R.1 ?_
  refine And.intro R.1 ?_
  refine And.intro (Or.inl rfl) (And.intro (fun h => absurd h (by decide)) ?_)
  replace H := H _ rfl
  refine And.intro (fun c => ?_) (fun c => ?_)
  · replace H := H.1 c
    exact At.keep [0, 2, 3] H
  · replace H := H.2 c
    exact ⟨fun h => absurd h (by decide), _, rfl, H⟩

theorem r_wishes_27 {G : GT} {d m : Nat} {M : Mem} (R : RefAt M m) {l2 : Int32} {l3 : Int32} {Q : Int32 → Mem → Prop} (H : (l2 ≤ l3 → vp_in (1 : Int32) 3 ∧ (∀ M4, M4 = seti M (m + 1) ((1 : Int32)).toNatClampNeg l2 → Q l2 M4)) ∧ (¬ l2 ≤ l3 → vp_in l3 400 ∧ (vp_in l3 200 ∧ (∀ M5, M5 = seti M (m + 3) (l3).toNatClampNeg (vi M (m + 13) (l3).toNatClampNeg) → At G (d + 1) 170 27 [(0, .ref m), (2, .int l2), (3, .int (l3 + (1 : Int32)))] [] M5 (qI Q))))) : At G (d + 1) 170 27 [(0, .ref m), (2, .int l2), (3, .int l3)] [] M (qI Q) := by
  refine vcc ok170 18 [] ?_
  refine And.intro (fun c => ?_) (fun c => ?_)
  · replace H := H.1 c
    refine And.intro R.1 ?_
    refine Or.inl ⟨_, (ra_r1 R), ?_⟩
    refine ⟨(ra_k1 R), vp_cst (ra_l1 R) H.1, ?_⟩
    replace H := H.2
    replace H := H _ rfl
    exact ⟨fun h => absurd h (by decide), _, rfl, H⟩
  · replace H := H.2 c
    refine And.intro R.1 ?_
    refine Or.inl ⟨_, (ra_r3 R), ?_⟩
    refine And.intro R.1 ?_
    refine Or.inl ⟨_, (ra_r23 R), ?_⟩
    refine ⟨(Or.inl (ra_k23 R)), vp_cst (ra_l23 R) H.1, ?_⟩
    replace H := H.2
    refine ⟨(ra_k3 R), vp_cst (ra_l3 R) H.1, ?_⟩
    replace H := H.2
    replace H := H _ rfl
    exact H
