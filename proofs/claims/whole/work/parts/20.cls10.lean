/-! THE CLASS, block by block: by program (wip/tools/clsall.py) -/
theorem c_X10_settle {G : GT} {d : Nat} {M : Mem} {o : Nat} (O : ObAt 10 M o) {a1 : Nat} (Pa1 : ObAt 8 M a1) {a2 : Nat} (Pa2 : ObAt 2 M a2)  {Q : Mem → Prop} (H : At G (d + 1) 99 2 [(0, .ref o), (1, .ref a1), (2, .ref a2), (3, .int (0 : Int32))] [] M (qV Q)) : CV G (d + 1) 99 [.ref o, .ref a1, .ref a2] M Q := by
  refine Cl.ofM (Nat.le_of_ble_eq_true rfl) rfl ?_
  refine vcc ok99 0 [2, 53] ?_
  exact H

theorem c_X10_settle_2 {G : GT} {d : Nat} {M : Mem} {o : Nat} (O : ObAt 10 M o) {a1 : Nat} (Pa1 : ObAt 8 M a1) {a2 : Nat} (Pa2 : ObAt 2 M a2) {l3 : Int32} {Q : Mem → Prop} (H : ((64 : Int32) ≤ l3 → ∀ M1, M1 = setl M o 6 (0 : Int64) → At G (d + 1) 99 53 [(0, .ref o), (1, .ref a1), (3, .int (0 : Int32))] [] M1 (qV Q)) ∧ (¬ (64 : Int32) ≤ l3 → CJ G d 25 [.ref a2, .ref a1, .int l3] M (fun v3 M2 => (ObAt 10 M2 o ∧ ObAt 8 M2 a1 ∧ ObAt 2 M2 a2) ∧ (vp_in l3 64 ∧ (∀ M4, M4 = setl M2 (o + 1) (l3).toNatClampNeg v3 → vp_in l3 64 ∧ ((∀ r5, (vr M4 (a1 + 5) (l3).toNatClampNeg) = some r5 → vp_in l3 64 ∧ (∀ M6, M6 = seti M4 (o + 2) (l3).toNatClampNeg (3 : Int32) → At G (d + 1) 99 2 [(0, .ref o), (1, .ref a1), (2, .ref a2), (3, .int (l3 + (1 : Int32)))] [] M6 (qV Q))) ∧ ((vr M4 (a1 + 5) (l3).toNatClampNeg) = none → vp_in l3 64 ∧ (∀ M7, M7 = seti M4 (o + 2) (l3).toNatClampNeg (-1 : Int32) → At G (d + 1) 99 2 [(0, .ref o), (1, .ref a1), (2, .ref a2), (3, .int (l3 + (1 : Int32)))] [] M7 (qV Q))))))))) : At G (d + 1) 99 2 [(0, .ref o), (1, .ref a1), (2, .ref a2), (3, .int l3)] [] M (qV Q) := by
  refine vcc ok99 2 [53] ?_
  refine And.intro (fun c => ?_) (fun c => ?_)
  · replace H := H.1 c
    refine And.intro O.1 ?_
    refine And.intro rfl ?_
    replace H := H _ rfl
    exact At.keep [0, 1, 3] H
  · replace H := H.2 c
    refine And.intro O.1 ?_
    refine Or.inl ⟨_, (ob10_r0 O), ?_⟩
    refine And.intro (Nat.le_of_ble_eq_true rfl) ?_
    refine And.intro (Nat.le_of_ble_eq_true rfl) (And.intro Pa2.1 ?_)
    refine Cl.mono H (fun r M2 h => ?_)
    obtain ⟨v3, rfl, H⟩ := h
    obtain ⟨⟨O, Pa1, Pa2⟩, H⟩ := H
    refine ⟨(ob10_k0 O), vp_cst (ob10_l0 O) H.1, ?_⟩
    replace H := H.2
    replace H := H _ rfl
    refine And.intro O.1 ?_
    refine Or.inl ⟨_, (ob10_r1 O), ?_⟩
    refine And.intro Pa1.1 ?_
    refine Or.inl ⟨_, (ob8_r7 Pa1), ?_⟩
    refine ⟨(k18 (ob8_k7 Pa1)), vp_cst (ob8_l7 Pa1) H.1, ?_⟩
    replace H := H.2
    refine wRef_i (fun r5 hr => ?_) (fun hr => ?_)
    · replace H := H.1 _ hr
      refine ⟨(ob10_k1 O), vp_cst (ob10_l1 O) H.1, ?_⟩
      replace H := H.2
      replace H := H _ rfl
      exact H
    · replace H := H.2 hr
      refine ⟨(ob10_k1 O), vp_cst (ob10_l1 O) H.1, ?_⟩
      replace H := H.2
      replace H := H _ rfl
      exact H

theorem c_X10_settle_53 {G : GT} {d : Nat} {M : Mem} {o : Nat} (O : ObAt 10 M o) {a1 : Nat} (Pa1 : ObAt 8 M a1) {a2 : Nat} (Pa2 : ObAt 2 M a2) {l3 : Int32} {Q : Mem → Prop} (H : ((64 : Int32) ≤ l3 → Q M) ∧ (¬ (64 : Int32) ≤ l3 → CI G d 100 [.ref o] M (fun v9 M8 => (ObAt 10 M8 o ∧ ObAt 8 M8 a1 ∧ ObAt 2 M8 a2) ∧ ((0 ≤ v9 → vp_in v9 64 ∧ (CV G d 101 [.ref o, .ref a1, .long (vl M8 (o + 1) (v9).toNatClampNeg)] M8 (fun M10 => (ObAt 10 M10 o ∧ ObAt 8 M10 a1 ∧ ObAt 2 M10 a2) ∧ (At G (d + 1) 99 53 [(0, .ref o), (1, .ref a1), (3, .int (l3 + (1 : Int32)))] [] M10 (qV Q))))) ∧ (¬ 0 ≤ v9 → Q M8))))) : At G (d + 1) 99 53 [(0, .ref o), (1, .ref a1), (3, .int l3)] [] M (qV Q) := by
  refine vcc ok99 32 [2] ?_
  refine And.intro (fun c => ?_) (fun c => ?_)
  · replace H := H.1 c
    exact ⟨rfl, H⟩
  · replace H := H.2 c
    refine And.intro (Nat.le_of_ble_eq_true rfl) ?_
    refine And.intro (Nat.le_of_ble_eq_true rfl) (And.intro O.1 ?_)
    refine Cl.mono H (fun r M8 h => ?_)
    obtain ⟨v9, rfl, H⟩ := h
    obtain ⟨⟨O, Pa1, Pa2⟩, H⟩ := H
    refine And.intro (fun c => ?_) (fun c => ?_)
    · replace H := H.1 c
      refine And.intro O.1 ?_
      refine Or.inl ⟨_, (ob10_r0 O), ?_⟩
      refine ⟨(ob10_k0 O), vp_cst (ob10_l0 O) H.1, ?_⟩
      replace H := H.2
      refine And.intro (Nat.le_of_ble_eq_true rfl) ?_
      refine And.intro (Nat.le_of_ble_eq_true rfl) (And.intro O.1 ?_)
      refine Cl.mono H (fun r M10 h => ?_)
      obtain ⟨rfl, H⟩ := h
      obtain ⟨⟨O, Pa1, Pa2⟩, H⟩ := H
      exact At.keep [0, 1, 3] H
    · replace H := H.2 c
      exact ⟨rfl, H⟩

theorem c_X10_heaviestWaiting {G : GT} {d : Nat} {M : Mem} {o : Nat} (O : ObAt 10 M o)  {Q : Int32 → Mem → Prop} (H : At G (d + 1) 100 4 [(0, .ref o), (1, .int (-1 : Int32)), (2, .int (0 : Int32))] [] M (qI Q)) : CI G (d + 1) 100 [.ref o] M Q := by
  refine Cl.ofM (Nat.le_of_ble_eq_true rfl) rfl ?_
  refine vcc ok100 0 [4] ?_
  exact H

theorem c_X10_heaviestWaiting_4 {G : GT} {d : Nat} {M : Mem} {o : Nat} (O : ObAt 10 M o) {l1 : Int32} {l2 : Int32} {Q : Int32 → Mem → Prop} (H : ((64 : Int32) ≤ l2 → Q l1 M) ∧ (¬ (64 : Int32) ≤ l2 → vp_in l2 64 ∧ ((¬ (vi M (o + 2) (l2).toNatClampNeg) = (3 : Int32) → At G (d + 1) 100 4 [(0, .ref o), (1, .int l1), (2, .int (l2 + (1 : Int32)))] [] M (qI Q)) ∧ ((vi M (o + 2) (l2).toNatClampNeg) = (3 : Int32) → (l1 < 0 → At G (d + 1) 100 4 [(0, .ref o), (1, .int l2), (2, .int (l2 + (1 : Int32)))] [] M (qI Q)) ∧ (¬ l1 < 0 → vp_in l2 64 ∧ (vp_in l1 64 ∧ (((lg_cmp (vl M (o + 1) (l2).toNatClampNeg) (vl M (o + 1) (l1).toNatClampNeg)) ≤ 0 → At G (d + 1) 100 4 [(0, .ref o), (1, .int l1), (2, .int (l2 + (1 : Int32)))] [] M (qI Q)) ∧ (¬ (lg_cmp (vl M (o + 1) (l2).toNatClampNeg) (vl M (o + 1) (l1).toNatClampNeg)) ≤ 0 → At G (d + 1) 100 4 [(0, .ref o), (1, .int l2), (2, .int (l2 + (1 : Int32)))] [] M (qI Q))))))))) : At G (d + 1) 100 4 [(0, .ref o), (1, .int l1), (2, .int l2)] [] M (qI Q) := by
  refine vcc ok100 4 [] ?_
  refine And.intro (fun c => ?_) (fun c => ?_)
  · replace H := H.1 c
    exact ⟨fun h => absurd h (by decide), _, rfl, H⟩
  · replace H := H.2 c
    refine And.intro O.1 ?_
    refine Or.inl ⟨_, (ob10_r1 O), ?_⟩
    refine Or.inl ⟨(ob10_k1 O), vp_cst (ob10_l1 O) H.1, ?_⟩
    replace H := H.2
    refine And.intro (fun c => ?_) (fun c => ?_)
    · replace H := H.1 c
      exact H
    · replace H := H.2 c
      refine And.intro (fun c => ?_) (fun c => ?_)
      · replace H := H.1 c
        exact H
      · replace H := H.2 c
        refine And.intro O.1 ?_
        refine Or.inl ⟨_, (ob10_r0 O), ?_⟩
        refine ⟨(ob10_k0 O), vp_cst (ob10_l0 O) H.1, ?_⟩
        replace H := H.2
        refine And.intro O.1 ?_
        refine Or.inl ⟨_, (ob10_r0 O), ?_⟩
        refine ⟨(ob10_k0 O), vp_cst (ob10_l0 O) H.1, ?_⟩
        replace H := H.2
        refine And.intro (fun c => ?_) (fun c => ?_)
        · replace H := H.1 c
          exact H
        · replace H := H.2 c
          exact H

theorem c_X10_decide {G : GT} {d : Nat} {M : Mem} {o : Nat} (O : ObAt 10 M o) {a1 : Nat} (Pa1 : ObAt 8 M a1) {a2 : Int64} {Q : Mem → Prop} (H : At G (d + 1) 101 6 [(0, .ref o), (1, .ref a1), (2, .long a2), (4, .long (0 : Int64)), (6, .int (0 : Int32))] [] M (qV Q)) : CV G (d + 1) 101 [.ref o, .ref a1, .long a2] M Q := by
  refine Cl.ofM (Nat.le_of_ble_eq_true rfl) rfl ?_
  refine vcc ok101 0 [6, 85] ?_
  exact H

theorem c_X10_decide_6 {G : GT} {d : Nat} {M : Mem} {o : Nat} (O : ObAt 10 M o) {a1 : Nat} (Pa1 : ObAt 8 M a1) {l2 : Int64} {l4 : Int64} {l6 : Int32} {Q : Mem → Prop} (H : ((64 : Int32) ≤ l6 → At G (d + 1) 101 85 [(0, .ref o), (1, .ref a1), (4, .long l4), (6, .int (0 : Int32))] [] M (qV Q)) ∧ (¬ (64 : Int32) ≤ l6 → vp_in l6 64 ∧ ((¬ (vi M (o + 2) (l6).toNatClampNeg) = (3 : Int32) → At G (d + 1) 101 6 [(0, .ref o), (1, .ref a1), (2, .long l2), (4, .long l4), (6, .int (l6 + (1 : Int32)))] [] M (qV Q)) ∧ ((vi M (o + 2) (l6).toNatClampNeg) = (3 : Int32) → vp_in l6 64 ∧ (((lg_cmp (vl M (o + 1) (l6).toNatClampNeg) l2) = 0 → vp_in l6 64 ∧ (((lg_cmp ((vl M (a1 + 8) (l6).toNatClampNeg) &&& (vl M o 6)) (0 : Int64)) = 0 → At G (d + 1) 101 6 [(0, .ref o), (1, .ref a1), (2, .long l2), (4, .long (l4 ||| ((1 : Int64) <<< ((l6).toInt64 &&& 63)))), (6, .int (l6 + (1 : Int32)))] [] M (qV Q)) ∧ (¬ (lg_cmp ((vl M (a1 + 8) (l6).toNatClampNeg) &&& (vl M o 6)) (0 : Int64)) = 0 → vp_in l6 64 ∧ (∀ M1, M1 = seti M (o + 2) (l6).toNatClampNeg (0 : Int32) → At G (d + 1) 101 6 [(0, .ref o), (1, .ref a1), (2, .long l2), (4, .long l4), (6, .int (l6 + (1 : Int32)))] [] M1 (qV Q))))) ∧ (¬ (lg_cmp (vl M (o + 1) (l6).toNatClampNeg) l2) = 0 → At G (d + 1) 101 6 [(0, .ref o), (1, .ref a1), (2, .long l2), (4, .long l4), (6, .int (l6 + (1 : Int32)))] [] M (qV Q))))))) : At G (d + 1) 101 6 [(0, .ref o), (1, .ref a1), (2, .long l2), (4, .long l4), (6, .int l6)] [] M (qV Q) := by
  refine vcc ok101 4 [85] ?_
  refine And.intro (fun c => ?_) (fun c => ?_)
  · replace H := H.1 c
    exact At.keep [0, 1, 4, 6] H
  · replace H := H.2 c
    refine And.intro O.1 ?_
    refine Or.inl ⟨_, (ob10_r1 O), ?_⟩
    refine Or.inl ⟨(ob10_k1 O), vp_cst (ob10_l1 O) H.1, ?_⟩
    replace H := H.2
    refine And.intro (fun c => ?_) (fun c => ?_)
    · replace H := H.1 c
      exact H
    · replace H := H.2 c
      refine And.intro O.1 ?_
      refine Or.inl ⟨_, (ob10_r0 O), ?_⟩
      refine ⟨(ob10_k0 O), vp_cst (ob10_l0 O) H.1, ?_⟩
      replace H := H.2
      refine And.intro (fun c => ?_) (fun c => ?_)
      · replace H := H.1 c
        refine And.intro Pa1.1 ?_
        refine Or.inl ⟨_, (ob8_r10 Pa1), ?_⟩
        refine ⟨(ob8_k10 Pa1), vp_cst (ob8_l10 Pa1) H.1, ?_⟩
        replace H := H.2
        refine And.intro O.1 ?_
        refine And.intro (fun c => ?_) (fun c => ?_)
        · replace H := H.1 c
          exact H
        · replace H := H.2 c
          refine And.intro O.1 ?_
          refine Or.inl ⟨_, (ob10_r1 O), ?_⟩
          refine ⟨(ob10_k1 O), vp_cst (ob10_l1 O) H.1, ?_⟩
          replace H := H.2
          replace H := H _ rfl
          exact H
      · replace H := H.2 c
        exact H

theorem c_X10_decide_85 {G : GT} {d : Nat} {M : Mem} {o : Nat} (O : ObAt 10 M o) {a1 : Nat} (Pa1 : ObAt 8 M a1) {l4 : Int64} {l6 : Int32} {Q : Mem → Prop} (H : ((64 : Int32) ≤ l6 → Q M) ∧ (¬ (64 : Int32) ≤ l6 → (¬ (lg_cmp ((((l4).toUInt64 >>> ((l6).toInt64.toUInt64 &&& Int64.toUInt64 63)).toInt64) &&& (1 : Int64)) (0 : Int64)) = 0 → vp_in l6 64 ∧ (((lg_cmp ((vl M (a1 + 8) (l6).toNatClampNeg) &&& l4) (0 : Int64)) = 0 → vp_in l6 64 ∧ (∀ M2, M2 = seti M (o + 2) (l6).toNatClampNeg (1 : Int32) → ∀ M3, M3 = setl M2 o 6 ((vl M2 o 6) ||| ((1 : Int64) <<< ((l6).toInt64 &&& 63))) → At G (d + 1) 101 85 [(0, .ref o), (1, .ref a1), (4, .long l4), (6, .int (l6 + (1 : Int32)))] [] M3 (qV Q))) ∧ (¬ (lg_cmp ((vl M (a1 + 8) (l6).toNatClampNeg) &&& l4) (0 : Int64)) = 0 → vp_in l6 64 ∧ (∀ M4, M4 = seti M (o + 2) (l6).toNatClampNeg (2 : Int32) → At G (d + 1) 101 85 [(0, .ref o), (1, .ref a1), (4, .long l4), (6, .int (l6 + (1 : Int32)))] [] M4 (qV Q))))) ∧ ((lg_cmp ((((l4).toUInt64 >>> ((l6).toInt64.toUInt64 &&& Int64.toUInt64 63)).toInt64) &&& (1 : Int64)) (0 : Int64)) = 0 → At G (d + 1) 101 85 [(0, .ref o), (1, .ref a1), (4, .long l4), (6, .int (l6 + (1 : Int32)))] [] M (qV Q)))) : At G (d + 1) 101 85 [(0, .ref o), (1, .ref a1), (4, .long l4), (6, .int l6)] [] M (qV Q) := by
  refine vcc ok101 47 [6] ?_
  refine And.intro (fun c => ?_) (fun c => ?_)
  · replace H := H.1 c
    exact ⟨rfl, H⟩
  · replace H := H.2 c
    refine And.intro (fun c => ?_) (fun c => ?_)
    · replace H := H.1 c
      refine And.intro Pa1.1 ?_
      refine Or.inl ⟨_, (ob8_r10 Pa1), ?_⟩
      refine ⟨(ob8_k10 Pa1), vp_cst (ob8_l10 Pa1) H.1, ?_⟩
      replace H := H.2
      refine And.intro (fun c => ?_) (fun c => ?_)
      · replace H := H.1 c
        refine And.intro O.1 ?_
        refine Or.inl ⟨_, (ob10_r1 O), ?_⟩
        refine ⟨(ob10_k1 O), vp_cst (ob10_l1 O) H.1, ?_⟩
        replace H := H.2
        replace H := H _ rfl
        refine And.intro O.1 ?_
        refine And.intro O.1 ?_
        refine And.intro rfl ?_
        replace H := H _ rfl
        exact H
      · replace H := H.2 c
        refine And.intro O.1 ?_
        refine Or.inl ⟨_, (ob10_r1 O), ?_⟩
        refine ⟨(ob10_k1 O), vp_cst (ob10_l1 O) H.1, ?_⟩
        replace H := H.2
        replace H := H _ rfl
        exact H
    · replace H := H.2 c
      exact H

theorem c_X10_feller {G : GT} {d : Nat} {M : Mem} {o : Nat} (O : ObAt 10 M o) {a1 : Nat} (Pa1 : ObAt 8 M a1) {a2 : Int32} {Q : Int32 → Mem → Prop} (H : (a2 < 0 → Q (-1 : Int32) M) ∧ (¬ a2 < 0 → (a2 < (64 : Int32) → vp_in a2 64 ∧ (At G (d + 1) 102 27 [(3, .long ((vl M (a1 + 8) (a2).toNatClampNeg) &&& (vl M o 6))), (5, .int (0 : Int32))] [] M (qI Q))) ∧ (¬ a2 < (64 : Int32) → Q (-1 : Int32) M))) : CI G (d + 1) 102 [.ref o, .ref a1, .int a2] M Q := by
  refine Cl.ofM (Nat.le_of_ble_eq_true rfl) rfl ?_
  refine vcc ok102 0 [27] ?_
  refine And.intro (fun c => ?_) (fun c => ?_)
  · replace H := H.1 c
    exact ⟨fun h => absurd h (by decide), _, rfl, H⟩
  · replace H := H.2 c
    refine And.intro (fun c => ?_) (fun c => ?_)
    · replace H := H.1 c
      refine And.intro Pa1.1 ?_
      refine Or.inl ⟨_, (ob8_r10 Pa1), ?_⟩
      refine ⟨(ob8_k10 Pa1), vp_cst (ob8_l10 Pa1) H.1, ?_⟩
      replace H := H.2
      refine And.intro O.1 ?_
      exact At.keep [3, 5] H
    · replace H := H.2 c
      exact ⟨fun h => absurd h (by decide), _, rfl, H⟩

theorem c_X10_feller_27 {G : GT} {d : Nat} {M : Mem} {o : Nat} (O : ObAt 10 M o) {a1 : Nat} (Pa1 : ObAt 8 M a1) {l3 : Int64} {l5 : Int32} {Q : Int32 → Mem → Prop} (H : ((64 : Int32) ≤ l5 → Q (-1 : Int32) M) ∧ (¬ (64 : Int32) ≤ l5 → ((lg_cmp ((((l3).toUInt64 >>> ((l5).toInt64.toUInt64 &&& Int64.toUInt64 63)).toInt64) &&& (1 : Int64)) (0 : Int64)) = 0 → At G (d + 1) 102 27 [(3, .long l3), (5, .int (l5 + (1 : Int32)))] [] M (qI Q)) ∧ (¬ (lg_cmp ((((l3).toUInt64 >>> ((l5).toInt64.toUInt64 &&& Int64.toUInt64 63)).toInt64) &&& (1 : Int64)) (0 : Int64)) = 0 → Q l5 M))) : At G (d + 1) 102 27 [(3, .long l3), (5, .int l5)] [] M (qI Q) := by
  refine vcc ok102 17 [] ?_
  refine And.intro (fun c => ?_) (fun c => ?_)
  · replace H := H.1 c
    exact ⟨fun h => absurd h (by decide), _, rfl, H⟩
  · replace H := H.2 c
    refine And.intro (fun c => ?_) (fun c => ?_)
    · replace H := H.1 c
      exact H
    · replace H := H.2 c
      exact ⟨fun h => absurd h (by decide), _, rfl, H⟩

theorem c_X10_howMany {G : GT} {d : Nat} {M : Mem} {o : Nat} (O : ObAt 10 M o) {a1 : Int32} {Q : Int32 → Mem → Prop} (H : At G (d + 1) 103 4 [(0, .ref o), (1, .int a1), (2, .int (0 : Int32)), (3, .int (0 : Int32))] [] M (qI Q)) : CI G (d + 1) 103 [.ref o, .int a1] M Q := by
  refine Cl.ofM (Nat.le_of_ble_eq_true rfl) rfl ?_
  refine vcc ok103 0 [4] ?_
  exact H

theorem c_X10_howMany_4 {G : GT} {d : Nat} {M : Mem} {o : Nat} (O : ObAt 10 M o) {l1 : Int32} {l2 : Int32} {l3 : Int32} {Q : Int32 → Mem → Prop} (H : ((64 : Int32) ≤ l3 → Q l2 M) ∧ (¬ (64 : Int32) ≤ l3 → vp_in l3 64 ∧ ((¬ (vi M (o + 2) (l3).toNatClampNeg) = l1 → At G (d + 1) 103 4 [(0, .ref o), (1, .int l1), (2, .int l2), (3, .int (l3 + (1 : Int32)))] [] M (qI Q)) ∧ ((vi M (o + 2) (l3).toNatClampNeg) = l1 → At G (d + 1) 103 4 [(0, .ref o), (1, .int l1), (2, .int (l2 + (1 : Int32))), (3, .int (l3 + (1 : Int32)))] [] M (qI Q))))) : At G (d + 1) 103 4 [(0, .ref o), (1, .int l1), (2, .int l2), (3, .int l3)] [] M (qI Q) := by
  refine vcc ok103 4 [] ?_
  refine And.intro (fun c => ?_) (fun c => ?_)
  · replace H := H.1 c
    exact ⟨fun h => absurd h (by decide), _, rfl, H⟩
  · replace H := H.2 c
    refine And.intro O.1 ?_
    refine Or.inl ⟨_, (ob10_r1 O), ?_⟩
    refine Or.inl ⟨(ob10_k1 O), vp_cst (ob10_l1 O) H.1, ?_⟩
    replace H := H.2
    refine And.intro (fun c => ?_) (fun c => ?_)
    · replace H := H.1 c
      exact H
    · replace H := H.2 c
      exact H

theorem c_X10_compose {G : GT} {d : Nat} {M : Mem} {o : Nat} (O : ObAt 10 M o) {a1 : Nat} (Pa1 : ObAt 8 M a1) {a2 : Nat} (Pa2 : ObAt 0 M a2)  {Q : Mem → Prop} (H : CI G d 105 [.ref o, .ref a1] M (fun v2 M1 => (ObAt 10 M1 o ∧ ObAt 8 M1 a1 ∧ ObAt 0 M1 a2) ∧ (CV G d 1 [.ref a2, .ref a1, .ref (o + 4), .int v2] M1 (fun M3 => (ObAt 10 M3 o ∧ ObAt 8 M3 a1 ∧ ObAt 0 M3 a2) ∧ (∀ M4, M4 = seti M3 o 3 (vi M3 a2 1) → ∀ M5, M5 = cpi M4 (a2 + 1) ((0 : Int32)).toNatClampNeg (o + 3) ((0 : Int32)).toNatClampNeg ((400 : Int32)).toNatClampNeg → Q M5))))) : CV G (d + 1) 104 [.ref o, .ref a1, .ref a2] M Q := by
  refine Cl.ofM (Nat.le_of_ble_eq_true rfl) rfl ?_
  refine vcc ok104 0 [] ?_
  refine And.intro (Nat.le_of_ble_eq_true rfl) ?_
  refine And.intro (Nat.le_of_ble_eq_true rfl) (And.intro O.1 ?_)
  refine Cl.mono H (fun r M1 h => ?_)
  obtain ⟨v2, rfl, H⟩ := h
  obtain ⟨⟨O, Pa1, Pa2⟩, H⟩ := H
  refine And.intro O.1 ?_
  refine Or.inl ⟨_, (ob10_r7 O), ?_⟩
  refine And.intro (Nat.le_of_ble_eq_true rfl) ?_
  refine And.intro (Nat.le_of_ble_eq_true rfl) (And.intro Pa2.1 ?_)
  refine Cl.mono H (fun r M3 h => ?_)
  obtain ⟨rfl, H⟩ := h
  obtain ⟨⟨O, Pa1, Pa2⟩, H⟩ := H
  refine And.intro Pa2.1 ?_
  refine And.intro O.1 ?_
  refine And.intro (Or.inl rfl) (And.intro (fun h => absurd h (by decide)) ?_)
  replace H := H _ rfl
  refine And.intro Pa2.1 ?_
  refine Or.inl ⟨_, (ob0_r0 Pa2), ?_⟩
  refine And.intro O.1 ?_
  refine Or.inl ⟨_, (ob10_r2 O), ?_⟩
  refine And.intro (Nat.le_of_ble_eq_true rfl) (And.intro (by decide +kernel) (And.intro (by decide +kernel) (And.intro (by decide +kernel) (And.intro (le_cst (ob0_l0 Pa2) (by decide +kernel)) (And.intro (le_cst (ob10_l2 O) (by decide +kernel)) ?_)))))
  refine Or.inl (And.intro (ob0_k0 Pa2) (And.intro (ob10_k2 O) ?_))
  replace H := H _ rfl
  exact ⟨rfl, H⟩

theorem c_X10_gather {G : GT} {d : Nat} {M : Mem} {o : Nat} (O : ObAt 10 M o) {a1 : Nat} (Pa1 : ObAt 8 M a1)  {Q : Int32 → Mem → Prop} (H : At G (d + 1) 105 4 [(0, .ref o), (1, .ref a1), (2, .int (0 : Int32)), (3, .int (0 : Int32))] [] M (qI Q)) : CI G (d + 1) 105 [.ref o, .ref a1] M Q := by
  refine Cl.ofM (Nat.le_of_ble_eq_true rfl) rfl ?_
  refine vcc ok105 0 [4] ?_
  exact H

theorem c_X10_gather_4 {G : GT} {d : Nat} {M : Mem} {o : Nat} (O : ObAt 10 M o) {a1 : Nat} (Pa1 : ObAt 8 M a1) {l2 : Int32} {l3 : Int32} {Q : Int32 → Mem → Prop} (H : ((64 : Int32) ≤ l3 → Q l2 M) ∧ (¬ (64 : Int32) ≤ l3 → vp_in l3 64 ∧ ((¬ (vi M (o + 2) (l3).toNatClampNeg) = (1 : Int32) → At G (d + 1) 105 4 [(0, .ref o), (1, .ref a1), (2, .int l2), (3, .int (l3 + (1 : Int32)))] [] M (qI Q)) ∧ ((vi M (o + 2) (l3).toNatClampNeg) = (1 : Int32) → ((64 : Int32) ≤ l2 → At G (d + 1) 105 4 [(0, .ref o), (1, .ref a1), (2, .int l2), (3, .int (l3 + (1 : Int32)))] [] M (qI Q)) ∧ (¬ (64 : Int32) ≤ l2 → vp_in l3 64 ∧ ((∀ r1, (vr M (a1 + 5) (l3).toNatClampNeg) = some r1 → vp_in l2 64 ∧ (mK M r1 = elN (mK M (o + 4)) + 1 ∧ (∀ M2, M2 = setr M (o + 4) (l2).toNatClampNeg (some r1) → At G (d + 1) 105 4 [(0, .ref o), (1, .ref a1), (2, .int (l2 + (1 : Int32))), (3, .int (l3 + (1 : Int32)))] [] M2 (qI Q)))) ∧ ((vr M (a1 + 5) (l3).toNatClampNeg) = none → vp_in l2 64 ∧ (∀ M3, M3 = setr M (o + 4) (l2).toNatClampNeg none → At G (d + 1) 105 4 [(0, .ref o), (1, .ref a1), (2, .int (l2 + (1 : Int32))), (3, .int (l3 + (1 : Int32)))] [] M3 (qI Q))))))))) : At G (d + 1) 105 4 [(0, .ref o), (1, .ref a1), (2, .int l2), (3, .int l3)] [] M (qI Q) := by
  refine vcc ok105 4 [] ?_
  refine And.intro (fun c => ?_) (fun c => ?_)
  · replace H := H.1 c
    exact ⟨fun h => absurd h (by decide), _, rfl, H⟩
  · replace H := H.2 c
    refine And.intro O.1 ?_
    refine Or.inl ⟨_, (ob10_r1 O), ?_⟩
    refine Or.inl ⟨(ob10_k1 O), vp_cst (ob10_l1 O) H.1, ?_⟩
    replace H := H.2
    refine And.intro (fun c => ?_) (fun c => ?_)
    · replace H := H.1 c
      exact H
    · replace H := H.2 c
      refine And.intro (fun c => ?_) (fun c => ?_)
      · replace H := H.1 c
        exact H
      · replace H := H.2 c
        refine And.intro O.1 ?_
        refine Or.inl ⟨_, (ob10_r7 O), ?_⟩
        refine And.intro Pa1.1 ?_
        refine Or.inl ⟨_, (ob8_r7 Pa1), ?_⟩
        refine ⟨(k18 (ob8_k7 Pa1)), vp_cst (ob8_l7 Pa1) H.1, ?_⟩
        replace H := H.2
        refine wRef_i (fun r1 hr => ?_) (fun hr => ?_)
        · replace H := H.1 _ hr
          refine ⟨(k18 (ob10_k7 O)), vp_cst (ob10_l7 O) H.1, ?_⟩
          replace H := H.2
          refine And.intro H.1 ?_
          replace H := H.2
          replace H := H _ rfl
          exact H
        · replace H := H.2 hr
          refine ⟨(k18 (ob10_k7 O)), vp_cst (ob10_l7 O) H.1, ?_⟩
          replace H := H.2
          replace H := H _ rfl
          exact H

theorem c_X10_costOfMarks {G : GT} {d : Nat} {M : Mem} {o : Nat} (O : ObAt 10 M o) {a1 : Nat} (Pa1 : ObAt 8 M a1)  {Q : Int32 → Mem → Prop} (H : CI G d 105 [.ref o, .ref a1] M (fun v2 M1 => (ObAt 10 M1 o ∧ ObAt 8 M1 a1) ∧ (At G (d + 1) 106 11 [(0, .ref o), (1, .ref a1), (2, .int v2), (3, .int (0 : Int32)), (4, .int (0 : Int32))] [] M1 (qI Q)))) : CI G (d + 1) 106 [.ref o, .ref a1] M Q := by
  refine Cl.ofM (Nat.le_of_ble_eq_true rfl) rfl ?_
  refine vcc ok106 0 [11] ?_
  refine And.intro (Nat.le_of_ble_eq_true rfl) ?_
  refine And.intro (Nat.le_of_ble_eq_true rfl) (And.intro O.1 ?_)
  refine Cl.mono H (fun r M1 h => ?_)
  obtain ⟨v2, rfl, H⟩ := h
  obtain ⟨⟨O, Pa1⟩, H⟩ := H
  exact H

theorem c_X10_costOfMarks_11 {G : GT} {d : Nat} {M : Mem} {o : Nat} (O : ObAt 10 M o) {a1 : Nat} (Pa1 : ObAt 8 M a1) {l2 : Int32} {l3 : Int32} {l4 : Int32} {Q : Int32 → Mem → Prop} (H : (l2 ≤ l4 → Q l3 M) ∧ (¬ l2 ≤ l4 → vp_in l4 64 ∧ ((∀ r3, (vr M (o + 4) (l4).toNatClampNeg) = some r3 → mK M r3 = 6 ∧ (((vi M r3 0) < 0 → At G (d + 1) 106 11 [(0, .ref o), (1, .ref a1), (2, .int l2), (3, .int l3), (4, .int (l4 + (1 : Int32)))] [] M (qI Q)) ∧ (¬ (vi M r3 0) < 0 → mK M r3 = 6 ∧ (((6 : Int32) ≤ (vi M r3 0) → At G (d + 1) 106 11 [(0, .ref o), (1, .ref a1), (2, .int l2), (3, .int l3), (4, .int (l4 + (1 : Int32)))] [] M (qI Q)) ∧ (¬ (6 : Int32) ≤ (vi M r3 0) → CI G d 107 [.ref o, .int l4, .ref r3] M (fun v5 M4 => (ObAt 10 M4 o ∧ ObAt 8 M4 a1) ∧ ((¬ v5 = 0 → At G (d + 1) 106 11 [(0, .ref o), (1, .ref a1), (2, .int l2), (3, .int l3), (4, .int (l4 + (1 : Int32)))] [] M4 (qI Q)) ∧ (v5 = 0 → mK M4 r3 = 6 ∧ (vp_in (vi M4 r3 0) 7 ∧ (mK M4 r3 = 6 ∧ (At G (d + 1) 106 11 [(0, .ref o), (1, .ref a1), (2, .int l2), (3, .int (l3 + ((vi M4 (a1 + 6) ((vi M4 r3 0)).toNatClampNeg) * (vi M4 r3 4)))), (4, .int (l4 + (1 : Int32)))] [] M4 (qI Q)))))))))))) ∧ ((vr M (o + 4) (l4).toNatClampNeg) = none → At G (d + 1) 106 11 [(0, .ref o), (1, .ref a1), (2, .int l2), (3, .int l3), (4, .int (l4 + (1 : Int32)))] [] M (qI Q))))) : At G (d + 1) 106 11 [(0, .ref o), (1, .ref a1), (2, .int l2), (3, .int l3), (4, .int l4)] [] M (qI Q) := by
  refine vcc ok106 8 [] ?_
  refine And.intro (fun c => ?_) (fun c => ?_)
  · replace H := H.1 c
    exact ⟨fun h => absurd h (by decide), _, rfl, H⟩
  · replace H := H.2 c
    refine And.intro O.1 ?_
    refine Or.inl ⟨_, (ob10_r7 O), ?_⟩
    refine ⟨(k18 (ob10_k7 O)), vp_cst (ob10_l7 O) H.1, ?_⟩
    replace H := H.2
    refine wRef_i (fun r3 hr => ?_) (fun hr => ?_)
    · replace H := H.1 _ hr
      refine And.intro H.1 ?_
      replace H := H.2
      refine And.intro (fun c => ?_) (fun c => ?_)
      · replace H := H.1 c
        exact At.keep [0, 1, 2, 3, 4] H
      · replace H := H.2 c
        refine And.intro H.1 ?_
        replace H := H.2
        refine And.intro (fun c => ?_) (fun c => ?_)
        · replace H := H.1 c
          exact At.keep [0, 1, 2, 3, 4] H
        · replace H := H.2 c
          refine And.intro (Nat.le_of_ble_eq_true rfl) ?_
          refine And.intro (Nat.le_of_ble_eq_true rfl) (And.intro O.1 ?_)
          refine Cl.mono H (fun r M4 h => ?_)
          obtain ⟨v5, rfl, H⟩ := h
          obtain ⟨⟨O, Pa1⟩, H⟩ := H
          refine And.intro (fun c => ?_) (fun c => ?_)
          · replace H := H.1 c
            exact At.keep [0, 1, 2, 3, 4] H
          · replace H := H.2 c
            refine And.intro Pa1.1 ?_
            refine Or.inl ⟨_, (ob8_r8 Pa1), ?_⟩
            refine And.intro H.1 ?_
            replace H := H.2
            refine Or.inl ⟨(ob8_k8 Pa1), vp_cst (ob8_l8 Pa1) H.1, ?_⟩
            replace H := H.2
            refine And.intro H.1 ?_
            replace H := H.2
            exact At.keep [0, 1, 2, 3, 4] H
    · replace H := H.2 hr
      exact At.keep [0, 1, 2, 3, 4] H

theorem c_X10_hasEarlier {G : GT} {d : Nat} {M : Mem} {o : Nat} (O : ObAt 10 M o) {a2 : Nat} (Pa2 : mK M a2 = 6) {a1 : Int32} {Q : Int32 → Mem → Prop} (H : At G (d + 1) 107 2 [(0, .ref o), (1, .int a1), (2, .ref a2), (3, .int (0 : Int32))] [] M (qI Q)) : CI G (d + 1) 107 [.ref o, .int a1, .ref a2] M Q := by
  refine Cl.ofM (Nat.le_of_ble_eq_true rfl) rfl ?_
  refine vcc ok107 0 [2] ?_
  exact H

theorem c_X10_hasEarlier_2 {G : GT} {d : Nat} {M : Mem} {o : Nat} (O : ObAt 10 M o) {a2 : Nat} (Pa2 : mK M a2 = 6) {l1 : Int32} {l3 : Int32} {Q : Int32 → Mem → Prop} (H : (l1 ≤ l3 → ((0 : Int32) = 0 ∨ (0 : Int32) = 1) ∧ Q (0 : Int32) M) ∧ (¬ l1 ≤ l3 → ((64 : Int32) ≤ l3 → ((0 : Int32) = 0 ∨ (0 : Int32) = 1) ∧ Q (0 : Int32) M) ∧ (¬ (64 : Int32) ≤ l3 → vp_in l3 64 ∧ ((∀ r1, (vr M (o + 4) (l3).toNatClampNeg) = some r1 → mK M r1 = 6 ∧ CI G d 48 [.ref r1, .ref a2] M (fun v3 M2 => (ObAt 10 M2 o ∧ mK M2 a2 = 6) ∧ ((v3 = 0 → At G (d + 1) 107 2 [(0, .ref o), (1, .int l1), (2, .ref a2), (3, .int (l3 + (1 : Int32)))] [] M2 (qI Q)) ∧ (¬ v3 = 0 → ((1 : Int32) = 0 ∨ (1 : Int32) = 1) ∧ Q (1 : Int32) M2)))) ∧ ((vr M (o + 4) (l3).toNatClampNeg) = none → At G (d + 1) 107 2 [(0, .ref o), (1, .int l1), (2, .ref a2), (3, .int (l3 + (1 : Int32)))] [] M (qI Q)))))) : At G (d + 1) 107 2 [(0, .ref o), (1, .int l1), (2, .ref a2), (3, .int l3)] [] M (qI Q) := by
  refine vcc ok107 2 [] ?_
  refine And.intro (fun c => ?_) (fun c => ?_)
  · replace H := H.1 c
    exact ⟨fun _ => H.1, _, rfl, H.2⟩
  · replace H := H.2 c
    refine And.intro (fun c => ?_) (fun c => ?_)
    · replace H := H.1 c
      exact ⟨fun _ => H.1, _, rfl, H.2⟩
    · replace H := H.2 c
      refine And.intro O.1 ?_
      refine Or.inl ⟨_, (ob10_r7 O), ?_⟩
      refine ⟨(k18 (ob10_k7 O)), vp_cst (ob10_l7 O) H.1, ?_⟩
      replace H := H.2
      refine wRef_i (fun r1 hr => ?_) (fun hr => ?_)
      · replace H := H.1 _ hr
        refine And.intro (Nat.le_of_ble_eq_true rfl) ?_
        refine And.intro (Nat.le_of_ble_eq_true rfl) (And.intro H.1 ?_)
        replace H := H.2
        refine Cl.mono H (fun r M2 h => ?_)
        obtain ⟨v3, rfl, H⟩ := h
        obtain ⟨⟨O, Pa2⟩, H⟩ := H
        refine And.intro (fun c => ?_) (fun c => ?_)
        · replace H := H.1 c
          exact At.keep [0, 1, 2, 3] H
        · replace H := H.2 c
          exact ⟨fun _ => H.1, _, rfl, H.2⟩
      · replace H := H.2 hr
        exact At.keep [0, 1, 2, 3] H
