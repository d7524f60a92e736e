/-! THE CLASS, block by block: by program (wip/tools/clsall.py) -/
theorem c_X2_valueOf {G : GT} {d : Nat} {M : Mem} {o : Nat} (O : ObAt 2 M o) {a1 : Int32} {a2 : Int32} {Q : Int64 → Mem → Prop} (H : At G (d + 1) 27 5 [(0, .ref o), (2, .int a2), (3, .int (0 : Int32)), (4, .int a1)] [] M (qJ Q)) : CJ G (d + 1) 27 [.ref o, .int a1, .int a2] M Q := by
  refine Cl.ofM (Nat.le_of_ble_eq_true rfl) rfl ?_
  refine vcc ok27 0 [5] ?_
  exact At.keep [0, 2, 3, 4] H

theorem c_X2_valueOf_5 {G : GT} {d : Nat} {M : Mem} {o : Nat} (O : ObAt 2 M o) {l2 : Int32} {l3 : Int32} {l4 : Int32} {Q : Int64 → Mem → Prop} (H : (l4 < 0 → ((1 : Int32) ≤ l3 → vp_in (0 : Int32) 64 ∧ (Q (vl M (o + 5) ((0 : Int32)).toNatClampNeg) M)) ∧ (¬ (1 : Int32) ≤ l3 → Q (0 : Int64) M)) ∧ (¬ l4 < 0 → (l2 ≤ l4 → ((1 : Int32) ≤ l3 → vp_in (0 : Int32) 64 ∧ (Q (vl M (o + 5) ((0 : Int32)).toNatClampNeg) M)) ∧ (¬ (1 : Int32) ≤ l3 → Q (0 : Int64) M)) ∧ (¬ l2 ≤ l4 → ((400 : Int32) ≤ l4 → ((1 : Int32) ≤ l3 → vp_in (0 : Int32) 64 ∧ (Q (vl M (o + 5) ((0 : Int32)).toNatClampNeg) M)) ∧ (¬ (1 : Int32) ≤ l3 → Q (0 : Int64) M)) ∧ (¬ (400 : Int32) ≤ l4 → vp_in l4 400 ∧ (((200000 : Int32) ≤ (vi M (o + 1) (l4).toNatClampNeg) → (¬ (vi M (o + 1) (l4).toNatClampNeg) = (200011 : Int32) → ((2 : Int32) ≤ l3 → vp_in ((l3 + (-1 : Int32)) - (1 : Int32)) 64 ∧ (vp_in (l3 + (-1 : Int32)) 64 ∧ (CJ G d 29 [.int (vi M (o + 1) (l4).toNatClampNeg), .long (vl M (o + 5) (((l3 + (-1 : Int32)) - (1 : Int32))).toNatClampNeg), .long (vl M (o + 5) ((l3 + (-1 : Int32))).toNatClampNeg)] M (fun v2 M1 => ObAt 2 M1 o ∧ (vp_in ((l3 + (-1 : Int32)) - (1 : Int32)) 64 ∧ (∀ M3, M3 = setl M1 (o + 5) (((l3 + (-1 : Int32)) - (1 : Int32))).toNatClampNeg v2 → At G (d + 1) 27 5 [(0, .ref o), (2, .int l2), (3, .int (l3 + (-1 : Int32))), (4, .int (l4 + (1 : Int32)))] [] M3 (qJ Q))))))) ∧ (¬ (2 : Int32) ≤ l3 → Q (0 : Int64) M)) ∧ ((vi M (o + 1) (l4).toNatClampNeg) = (200011 : Int32) → ((1 : Int32) ≤ l3 → vp_in (l3 - (1 : Int32)) 64 ∧ (vp_in (l3 - (1 : Int32)) 64 ∧ (∀ M4, M4 = setl M (o + 5) ((l3 - (1 : Int32))).toNatClampNeg ((1 : Int64) - (vl M (o + 5) ((l3 - (1 : Int32))).toNatClampNeg)) → At G (d + 1) 27 5 [(0, .ref o), (2, .int l2), (3, .int l3), (4, .int (l4 + (1 : Int32)))] [] M4 (qJ Q)))) ∧ (¬ (1 : Int32) ≤ l3 → Q (0 : Int64) M))) ∧ (¬ (200000 : Int32) ≤ (vi M (o + 1) (l4).toNatClampNeg) → (l3 < (64 : Int32) → ((100000 : Int32) ≤ (vi M (o + 1) (l4).toNatClampNeg) → CJ G d 28 [.ref o, .int ((vi M (o + 1) (l4).toNatClampNeg) - (100000 : Int32))] M (fun v6 M5 => ObAt 2 M5 o ∧ (vp_in l3 64 ∧ (∀ M7, M7 = setl M5 (o + 5) (l3).toNatClampNeg v6 → At G (d + 1) 27 5 [(0, .ref o), (2, .int l2), (3, .int (l3 + (1 : Int32))), (4, .int (l4 + (1 : Int32)))] [] M7 (qJ Q))))) ∧ (¬ (100000 : Int32) ≤ (vi M (o + 1) (l4).toNatClampNeg) → vp_in l3 64 ∧ (∀ M8, M8 = setl M (o + 5) (l3).toNatClampNeg ((vi M (o + 1) (l4).toNatClampNeg)).toInt64 → At G (d + 1) 27 5 [(0, .ref o), (2, .int l2), (3, .int (l3 + (1 : Int32))), (4, .int (l4 + (1 : Int32)))] [] M8 (qJ Q)))) ∧ (¬ l3 < (64 : Int32) → Q (0 : Int64) M))))))) : At G (d + 1) 27 5 [(0, .ref o), (2, .int l2), (3, .int l3), (4, .int l4)] [] M (qJ Q) := by
  refine vcc ok27 4 [] ?_
  refine And.intro (fun c => ?_) (fun c => ?_)
  · replace H := H.1 c
    refine And.intro (fun c => ?_) (fun c => ?_)
    · replace H := H.1 c
      refine And.intro O.1 ?_
      refine Or.inl ⟨_, (ob2_r6 O), ?_⟩
      refine ⟨(ob2_k6 O), vp_cst (ob2_l6 O) H.1, ?_⟩
      replace H := H.2
      exact ⟨_, rfl, H⟩
    · replace H := H.2 c
      exact ⟨_, rfl, H⟩
  · replace H := H.2 c
    refine And.intro (fun c => ?_) (fun c => ?_)
    · replace H := H.1 c
      refine And.intro (fun c => ?_) (fun c => ?_)
      · replace H := H.1 c
        refine And.intro O.1 ?_
        refine Or.inl ⟨_, (ob2_r6 O), ?_⟩
        refine ⟨(ob2_k6 O), vp_cst (ob2_l6 O) H.1, ?_⟩
        replace H := H.2
        exact ⟨_, rfl, H⟩
      · replace H := H.2 c
        exact ⟨_, rfl, H⟩
    · replace H := H.2 c
      refine And.intro (fun c => ?_) (fun c => ?_)
      · replace H := H.1 c
        refine And.intro (fun c => ?_) (fun c => ?_)
        · replace H := H.1 c
          refine And.intro O.1 ?_
          refine Or.inl ⟨_, (ob2_r6 O), ?_⟩
          refine ⟨(ob2_k6 O), vp_cst (ob2_l6 O) H.1, ?_⟩
          replace H := H.2
          exact ⟨_, rfl, H⟩
        · replace H := H.2 c
          exact ⟨_, rfl, H⟩
      · replace H := H.2 c
        refine And.intro O.1 ?_
        refine Or.inl ⟨_, (ob2_r0 O), ?_⟩
        refine Or.inl ⟨(ob2_k0 O), vp_cst (ob2_l0 O) H.1, ?_⟩
        replace H := H.2
        refine And.intro (fun c => ?_) (fun c => ?_)
        · replace H := H.1 c
          refine And.intro (fun c => ?_) (fun c => ?_)
          · replace H := H.1 c
            refine And.intro (fun c => ?_) (fun c => ?_)
            · replace H := H.1 c
              refine And.intro O.1 ?_
              refine Or.inl ⟨_, (ob2_r6 O), ?_⟩
              refine And.intro O.1 ?_
              refine Or.inl ⟨_, (ob2_r6 O), ?_⟩
              refine ⟨(ob2_k6 O), vp_cst (ob2_l6 O) H.1, ?_⟩
              replace H := H.2
              refine And.intro O.1 ?_
              refine Or.inl ⟨_, (ob2_r6 O), ?_⟩
              refine ⟨(ob2_k6 O), vp_cst (ob2_l6 O) H.1, ?_⟩
              replace H := H.2
              refine And.intro (Nat.le_of_ble_eq_true rfl) ?_
              refine And.intro (Nat.le_of_ble_eq_true rfl) ?_
              refine Cl.mono H (fun r M1 h => ?_)
              obtain ⟨v2, rfl, H⟩ := h
              obtain ⟨O, H⟩ := H
              refine ⟨(ob2_k6 O), vp_cst (ob2_l6 O) H.1, ?_⟩
              replace H := H.2
              replace H := H _ rfl
              exact At.keep [0, 2, 3, 4] H
            · replace H := H.2 c
              exact ⟨_, rfl, H⟩
          · replace H := H.2 c
            refine And.intro (fun c => ?_) (fun c => ?_)
            · replace H := H.1 c
              refine And.intro O.1 ?_
              refine Or.inl ⟨_, (ob2_r6 O), ?_⟩
              refine And.intro O.1 ?_
              refine Or.inl ⟨_, (ob2_r6 O), ?_⟩
              refine ⟨(ob2_k6 O), vp_cst (ob2_l6 O) H.1, ?_⟩
              replace H := H.2
              refine ⟨(ob2_k6 O), vp_cst (ob2_l6 O) H.1, ?_⟩
              replace H := H.2
              replace H := H _ rfl
              exact At.keep [0, 2, 3, 4] H
            · replace H := H.2 c
              exact ⟨_, rfl, H⟩
        · replace H := H.2 c
          refine And.intro (fun c => ?_) (fun c => ?_)
          · replace H := H.1 c
            refine And.intro O.1 ?_
            refine Or.inl ⟨_, (ob2_r6 O), ?_⟩
            refine And.intro (fun c => ?_) (fun c => ?_)
            · replace H := H.1 c
              refine And.intro (Nat.le_of_ble_eq_true rfl) ?_
              refine And.intro (Nat.le_of_ble_eq_true rfl) (And.intro O.1 ?_)
              refine Cl.mono H (fun r M5 h => ?_)
              obtain ⟨v6, rfl, H⟩ := h
              obtain ⟨O, H⟩ := H
              refine ⟨(ob2_k6 O), vp_cst (ob2_l6 O) H.1, ?_⟩
              replace H := H.2
              replace H := H _ rfl
              exact At.keep [0, 2, 3, 4] H
            · replace H := H.2 c
              refine ⟨(ob2_k6 O), vp_cst (ob2_l6 O) H.1, ?_⟩
              replace H := H.2
              replace H := H _ rfl
              exact At.keep [0, 2, 3, 4] H
          · replace H := H.2 c
            exact ⟨_, rfl, H⟩

theorem c_X2_wordValue {G : GT} {d : Nat} {M : Mem} {o : Nat} (O : ObAt 2 M o) {a1 : Int32} {Q : Int64 → Mem → Prop} (H : (a1 < 0 → Q (0 : Int64) M) ∧ (¬ a1 < 0 → ((7 : Int32) ≤ a1 → Q (0 : Int64) M) ∧ (¬ (7 : Int32) ≤ a1 → vp_in a1 7 ∧ (Q (vl M (o + 4) (a1).toNatClampNeg) M)))) : CJ G (d + 1) 28 [.ref o, .int a1] M Q := by
  refine Cl.ofM (Nat.le_of_ble_eq_true rfl) rfl ?_
  refine vcc ok28 0 [] ?_
  refine And.intro (fun c => ?_) (fun c => ?_)
  · replace H := H.1 c
    exact ⟨_, rfl, H⟩
  · replace H := H.2 c
    refine And.intro (fun c => ?_) (fun c => ?_)
    · replace H := H.1 c
      exact ⟨_, rfl, H⟩
    · replace H := H.2 c
      refine And.intro O.1 ?_
      refine Or.inl ⟨_, (ob2_r5 O), ?_⟩
      refine ⟨(ob2_k5 O), vp_cst (ob2_l5 O) H.1, ?_⟩
      replace H := H.2
      exact ⟨_, rfl, H⟩

theorem c_X2_join {G : GT} {d : Nat} {M : Mem}  {a1 : Int32} {a2 : Int64} {a3 : Int64} {Q : Int64 → Mem → Prop} (H : ((a1).toInt < 200000 ∨ 200009 < (a1).toInt → Q (a2 ||| a3) M) ∧ ((a1).toInt = 200000 → Q (a2 + a3) M) ∧ ((a1).toInt = 200001 → Q (a2 - a3) M) ∧ ((a1).toInt = 200002 → Q (a2 * a3) M) ∧ ((a1).toInt = 200003 → (¬ (lg_cmp a3 (0 : Int64)) = 0 → ¬ a3 = 0 ∧ (Q (a2 / a3) M)) ∧ ((lg_cmp a3 (0 : Int64)) = 0 → Q (0 : Int64) M)) ∧ ((a1).toInt = 200004 → (0 ≤ (lg_cmp a2 a3) → Q (0 : Int64) M) ∧ (¬ 0 ≤ (lg_cmp a2 a3) → Q (1 : Int64) M)) ∧ ((a1).toInt = 200005 → (0 < (lg_cmp a2 a3) → Q (0 : Int64) M) ∧ (¬ 0 < (lg_cmp a2 a3) → Q (1 : Int64) M)) ∧ ((a1).toInt = 200006 → (¬ (lg_cmp a2 a3) = 0 → Q (0 : Int64) M) ∧ ((lg_cmp a2 a3) = 0 → Q (1 : Int64) M)) ∧ ((a1).toInt = 200007 → ((lg_cmp a2 a3) < 0 → Q (0 : Int64) M) ∧ (¬ (lg_cmp a2 a3) < 0 → Q (1 : Int64) M)) ∧ ((a1).toInt = 200008 → ((lg_cmp a2 a3) ≤ 0 → Q (0 : Int64) M) ∧ (¬ (lg_cmp a2 a3) ≤ 0 → Q (1 : Int64) M)) ∧ ((a1).toInt = 200009 → Q (a2 &&& a3) M) ∧ True) : CJ G (d + 1) 29 [.int a1, .long a2, .long a3] M Q := by
  refine Cl.ofM (Nat.le_of_ble_eq_true rfl) rfl ?_
  refine vcc ok29 0 [] ?_
  refine And.intro (fun c => ?_) ?_
  · replace H := H.1 c
    exact ⟨_, rfl, H⟩
  replace H := H.2
  refine And.intro (fun c => ?_) ?_
  · replace H := H.1 c
    exact ⟨_, rfl, H⟩
  replace H := H.2
  refine And.intro (fun c => ?_) ?_
  · replace H := H.1 c
    exact ⟨_, rfl, H⟩
  replace H := H.2
  refine And.intro (fun c => ?_) ?_
  · replace H := H.1 c
    exact ⟨_, rfl, H⟩
  replace H := H.2
  refine And.intro (fun c => ?_) ?_
  · replace H := H.1 c
    refine And.intro (fun c => ?_) (fun c => ?_)
    · replace H := H.1 c
      refine And.intro H.1 ?_
      replace H := H.2
      exact ⟨_, rfl, H⟩
    · replace H := H.2 c
      exact ⟨_, rfl, H⟩
  replace H := H.2
  refine And.intro (fun c => ?_) ?_
  · replace H := H.1 c
    refine And.intro (fun c => ?_) (fun c => ?_)
    · replace H := H.1 c
      exact ⟨_, rfl, H⟩
    · replace H := H.2 c
      exact ⟨_, rfl, H⟩
  replace H := H.2
  refine And.intro (fun c => ?_) ?_
  · replace H := H.1 c
    refine And.intro (fun c => ?_) (fun c => ?_)
    · replace H := H.1 c
      exact ⟨_, rfl, H⟩
    · replace H := H.2 c
      exact ⟨_, rfl, H⟩
  replace H := H.2
  refine And.intro (fun c => ?_) ?_
  · replace H := H.1 c
    refine And.intro (fun c => ?_) (fun c => ?_)
    · replace H := H.1 c
      exact ⟨_, rfl, H⟩
    · replace H := H.2 c
      exact ⟨_, rfl, H⟩
  replace H := H.2
  refine And.intro (fun c => ?_) ?_
  · replace H := H.1 c
    refine And.intro (fun c => ?_) (fun c => ?_)
    · replace H := H.1 c
      exact ⟨_, rfl, H⟩
    · replace H := H.2 c
      exact ⟨_, rfl, H⟩
  replace H := H.2
  refine And.intro (fun c => ?_) ?_
  · replace H := H.1 c
    refine And.intro (fun c => ?_) (fun c => ?_)
    · replace H := H.1 c
      exact ⟨_, rfl, H⟩
    · replace H := H.2 c
      exact ⟨_, rfl, H⟩
  replace H := H.2
  refine And.intro (fun c => ?_) ?_
  · replace H := H.1 c
    exact ⟨_, rfl, H⟩
  replace H := H.2
  exact trivial

theorem c_X3_handOver {G : GT} {d : Nat} {M : Mem} {o t l : Nat} (O : LrAt M o t l)  {Q : Option Nat → Mem → Prop} (H : ∀ M1, M1 = mnew M 3 7 → CV G d 20 [.ref (mN M)] M1 (fun M2 => LrAt M2 o t l ∧ (∀ M3, M3 = setr M2 o 1 (some (mN M)) → Q (some l) M3))) : CR G (d + 1) 31 [.ref o] M Q := by
  refine Cl.ofM (Nat.le_of_ble_eq_true rfl) rfl ?_
  refine vcc ok31 0 [] ?_
  refine And.intro O.1 ?_
  refine Or.inl ⟨_, O.2.2.2.1, ?_⟩
  replace H := H _ rfl
  refine And.intro (Nat.le_of_ble_eq_true rfl) ?_
  refine And.intro (Nat.le_of_ble_eq_true rfl) ?_
  refine Cl.mono H (fun r M2 h => ?_)
  obtain ⟨rfl, H⟩ := h
  obtain ⟨O, H⟩ := H
  refine And.intro O.1 ?_
  refine And.intro rfl ?_
  replace H := H _ rfl
  exact ⟨some _, rfl, H⟩

theorem c_X3_readLaw {G : GT} {d : Nat} {M : Mem} {o t l : Nat} (O : LrAt M o t l)  {Q : Mem → Prop} (H : CV G d 90 [.ref t] M (fun M1 => LrAt M1 o t l ∧ (CV G d 21 [.ref l] M1 (fun M2 => LrAt M2 o t l ∧ (∀ M3, M3 = seti M2 o 2 (0 : Int32) → At G (d + 1) 32 21 [(0, .ref o), (1, .int (0 : Int32))] [] M3 (qV Q)))))) : CV G (d + 1) 32 [.ref o] M Q := by
  refine Cl.ofM (Nat.le_of_ble_eq_true rfl) rfl ?_
  refine vcc ok32 0 [21, 67, 82, 112, 162, 168] ?_
  refine And.intro O.1 ?_
  refine Or.inl ⟨_, O.2.1, ?_⟩
  refine And.intro (Nat.le_of_ble_eq_true rfl) ?_
  refine And.intro (Nat.le_of_ble_eq_true rfl) (And.intro O.2.2.1.1 ?_)
  refine Cl.mono H (fun r M1 h => ?_)
  obtain ⟨rfl, H⟩ := h
  obtain ⟨O, H⟩ := H
  refine And.intro O.1 ?_
  refine Or.inl ⟨_, O.2.2.2.1, ?_⟩
  refine And.intro (Nat.le_of_ble_eq_true rfl) ?_
  refine And.intro (Nat.le_of_ble_eq_true rfl) (And.intro O.2.2.2.2.1 ?_)
  refine Cl.mono H (fun r M2 h => ?_)
  obtain ⟨rfl, H⟩ := h
  obtain ⟨O, H⟩ := H
  refine And.intro O.1 ?_
  refine And.intro (Or.inl rfl) (And.intro (fun h => absurd h (by decide)) ?_)
  replace H := H _ rfl
  exact H

theorem c_X3_readLaw_21 {G : GT} {d : Nat} {M : Mem} {o t l : Nat} (O : LrAt M o t l) {l1 : Int32} {Q : Mem → Prop} (H : ((12 : Int32) < l1 → At G (d + 1) 32 168 [] [] M (qV Q)) ∧ (¬ (12 : Int32) < l1 → (¬ (vi M t 3) = 0 → At G (d + 1) 32 168 [] [] M (qV Q)) ∧ ((vi M t 3) = 0 → CI G d 95 [.ref t, .ref (gk G 1)] M (fun v5 M4 => LrAt M4 o t l ∧ ((¬ v5 = (-1 : Int32) → At G (d + 1) 32 67 [(0, .ref o), (1, .int l1), (2, .int (vi M t 2))] [] M4 (qV Q)) ∧ (v5 = (-1 : Int32) → CV G d 91 [.ref t, .int (vi M t 2), .int (0 : Int32)] M4 (fun M6 => LrAt M6 o t l ∧ (At G (d + 1) 32 67 [(0, .ref o), (1, .int l1), (2, .int (vi M t 2))] [] M6 (qV Q))))))))) : At G (d + 1) 32 21 [(0, .ref o), (1, .int l1)] [] M (qV Q) := by
  refine vcc ok32 11 [67, 82, 112, 162, 168] ?_
  refine And.intro (fun c => ?_) (fun c => ?_)
  · replace H := H.1 c
    exact At.keep [] H
  · replace H := H.2 c
    refine And.intro O.1 ?_
    refine Or.inl ⟨_, O.2.1, ?_⟩
    refine And.intro O.2.2.1.1 ?_
    refine And.intro (fun c => ?_) (fun c => ?_)
    · replace H := H.1 c
      exact At.keep [] H
    · replace H := H.2 c
      refine And.intro O.1 ?_
      refine Or.inl ⟨_, O.2.1, ?_⟩
      refine And.intro O.2.2.1.1 ?_
      refine And.intro O.1 ?_
      refine Or.inl ⟨_, O.2.1, ?_⟩
      refine And.intro (Nat.le_of_ble_eq_true rfl) ?_
      refine And.intro (Nat.le_of_ble_eq_true rfl) (And.intro O.2.2.1.1 ?_)
      refine Cl.mono H (fun r M4 h => ?_)
      obtain ⟨v5, rfl, H⟩ := h
      obtain ⟨O, H⟩ := H
      refine And.intro (fun c => ?_) (fun c => ?_)
      · replace H := H.1 c
        exact H
      · replace H := H.2 c
        refine And.intro O.1 ?_
        refine Or.inl ⟨_, O.2.1, ?_⟩
        refine And.intro (Nat.le_of_ble_eq_true rfl) ?_
        refine And.intro (Nat.le_of_ble_eq_true rfl) (And.intro O.2.2.1.1 ?_)
        refine Cl.mono H (fun r M6 h => ?_)
        obtain ⟨rfl, H⟩ := h
        obtain ⟨O, H⟩ := H
        exact H

theorem c_X3_readLaw_67 {G : GT} {d : Nat} {M : Mem} {o t l : Nat} (O : LrAt M o t l) {l1 : Int32} {l2 : Int32} {Q : Mem → Prop} (H : (l1 < (12 : Int32) → At G (d + 1) 32 82 [(0, .ref o), (1, .int l1)] [] M (qV Q)) ∧ (¬ l1 < (12 : Int32) → CV G d 91 [.ref t, .int l2, .int (4 : Int32)] M (fun M7 => LrAt M7 o t l ∧ (At G (d + 1) 32 82 [(0, .ref o), (1, .int l1)] [] M7 (qV Q))))) : At G (d + 1) 32 67 [(0, .ref o), (1, .int l1), (2, .int l2)] [] M (qV Q) := by
  refine vcc ok32 33 [21, 82, 112, 162, 168] ?_
  refine And.intro (fun c => ?_) (fun c => ?_)
  · replace H := H.1 c
    exact At.keep [0, 1] H
  · replace H := H.2 c
    refine And.intro O.1 ?_
    refine Or.inl ⟨_, O.2.1, ?_⟩
    refine And.intro (Nat.le_of_ble_eq_true rfl) ?_
    refine And.intro (Nat.le_of_ble_eq_true rfl) (And.intro O.2.2.1.1 ?_)
    refine Cl.mono H (fun r M7 h => ?_)
    obtain ⟨rfl, H⟩ := h
    obtain ⟨O, H⟩ := H
    exact At.keep [0, 1] H

theorem c_X3_readLaw_82 {G : GT} {d : Nat} {M : Mem} {o t l : Nat} (O : LrAt M o t l) {l1 : Int32} {Q : Mem → Prop} (H : CV G d 36 [.ref o] M (fun M8 => LrAt M8 o t l ∧ (CV G d 23 [.ref l, .int l1] M8 (fun M9 => LrAt M9 o t l ∧ (CI G d 95 [.ref t, .ref (gk G 3)] M9 (fun v11 M10 => LrAt M10 o t l ∧ ((v11 = (-1 : Int32) → At G (d + 1) 32 112 [(0, .ref o), (1, .int l1)] [] M10 (qV Q)) ∧ (¬ v11 = (-1 : Int32) → CV G d 33 [.ref o, .int (0 : Int32)] M10 (fun M12 => LrAt M12 o t l ∧ (At G (d + 1) 32 112 [(0, .ref o), (1, .int l1)] [] M12 (qV Q))))))))))) : At G (d + 1) 32 82 [(0, .ref o), (1, .int l1)] [] M (qV Q) := by
  refine vcc ok32 41 [21, 67, 112, 162, 168] ?_
  refine And.intro (Nat.le_of_ble_eq_true rfl) ?_
  refine And.intro (Nat.le_of_ble_eq_true rfl) (And.intro O.1 ?_)
  refine Cl.mono H (fun r M8 h => ?_)
  obtain ⟨rfl, H⟩ := h
  obtain ⟨O, H⟩ := H
  refine And.intro O.1 ?_
  refine Or.inl ⟨_, O.2.2.2.1, ?_⟩
  refine And.intro (Nat.le_of_ble_eq_true rfl) ?_
  refine And.intro (Nat.le_of_ble_eq_true rfl) (And.intro O.2.2.2.2.1 ?_)
  refine Cl.mono H (fun r M9 h => ?_)
  obtain ⟨rfl, H⟩ := h
  obtain ⟨O, H⟩ := H
  refine And.intro O.1 ?_
  refine Or.inl ⟨_, O.2.1, ?_⟩
  refine And.intro (Nat.le_of_ble_eq_true rfl) ?_
  refine And.intro (Nat.le_of_ble_eq_true rfl) (And.intro O.2.2.1.1 ?_)
  refine Cl.mono H (fun r M10 h => ?_)
  obtain ⟨v11, rfl, H⟩ := h
  obtain ⟨O, H⟩ := H
  refine And.intro (fun c => ?_) (fun c => ?_)
  · replace H := H.1 c
    exact H
  · replace H := H.2 c
    refine And.intro (Nat.le_of_ble_eq_true rfl) ?_
    refine And.intro (Nat.le_of_ble_eq_true rfl) (And.intro O.1 ?_)
    refine Cl.mono H (fun r M12 h => ?_)
    obtain ⟨rfl, H⟩ := h
    obtain ⟨O, H⟩ := H
    exact H

theorem c_X3_readLaw_112 {G : GT} {d : Nat} {M : Mem} {o t l : Nat} (O : LrAt M o t l) {l1 : Int32} {Q : Mem → Prop} (H : CV G d 24 [.ref l, .int l1] M (fun M13 => LrAt M13 o t l ∧ (CI G d 92 [.ref t] M13 (fun v15 M14 => LrAt M14 o t l ∧ ((¬ v15 = (-1 : Int32) → CI G d 94 [.ref t, .int (59 : Int32), .int (59 : Int32)] M14 (fun v17 M16 => LrAt M16 o t l ∧ ((¬ v17 = (-1 : Int32) → At G (d + 1) 32 162 [(0, .ref o), (1, .int l1)] [] M16 (qV Q)) ∧ (v17 = (-1 : Int32) → CV G d 91 [.ref t, .int (vi M16 t 2), .int (0 : Int32)] M16 (fun M18 => LrAt M18 o t l ∧ (At G (d + 1) 32 162 [(0, .ref o), (1, .int l1)] [] M18 (qV Q))))))) ∧ (v15 = (-1 : Int32) → Q M14)))))) : At G (d + 1) 32 112 [(0, .ref o), (1, .int l1)] [] M (qV Q) := by
  refine vcc ok32 56 [21, 67, 82, 162, 168] ?_
  refine And.intro O.1 ?_
  refine Or.inl ⟨_, O.2.2.2.1, ?_⟩
  refine And.intro (Nat.le_of_ble_eq_true rfl) ?_
  refine And.intro (Nat.le_of_ble_eq_true rfl) (And.intro O.2.2.2.2.1 ?_)
  refine Cl.mono H (fun r M13 h => ?_)
  obtain ⟨rfl, H⟩ := h
  obtain ⟨O, H⟩ := H
  refine And.intro O.1 ?_
  refine Or.inl ⟨_, O.2.1, ?_⟩
  refine And.intro (Nat.le_of_ble_eq_true rfl) ?_
  refine And.intro (Nat.le_of_ble_eq_true rfl) (And.intro O.2.2.1.1 ?_)
  refine Cl.mono H (fun r M14 h => ?_)
  obtain ⟨v15, rfl, H⟩ := h
  obtain ⟨O, H⟩ := H
  refine And.intro (fun c => ?_) (fun c => ?_)
  · replace H := H.1 c
    refine And.intro O.1 ?_
    refine Or.inl ⟨_, O.2.1, ?_⟩
    refine And.intro (Nat.le_of_ble_eq_true rfl) ?_
    refine And.intro (Nat.le_of_ble_eq_true rfl) (And.intro O.2.2.1.1 ?_)
    refine Cl.mono H (fun r M16 h => ?_)
    obtain ⟨v17, rfl, H⟩ := h
    obtain ⟨O, H⟩ := H
    refine And.intro (fun c => ?_) (fun c => ?_)
    · replace H := H.1 c
      exact H
    · replace H := H.2 c
      refine And.intro O.1 ?_
      refine Or.inl ⟨_, O.2.1, ?_⟩
      refine And.intro O.1 ?_
      refine Or.inl ⟨_, O.2.1, ?_⟩
      refine And.intro O.2.2.1.1 ?_
      refine And.intro (Nat.le_of_ble_eq_true rfl) ?_
      refine And.intro (Nat.le_of_ble_eq_true rfl) (And.intro O.2.2.1.1 ?_)
      refine Cl.mono H (fun r M18 h => ?_)
      obtain ⟨rfl, H⟩ := h
      obtain ⟨O, H⟩ := H
      exact H
  · replace H := H.2 c
    exact ⟨rfl, H⟩

theorem c_X3_readLaw_162 {G : GT} {d : Nat} {M : Mem} {o t l : Nat} (O : LrAt M o t l) {l1 : Int32} {Q : Mem → Prop} (H : At G (d + 1) 32 21 [(0, .ref o), (1, .int (l1 + (1 : Int32)))] [] M (qV Q)) : At G (d + 1) 32 162 [(0, .ref o), (1, .int l1)] [] M (qV Q) := by
  refine vcc ok32 80 [21, 67, 82, 112, 168] ?_
  exact H

theorem c_X3_readLaw_168 {G : GT} {d : Nat} {M : Mem} {o t l : Nat} (O : LrAt M o t l)  {Q : Mem → Prop} (H : Q M) : At G (d + 1) 32 168 [] [] M (qV Q) := by
  refine vcc ok32 82 [21, 67, 82, 112, 162] ?_
  exact ⟨rfl, H⟩

theorem c_X3_readTest {G : GT} {d : Nat} {M : Mem} {o t l : Nat} (O : LrAt M o t l) {a1 : Int32} {Q : Mem → Prop} (H : At G (d + 1) 33 2 [(0, .ref o), (1, .int a1), (2, .int (0 : Int32))] [] M (qV Q)) : CV G (d + 1) 33 [.ref o, .int a1] M Q := by
  refine Cl.ofM (Nat.le_of_ble_eq_true rfl) rfl ?_
  refine vcc ok33 0 [2, 16] ?_
  exact H

theorem c_X3_readTest_2 {G : GT} {d : Nat} {M : Mem} {o t l : Nat} (O : LrAt M o t l) {l1 : Int32} {l2 : Int32} {Q : Mem → Prop} (H : ((400 : Int32) ≤ l2 → Q M) ∧ (¬ (400 : Int32) ≤ l2 → CV G d 34 [.ref o, .int l1] M (fun M1 => LrAt M1 o t l ∧ (At G (d + 1) 33 16 [(0, .ref o), (1, .int l1), (2, .int l2), (3, .int (0 : Int32))] [] M1 (qV Q))))) : At G (d + 1) 33 2 [(0, .ref o), (1, .int l1), (2, .int l2)] [] M (qV Q) := by
  refine vcc ok33 2 [16] ?_
  refine And.intro (fun c => ?_) (fun c => ?_)
  · replace H := H.1 c
    exact ⟨rfl, H⟩
  · replace H := H.2 c
    refine And.intro (Nat.le_of_ble_eq_true rfl) ?_
    refine And.intro (Nat.le_of_ble_eq_true rfl) (And.intro O.1 ?_)
    refine Cl.mono H (fun r M1 h => ?_)
    obtain ⟨rfl, H⟩ := h
    obtain ⟨O, H⟩ := H
    exact H

theorem c_X3_readTest_16 {G : GT} {d : Nat} {M : Mem} {o t l : Nat} (O : LrAt M o t l) {l1 : Int32} {l2 : Int32} {l3 : Int32} {Q : Mem → Prop} (H : ((400 : Int32) ≤ l3 → (l2 ≤ 0 → CI G d 95 [.ref t, .ref (gk G 6)] M (fun v3 M2 => LrAt M2 o t l ∧ ((¬ v3 = (-1 : Int32) → At G (d + 1) 33 2 [(0, .ref o), (1, .int l1), (2, .int (l2 + (1 : Int32)))] [] M2 (qV Q)) ∧ (v3 = (-1 : Int32) → Q M2)))) ∧ (¬ l2 ≤ 0 → CV G d 22 [.ref l, .int (200010 : Int32)] M (fun M4 => LrAt M4 o t l ∧ (CI G d 95 [.ref t, .ref (gk G 6)] M4 (fun v6 M5 => LrAt M5 o t l ∧ ((¬ v6 = (-1 : Int32) → At G (d + 1) 33 2 [(0, .ref o), (1, .int l1), (2, .int (l2 + (1 : Int32)))] [] M5 (qV Q)) ∧ (v6 = (-1 : Int32) → Q M5))))))) ∧ (¬ (400 : Int32) ≤ l3 → CI G d 95 [.ref t, .ref (gk G 5)] M (fun v8 M7 => LrAt M7 o t l ∧ ((v8 = (-1 : Int32) → (l2 ≤ 0 → CI G d 95 [.ref t, .ref (gk G 6)] M7 (fun v10 M9 => LrAt M9 o t l ∧ ((¬ v10 = (-1 : Int32) → At G (d + 1) 33 2 [(0, .ref o), (1, .int l1), (2, .int (l2 + (1 : Int32)))] [] M9 (qV Q)) ∧ (v10 = (-1 : Int32) → Q M9)))) ∧ (¬ l2 ≤ 0 → CV G d 22 [.ref l, .int (200010 : Int32)] M7 (fun M11 => LrAt M11 o t l ∧ (CI G d 95 [.ref t, .ref (gk G 6)] M11 (fun v13 M12 => LrAt M12 o t l ∧ ((¬ v13 = (-1 : Int32) → At G (d + 1) 33 2 [(0, .ref o), (1, .int l1), (2, .int (l2 + (1 : Int32)))] [] M12 (qV Q)) ∧ (v13 = (-1 : Int32) → Q M12))))))) ∧ (¬ v8 = (-1 : Int32) → CV G d 34 [.ref o, .int l1] M7 (fun M14 => LrAt M14 o t l ∧ (CV G d 22 [.ref l, .int (200009 : Int32)] M14 (fun M15 => LrAt M15 o t l ∧ (At G (d + 1) 33 16 [(0, .ref o), (1, .int l1), (2, .int l2), (3, .int (l3 + (1 : Int32)))] [] M15 (qV Q)))))))))) : At G (d + 1) 33 16 [(0, .ref o), (1, .int l1), (2, .int l2), (3, .int l3)] [] M (qV Q) := by
  refine vcc ok33 10 [2] ?_
  refine And.intro (fun c => ?_) (fun c => ?_)
  · replace H := H.1 c
    refine And.intro (fun c => ?_) (fun c => ?_)
    · replace H := H.1 c
      refine And.intro O.1 ?_
      refine Or.inl ⟨_, O.2.1, ?_⟩
      refine And.intro (Nat.le_of_ble_eq_true rfl) ?_
      refine And.intro (Nat.le_of_ble_eq_true rfl) (And.intro O.2.2.1.1 ?_)
      refine Cl.mono H (fun r M2 h => ?_)
      obtain ⟨v3, rfl, H⟩ := h
      obtain ⟨O, H⟩ := H
      refine And.intro (fun c => ?_) (fun c => ?_)
      · replace H := H.1 c
        exact At.keep [0, 1, 2] H
      · replace H := H.2 c
        exact ⟨rfl, H⟩
    · replace H := H.2 c
      refine And.intro O.1 ?_
      refine Or.inl ⟨_, O.2.2.2.1, ?_⟩
      refine And.intro (Nat.le_of_ble_eq_true rfl) ?_
      refine And.intro (Nat.le_of_ble_eq_true rfl) (And.intro O.2.2.2.2.1 ?_)
      refine Cl.mono H (fun r M4 h => ?_)
      obtain ⟨rfl, H⟩ := h
      obtain ⟨O, H⟩ := H
      refine And.intro O.1 ?_
      refine Or.inl ⟨_, O.2.1, ?_⟩
      refine And.intro (Nat.le_of_ble_eq_true rfl) ?_
      refine And.intro (Nat.le_of_ble_eq_true rfl) (And.intro O.2.2.1.1 ?_)
      refine Cl.mono H (fun r M5 h => ?_)
      obtain ⟨v6, rfl, H⟩ := h
      obtain ⟨O, H⟩ := H
      refine And.intro (fun c => ?_) (fun c => ?_)
      · replace H := H.1 c
        exact At.keep [0, 1, 2] H
      · replace H := H.2 c
        exact ⟨rfl, H⟩
  · replace H := H.2 c
    refine And.intro O.1 ?_
    refine Or.inl ⟨_, O.2.1, ?_⟩
    refine And.intro (Nat.le_of_ble_eq_true rfl) ?_
    refine And.intro (Nat.le_of_ble_eq_true rfl) (And.intro O.2.2.1.1 ?_)
    refine Cl.mono H (fun r M7 h => ?_)
    obtain ⟨v8, rfl, H⟩ := h
    obtain ⟨O, H⟩ := H
    refine And.intro (fun c => ?_) (fun c => ?_)
    · replace H := H.1 c
      refine And.intro (fun c => ?_) (fun c => ?_)
      · replace H := H.1 c
        refine And.intro O.1 ?_
        refine Or.inl ⟨_, O.2.1, ?_⟩
        refine And.intro (Nat.le_of_ble_eq_true rfl) ?_
        refine And.intro (Nat.le_of_ble_eq_true rfl) (And.intro O.2.2.1.1 ?_)
        refine Cl.mono H (fun r M9 h => ?_)
        obtain ⟨v10, rfl, H⟩ := h
        obtain ⟨O, H⟩ := H
        refine And.intro (fun c => ?_) (fun c => ?_)
        · replace H := H.1 c
          exact At.keep [0, 1, 2] H
        · replace H := H.2 c
          exact ⟨rfl, H⟩
      · replace H := H.2 c
        refine And.intro O.1 ?_
        refine Or.inl ⟨_, O.2.2.2.1, ?_⟩
        refine And.intro (Nat.le_of_ble_eq_true rfl) ?_
        refine And.intro (Nat.le_of_ble_eq_true rfl) (And.intro O.2.2.2.2.1 ?_)
        refine Cl.mono H (fun r M11 h => ?_)
        obtain ⟨rfl, H⟩ := h
        obtain ⟨O, H⟩ := H
        refine And.intro O.1 ?_
        refine Or.inl ⟨_, O.2.1, ?_⟩
        refine And.intro (Nat.le_of_ble_eq_true rfl) ?_
        refine And.intro (Nat.le_of_ble_eq_true rfl) (And.intro O.2.2.1.1 ?_)
        refine Cl.mono H (fun r M12 h => ?_)
        obtain ⟨v13, rfl, H⟩ := h
        obtain ⟨O, H⟩ := H
        refine And.intro (fun c => ?_) (fun c => ?_)
        · replace H := H.1 c
          exact At.keep [0, 1, 2] H
        · replace H := H.2 c
          exact ⟨rfl, H⟩
    · replace H := H.2 c
      refine And.intro (Nat.le_of_ble_eq_true rfl) ?_
      refine And.intro (Nat.le_of_ble_eq_true rfl) (And.intro O.1 ?_)
      refine Cl.mono H (fun r M14 h => ?_)
      obtain ⟨rfl, H⟩ := h
      obtain ⟨O, H⟩ := H
      refine And.intro O.1 ?_
      refine Or.inl ⟨_, O.2.2.2.1, ?_⟩
      refine And.intro (Nat.le_of_ble_eq_true rfl) ?_
      refine And.intro (Nat.le_of_ble_eq_true rfl) (And.intro O.2.2.2.2.1 ?_)
      refine Cl.mono H (fun r M15 h => ?_)
      obtain ⟨rfl, H⟩ := h
      obtain ⟨O, H⟩ := H
      exact H

theorem c_X3_readFact {G : GT} {d : Nat} {M : Mem} {o t l : Nat} (O : LrAt M o t l) {a1 : Int32} {Q : Mem → Prop} (H : CI G d 94 [.ref t, .int (91 : Int32), .int (91 : Int32)] M (fun v2 M1 => LrAt M1 o t l ∧ ((v2 = (-1 : Int32) → At G (d + 1) 34 28 [(0, .ref o), (1, .int a1), (2, .int (vi M t 2))] [.int (0 : Int32)] M1 (qV Q)) ∧ (¬ v2 = (-1 : Int32) → At G (d + 1) 34 28 [(0, .ref o), (1, .int a1), (2, .int (vi M t 2))] [.int (1 : Int32)] M1 (qV Q))))) : CV G (d + 1) 34 [.ref o, .int a1] M Q := by
  refine Cl.ofM (Nat.le_of_ble_eq_true rfl) rfl ?_
  refine vcc ok34 0 [28, 50, 51, 62, 80, 171] ?_
  refine And.intro O.1 ?_
  refine Or.inl ⟨_, O.2.1, ?_⟩
  refine And.intro O.2.2.1.1 ?_
  refine And.intro O.1 ?_
  refine Or.inl ⟨_, O.2.1, ?_⟩
  refine And.intro (Nat.le_of_ble_eq_true rfl) ?_
  refine And.intro (Nat.le_of_ble_eq_true rfl) (And.intro O.2.2.1.1 ?_)
  refine Cl.mono H (fun r M1 h => ?_)
  obtain ⟨v2, rfl, H⟩ := h
  obtain ⟨O, H⟩ := H
  refine And.intro (fun c => ?_) (fun c => ?_)
  · replace H := H.1 c
    exact H
  · replace H := H.2 c
    exact H

theorem c_X3_readFact_28 {G : GT} {d : Nat} {M : Mem} {o t l : Nat} (O : LrAt M o t l) {l1 : Int32} {l2 : Int32} {t0 : Int32} {Q : Mem → Prop} (H : (¬ t0 = 0 → At G (d + 1) 34 50 [(0, .ref o), (1, .int l1), (2, .int l2), (3, .int t0)] [] M (qV Q)) ∧ (t0 = 0 → CI G d 95 [.ref t, .ref (gk G 4)] M (fun v4 M3 => LrAt M3 o t l ∧ ((v4 = (-1 : Int32) → At G (d + 1) 34 50 [(0, .ref o), (1, .int l1), (2, .int l2), (3, .int t0)] [] M3 (qV Q)) ∧ (¬ v4 = (-1 : Int32) → At G (d + 1) 34 51 [(0, .ref o), (1, .int l1), (2, .int l2), (3, .int t0)] [.int (1 : Int32)] M3 (qV Q)))))) : At G (d + 1) 34 28 [(0, .ref o), (1, .int l1), (2, .int l2)] [.int t0] M (qV Q) := by
  refine vcc ok34 14 [50, 51, 62, 80, 171] ?_
  refine And.intro (fun c => ?_) (fun c => ?_)
  · replace H := H.1 c
    exact H
  · replace H := H.2 c
    refine And.intro O.1 ?_
    refine Or.inl ⟨_, O.2.1, ?_⟩
    refine And.intro (Nat.le_of_ble_eq_true rfl) ?_
    refine And.intro (Nat.le_of_ble_eq_true rfl) (And.intro O.2.2.1.1 ?_)
    refine Cl.mono H (fun r M3 h => ?_)
    obtain ⟨v4, rfl, H⟩ := h
    obtain ⟨O, H⟩ := H
    refine And.intro (fun c => ?_) (fun c => ?_)
    · replace H := H.1 c
      exact H
    · replace H := H.2 c
      exact H

theorem c_X3_readFact_50 {G : GT} {d : Nat} {M : Mem} {o t l : Nat} (O : LrAt M o t l) {l1 : Int32} {l2 : Int32} {l3 : Int32} {Q : Mem → Prop} (H : At G (d + 1) 34 51 [(0, .ref o), (1, .int l1), (2, .int l2), (3, .int l3)] [.int (0 : Int32)] M (qV Q)) : At G (d + 1) 34 50 [(0, .ref o), (1, .int l1), (2, .int l2), (3, .int l3)] [] M (qV Q) := by
  refine vcc ok34 25 [28, 51, 62, 80, 171] ?_
  exact H

theorem c_X3_readFact_51 {G : GT} {d : Nat} {M : Mem} {o t l : Nat} (O : LrAt M o t l) {l1 : Int32} {l2 : Int32} {l3 : Int32} {t0 : Int32} {Q : Mem → Prop} (H : (¬ l3 = 0 → At G (d + 1) 34 62 [(0, .ref o), (1, .int l1), (2, .int l2), (3, .int l3), (4, .int t0)] [] M (qV Q)) ∧ (l3 = 0 → (t0 = 0 → At G (d + 1) 34 80 [(0, .ref o), (1, .int l1), (3, .int l3), (4, .int t0)] [] M (qV Q)) ∧ (¬ t0 = 0 → At G (d + 1) 34 62 [(0, .ref o), (1, .int l1), (2, .int l2), (3, .int l3), (4, .int t0)] [] M (qV Q)))) : At G (d + 1) 34 51 [(0, .ref o), (1, .int l1), (2, .int l2), (3, .int l3)] [.int t0] M (qV Q) := by
  refine vcc ok34 26 [28, 50, 62, 80, 171] ?_
  refine And.intro (fun c => ?_) (fun c => ?_)
  · replace H := H.1 c
    exact H
  · replace H := H.2 c
    refine And.intro (fun c => ?_) (fun c => ?_)
    · replace H := H.1 c
      exact At.keep [0, 1, 3, 4] H
    · replace H := H.2 c
      exact H

theorem c_X3_readFact_62 {G : GT} {d : Nat} {M : Mem} {o t l : Nat} (O : LrAt M o t l) {l1 : Int32} {l2 : Int32} {l3 : Int32} {l4 : Int32} {Q : Mem → Prop} (H : (l1 < (10 : Int32) → At G (d + 1) 34 80 [(0, .ref o), (1, .int l1), (3, .int l3), (4, .int l4)] [] M (qV Q)) ∧ (¬ l1 < (10 : Int32) → CV G d 91 [.ref t, .int l2, .int (2 : Int32)] M (fun M5 => LrAt M5 o t l ∧ (At G (d + 1) 34 171 [] [] M5 (qV Q))))) : At G (d + 1) 34 62 [(0, .ref o), (1, .int l1), (2, .int l2), (3, .int l3), (4, .int l4)] [] M (qV Q) := by
  refine vcc ok34 31 [28, 50, 51, 80, 171] ?_
  refine And.intro (fun c => ?_) (fun c => ?_)
  · replace H := H.1 c
    exact At.keep [0, 1, 3, 4] H
  · replace H := H.2 c
    refine And.intro O.1 ?_
    refine Or.inl ⟨_, O.2.1, ?_⟩
    refine And.intro (Nat.le_of_ble_eq_true rfl) ?_
    refine And.intro (Nat.le_of_ble_eq_true rfl) (And.intro O.2.2.1.1 ?_)
    refine Cl.mono H (fun r M5 h => ?_)
    obtain ⟨rfl, H⟩ := h
    obtain ⟨O, H⟩ := H
    exact At.keep [] H

theorem c_X3_readFact_80 {G : GT} {d : Nat} {M : Mem} {o t l : Nat} (O : LrAt M o t l) {l1 : Int32} {l3 : Int32} {l4 : Int32} {Q : Mem → Prop} (H : (l3 = 0 → (l4 = 0 → CV G d 36 [.ref o] M (fun M6 => LrAt M6 o t l ∧ (CI G d 35 [.ref o] M6 (fun v8 M7 => LrAt M7 o t l ∧ (CV G d 36 [.ref o] M7 (fun M9 => LrAt M9 o t l ∧ (CV G d 22 [.ref l, .int v8] M9 (fun M10 => LrAt M10 o t l ∧ (At G (d + 1) 34 171 [] [] M10 (qV Q)))))))))) ∧ (¬ l4 = 0 → CV G d 34 [.ref o, .int (l1 + (1 : Int32))] M (fun M11 => LrAt M11 o t l ∧ (CV G d 22 [.ref l, .int (200011 : Int32)] M11 (fun M12 => LrAt M12 o t l ∧ (At G (d + 1) 34 171 [] [] M12 (qV Q))))))) ∧ (¬ l3 = 0 → CV G d 33 [.ref o, .int (l1 + (1 : Int32))] M (fun M13 => LrAt M13 o t l ∧ (CI G d 94 [.ref t, .int (93 : Int32), .int (93 : Int32)] M13 (fun v15 M14 => LrAt M14 o t l ∧ ((¬ v15 = (-1 : Int32) → At G (d + 1) 34 171 [] [] M14 (qV Q)) ∧ (v15 = (-1 : Int32) → CV G d 91 [.ref t, .int (vi M14 t 2), .int (0 : Int32)] M14 (fun M16 => LrAt M16 o t l ∧ (At G (d + 1) 34 171 [] [] M16 (qV Q)))))))))) : At G (d + 1) 34 80 [(0, .ref o), (1, .int l1), (3, .int l3), (4, .int l4)] [] M (qV Q) := by
  refine vcc ok34 40 [28, 50, 51, 62, 171] ?_
  refine And.intro (fun c => ?_) (fun c => ?_)
  · replace H := H.1 c
    refine And.intro (fun c => ?_) (fun c => ?_)
    · replace H := H.1 c
      refine And.intro (Nat.le_of_ble_eq_true rfl) ?_
      refine And.intro (Nat.le_of_ble_eq_true rfl) (And.intro O.1 ?_)
      refine Cl.mono H (fun r M6 h => ?_)
      obtain ⟨rfl, H⟩ := h
      obtain ⟨O, H⟩ := H
      refine And.intro (Nat.le_of_ble_eq_true rfl) ?_
      refine And.intro (Nat.le_of_ble_eq_true rfl) (And.intro O.1 ?_)
      refine Cl.mono H (fun r M7 h => ?_)
      obtain ⟨v8, rfl, H⟩ := h
      obtain ⟨O, H⟩ := H
      refine And.intro (Nat.le_of_ble_eq_true rfl) ?_
      refine And.intro (Nat.le_of_ble_eq_true rfl) (And.intro O.1 ?_)
      refine Cl.mono H (fun r M9 h => ?_)
      obtain ⟨rfl, H⟩ := h
      obtain ⟨O, H⟩ := H
      refine And.intro O.1 ?_
      refine Or.inl ⟨_, O.2.2.2.1, ?_⟩
      refine And.intro (Nat.le_of_ble_eq_true rfl) ?_
      refine And.intro (Nat.le_of_ble_eq_true rfl) (And.intro O.2.2.2.2.1 ?_)
      refine Cl.mono H (fun r M10 h => ?_)
      obtain ⟨rfl, H⟩ := h
      obtain ⟨O, H⟩ := H
      exact At.keep [] H
    · replace H := H.2 c
      refine And.intro (Nat.le_of_ble_eq_true rfl) ?_
      refine And.intro (Nat.le_of_ble_eq_true rfl) (And.intro O.1 ?_)
      refine Cl.mono H (fun r M11 h => ?_)
      obtain ⟨rfl, H⟩ := h
      obtain ⟨O, H⟩ := H
      refine And.intro O.1 ?_
      refine Or.inl ⟨_, O.2.2.2.1, ?_⟩
      refine And.intro (Nat.le_of_ble_eq_true rfl) ?_
      refine And.intro (Nat.le_of_ble_eq_true rfl) (And.intro O.2.2.2.2.1 ?_)
      refine Cl.mono H (fun r M12 h => ?_)
      obtain ⟨rfl, H⟩ := h
      obtain ⟨O, H⟩ := H
      exact At.keep [] H
  · replace H := H.2 c
    refine And.intro (Nat.le_of_ble_eq_true rfl) ?_
    refine And.intro (Nat.le_of_ble_eq_true rfl) (And.intro O.1 ?_)
    refine Cl.mono H (fun r M13 h => ?_)
    obtain ⟨rfl, H⟩ := h
    obtain ⟨O, H⟩ := H
    refine And.intro O.1 ?_
    refine Or.inl ⟨_, O.2.1, ?_⟩
    refine And.intro (Nat.le_of_ble_eq_true rfl) ?_
    refine And.intro (Nat.le_of_ble_eq_true rfl) (And.intro O.2.2.1.1 ?_)
    refine Cl.mono H (fun r M14 h => ?_)
    obtain ⟨v15, rfl, H⟩ := h
    obtain ⟨O, H⟩ := H
    refine And.intro (fun c => ?_) (fun c => ?_)
    · replace H := H.1 c
      exact At.keep [] H
    · replace H := H.2 c
      refine And.intro O.1 ?_
      refine Or.inl ⟨_, O.2.1, ?_⟩
      refine And.intro O.1 ?_
      refine Or.inl ⟨_, O.2.1, ?_⟩
      refine And.intro O.2.2.1.1 ?_
      refine And.intro (Nat.le_of_ble_eq_true rfl) ?_
      refine And.intro (Nat.le_of_ble_eq_true rfl) (And.intro O.2.2.1.1 ?_)
      refine Cl.mono H (fun r M16 h => ?_)
      obtain ⟨rfl, H⟩ := h
      obtain ⟨O, H⟩ := H
      exact At.keep [] H

theorem c_X3_readFact_171 {G : GT} {d : Nat} {M : Mem} {o t l : Nat} (O : LrAt M o t l)  {Q : Mem → Prop} (H : Q M) : At G (d + 1) 34 171 [] [] M (qV Q) := by
  refine vcc ok34 85 [28, 50, 51, 62, 80] ?_
  exact ⟨rfl, H⟩

theorem c_X3_readSign {G : GT} {d : Nat} {M : Mem} {o t l : Nat} (O : LrAt M o t l)  {Q : Int32 → Mem → Prop} (H : CI G d 92 [.ref t] M (fun v2 M1 => LrAt M1 o t l ∧ ((v2 = (60 : Int32) → At G (d + 1) 35 45 [(0, .ref o), (1, .int (vi M t 2)), (2, .int v2)] [] M1 (qI Q)) ∧ (¬ v2 = (60 : Int32) → (v2 = (61 : Int32) → At G (d + 1) 35 45 [(0, .ref o), (1, .int (vi M t 2)), (2, .int v2)] [] M1 (qI Q)) ∧ (¬ v2 = (61 : Int32) → (v2 = (62 : Int32) → At G (d + 1) 35 45 [(0, .ref o), (1, .int (vi M t 2)), (2, .int v2)] [] M1 (qI Q)) ∧ (¬ v2 = (62 : Int32) → CV G d 91 [.ref t, .int (vi M t 2), .int (0 : Int32)] M1 (fun M3 => LrAt M3 o t l ∧ (Q (-1 : Int32) M3)))))))) : CI G (d + 1) 35 [.ref o] M Q := by
  refine Cl.ofM (Nat.le_of_ble_eq_true rfl) rfl ?_
  refine vcc ok35 0 [45, 85, 86, 100, 129, 141] ?_
  refine And.intro O.1 ?_
  refine Or.inl ⟨_, O.2.1, ?_⟩
  refine And.intro O.2.2.1.1 ?_
  refine And.intro O.1 ?_
  refine Or.inl ⟨_, O.2.1, ?_⟩
  refine And.intro (Nat.le_of_ble_eq_true rfl) ?_
  refine And.intro (Nat.le_of_ble_eq_true rfl) (And.intro O.2.2.1.1 ?_)
  refine Cl.mono H (fun r M1 h => ?_)
  obtain ⟨v2, rfl, H⟩ := h
  obtain ⟨O, H⟩ := H
  refine And.intro (fun c => ?_) (fun c => ?_)
  · replace H := H.1 c
    exact H
  · replace H := H.2 c
    refine And.intro (fun c => ?_) (fun c => ?_)
    · replace H := H.1 c
      exact H
    · replace H := H.2 c
      refine And.intro (fun c => ?_) (fun c => ?_)
      · replace H := H.1 c
        exact H
      · replace H := H.2 c
        refine And.intro O.1 ?_
        refine Or.inl ⟨_, O.2.1, ?_⟩
        refine And.intro (Nat.le_of_ble_eq_true rfl) ?_
        refine And.intro (Nat.le_of_ble_eq_true rfl) (And.intro O.2.2.1.1 ?_)
        refine Cl.mono H (fun r M3 h => ?_)
        obtain ⟨rfl, H⟩ := h
        obtain ⟨O, H⟩ := H
        exact ⟨fun h => absurd h (by decide), _, rfl, H⟩

theorem c_X3_readSign_45 {G : GT} {d : Nat} {M : Mem} {o t l : Nat} (O : LrAt M o t l) {l1 : Int32} {l2 : Int32} {Q : Int32 → Mem → Prop} (H : CV G d 38 [.ref o, .int l1] M (fun M4 => LrAt M4 o t l ∧ (∀ M5, M5 = seti M4 t 2 ((vi M4 t 2) + (1 : Int32)) → (l2 = (61 : Int32) → At G (d + 1) 35 85 [(0, .ref o), (2, .int l2)] [] M5 (qI Q)) ∧ (¬ l2 = (61 : Int32) → CI G d 92 [.ref t] M5 (fun v7 M6 => LrAt M6 o t l ∧ ((¬ v7 = (61 : Int32) → At G (d + 1) 35 85 [(0, .ref o), (2, .int l2)] [] M6 (qI Q)) ∧ (v7 = (61 : Int32) → At G (d + 1) 35 86 [(0, .ref o), (2, .int l2)] [.int (1 : Int32)] M6 (qI Q)))))))) : At G (d + 1) 35 45 [(0, .ref o), (1, .int l1), (2, .int l2)] [] M (qI Q) := by
  refine vcc ok35 24 [85, 86, 100, 129, 141] ?_
  refine And.intro (Nat.le_of_ble_eq_true rfl) ?_
  refine And.intro (Nat.le_of_ble_eq_true rfl) (And.intro O.1 ?_)
  refine Cl.mono H (fun r M4 h => ?_)
  obtain ⟨rfl, H⟩ := h
  obtain ⟨O, H⟩ := H
  refine And.intro O.1 ?_
  refine Or.inl ⟨_, O.2.1, ?_⟩
  refine And.intro O.2.2.1.1 ?_
  refine And.intro O.2.2.1.1 ?_
  refine And.intro (Or.inl rfl) (And.intro (fun h => absurd h (by decide)) ?_)
  replace H := H _ rfl
  refine And.intro (fun c => ?_) (fun c => ?_)
  · replace H := H.1 c
    exact At.keep [0, 2] H
  · replace H := H.2 c
    refine And.intro O.1 ?_
    refine Or.inl ⟨_, O.2.1, ?_⟩
    refine And.intro (Nat.le_of_ble_eq_true rfl) ?_
    refine And.intro (Nat.le_of_ble_eq_true rfl) (And.intro O.2.2.1.1 ?_)
    refine Cl.mono H (fun r M6 h => ?_)
    obtain ⟨v7, rfl, H⟩ := h
    obtain ⟨O, H⟩ := H
    refine And.intro (fun c => ?_) (fun c => ?_)
    · replace H := H.1 c
      exact At.keep [0, 2] H
    · replace H := H.2 c
      exact At.keep [0, 2] H

theorem c_X3_readSign_85 {G : GT} {d : Nat} {M : Mem} {o t l : Nat} (O : LrAt M o t l) {l2 : Int32} {Q : Int32 → Mem → Prop} (H : At G (d + 1) 35 86 [(0, .ref o), (2, .int l2)] [.int (0 : Int32)] M (qI Q)) : At G (d + 1) 35 85 [(0, .ref o), (2, .int l2)] [] M (qI Q) := by
  refine vcc ok35 44 [45, 86, 100, 129, 141] ?_
  exact H

theorem c_X3_readSign_86 {G : GT} {d : Nat} {M : Mem} {o t l : Nat} (O : LrAt M o t l) {l2 : Int32} {t0 : Int32} {Q : Int32 → Mem → Prop} (H : (t0 = 0 → At G (d + 1) 35 100 [(2, .int l2), (3, .int t0)] [.int (0 : Int32), .ref t] M (qI Q)) ∧ (¬ t0 = 0 → At G (d + 1) 35 100 [(2, .int l2), (3, .int t0)] [.int (1 : Int32), .ref t] M (qI Q))) : At G (d + 1) 35 86 [(0, .ref o), (2, .int l2)] [.int t0] M (qI Q) := by
  refine vcc ok35 45 [45, 85, 100, 129, 141] ?_
  refine And.intro O.1 ?_
  refine Or.inl ⟨_, O.2.1, ?_⟩
  refine And.intro (fun c => ?_) (fun c => ?_)
  · replace H := H.1 c
    exact At.keep [2, 3] H
  · replace H := H.2 c
    exact At.keep [2, 3] H

theorem c_X3_readSign_100 {G : GT} {d : Nat} {M : Mem} {o t l : Nat} (O : LrAt M o t l) {l2 : Int32} {l3 : Int32} {t0 : Int32} {t1 : Nat} {Q : Int32 → Mem → Prop} (H : mK M t1 = 10 ∧ CV G d 93 [.ref t1, .int t0] M (fun M8 => LrAt M8 o t l ∧ ((¬ l2 = (61 : Int32) → (¬ l2 = (60 : Int32) → (l3 = 0 → At G (d + 1) 35 141 [] [.int (200008 : Int32)] M8 (qI Q)) ∧ (¬ l3 = 0 → At G (d + 1) 35 141 [] [.int (200007 : Int32)] M8 (qI Q))) ∧ (l2 = (60 : Int32) → (l3 = 0 → At G (d + 1) 35 129 [] [.int (200004 : Int32)] M8 (qI Q)) ∧ (¬ l3 = 0 → At G (d + 1) 35 129 [] [.int (200005 : Int32)] M8 (qI Q)))) ∧ (l2 = (61 : Int32) → Q (200006 : Int32) M8)))) : At G (d + 1) 35 100 [(2, .int l2), (3, .int l3)] [.int t0, .ref t1] M (qI Q) := by
  refine vcc ok35 53 [45, 85, 86, 129, 141] ?_
  refine And.intro (Nat.le_of_ble_eq_true rfl) ?_
  refine And.intro (Nat.le_of_ble_eq_true rfl) (And.intro H.1 ?_)
  replace H := H.2
  refine Cl.mono H (fun r M8 h => ?_)
  obtain ⟨rfl, H⟩ := h
  obtain ⟨O, H⟩ := H
  refine And.intro (fun c => ?_) (fun c => ?_)
  · replace H := H.1 c
    refine And.intro (fun c => ?_) (fun c => ?_)
    · replace H := H.1 c
      refine And.intro (fun c => ?_) (fun c => ?_)
      · replace H := H.1 c
        exact At.keep [] H
      · replace H := H.2 c
        exact At.keep [] H
    · replace H := H.2 c
      refine And.intro (fun c => ?_) (fun c => ?_)
      · replace H := H.1 c
        exact At.keep [] H
      · replace H := H.2 c
        exact At.keep [] H
  · replace H := H.2 c
    exact ⟨fun h => absurd h (by decide), _, rfl, H⟩

theorem c_X3_readSign_129 {G : GT} {d : Nat} {M : Mem} {o t l : Nat} (O : LrAt M o t l) {t0 : Int32} {Q : Int32 → Mem → Prop} (H : Q t0 M) : At G (d + 1) 35 129 [] [.int t0] M (qI Q) := by
  refine vcc ok35 67 [45, 85, 86, 100, 141] ?_
  exact ⟨fun h => absurd h (by decide), _, rfl, H⟩

theorem c_X3_readSign_141 {G : GT} {d : Nat} {M : Mem} {o t l : Nat} (O : LrAt M o t l) {t0 : Int32} {Q : Int32 → Mem → Prop} (H : Q t0 M) : At G (d + 1) 35 141 [] [.int t0] M (qI Q) := by
  refine vcc ok35 73 [45, 85, 86, 100, 129] ?_
  exact ⟨fun h => absurd h (by decide), _, rfl, H⟩

theorem c_X3_readSum {G : GT} {d : Nat} {M : Mem} {o t l : Nat} (O : LrAt M o t l)  {Q : Mem → Prop} (H : At G (d + 1) 36 4 [(0, .ref o), (1, .int (-1 : Int32)), (2, .int (0 : Int32))] [] M (qV Q)) : CV G (d + 1) 36 [.ref o] M Q := by
  refine Cl.ofM (Nat.le_of_ble_eq_true rfl) rfl ?_
  refine vcc ok36 0 [4, 40] ?_
  exact H

theorem c_X3_readSum_4 {G : GT} {d : Nat} {M : Mem} {o t l : Nat} (O : LrAt M o t l) {l1 : Int32} {l2 : Int32} {Q : Mem → Prop} (H : ((400 : Int32) ≤ l2 → Q M) ∧ (¬ (400 : Int32) ≤ l2 → (¬ (vi M t 3) = 0 → Q M) ∧ ((vi M t 3) = 0 → CV G d 37 [.ref o] M (fun M1 => LrAt M1 o t l ∧ (CI G d 94 [.ref t, .int (42 : Int32), .int (47 : Int32)] M1 (fun v3 M2 => LrAt M2 o t l ∧ (At G (d + 1) 36 40 [(0, .ref o), (1, .int l1), (2, .int l2), (3, .int v3), (4, .int (0 : Int32))] [] M2 (qV Q)))))))) : At G (d + 1) 36 4 [(0, .ref o), (1, .int l1), (2, .int l2)] [] M (qV Q) := by
  refine vcc ok36 4 [40] ?_
  refine And.intro (fun c => ?_) (fun c => ?_)
  · replace H := H.1 c
    exact ⟨rfl, H⟩
  · replace H := H.2 c
    refine And.intro O.1 ?_
    refine Or.inl ⟨_, O.2.1, ?_⟩
    refine And.intro O.2.2.1.1 ?_
    refine And.intro (fun c => ?_) (fun c => ?_)
    · replace H := H.1 c
      exact ⟨rfl, H⟩
    · replace H := H.2 c
      refine And.intro (Nat.le_of_ble_eq_true rfl) ?_
      refine And.intro (Nat.le_of_ble_eq_true rfl) (And.intro O.1 ?_)
      refine Cl.mono H (fun r M1 h => ?_)
      obtain ⟨rfl, H⟩ := h
      obtain ⟨O, H⟩ := H
      refine And.intro O.1 ?_
      refine Or.inl ⟨_, O.2.1, ?_⟩
      refine And.intro (Nat.le_of_ble_eq_true rfl) ?_
      refine And.intro (Nat.le_of_ble_eq_true rfl) (And.intro O.2.2.1.1 ?_)
      refine Cl.mono H (fun r M2 h => ?_)
      obtain ⟨v3, rfl, H⟩ := h
      obtain ⟨O, H⟩ := H
      exact H

theorem c_X3_readSum_40 {G : GT} {d : Nat} {M : Mem} {o t l : Nat} (O : LrAt M o t l) {l1 : Int32} {l2 : Int32} {l3 : Int32} {l4 : Int32} {Q : Mem → Prop} (H : ((400 : Int32) ≤ l4 → (l1 = (-1 : Int32) → CI G d 94 [.ref t, .int (43 : Int32), .int (45 : Int32)] M (fun v5 M4 => LrAt M4 o t l ∧ ((¬ v5 = (-1 : Int32) → (¬ v5 = (43 : Int32) → At G (d + 1) 36 4 [(0, .ref o), (1, .int (200001 : Int32)), (2, .int (l2 + (1 : Int32)))] [] M4 (qV Q)) ∧ (v5 = (43 : Int32) → At G (d + 1) 36 4 [(0, .ref o), (1, .int (200000 : Int32)), (2, .int (l2 + (1 : Int32)))] [] M4 (qV Q))) ∧ (v5 = (-1 : Int32) → Q M4)))) ∧ (¬ l1 = (-1 : Int32) → CV G d 22 [.ref l, .int l1] M (fun M6 => LrAt M6 o t l ∧ (CI G d 94 [.ref t, .int (43 : Int32), .int (45 : Int32)] M6 (fun v8 M7 => LrAt M7 o t l ∧ ((¬ v8 = (-1 : Int32) → (¬ v8 = (43 : Int32) → At G (d + 1) 36 4 [(0, .ref o), (1, .int (200001 : Int32)), (2, .int (l2 + (1 : Int32)))] [] M7 (qV Q)) ∧ (v8 = (43 : Int32) → At G (d + 1) 36 4 [(0, .ref o), (1, .int (200000 : Int32)), (2, .int (l2 + (1 : Int32)))] [] M7 (qV Q))) ∧ (v8 = (-1 : Int32) → Q M7))))))) ∧ (¬ (400 : Int32) ≤ l4 → (l3 = (-1 : Int32) → (l1 = (-1 : Int32) → CI G d 94 [.ref t, .int (43 : Int32), .int (45 : Int32)] M (fun v10 M9 => LrAt M9 o t l ∧ ((¬ v10 = (-1 : Int32) → (¬ v10 = (43 : Int32) → At G (d + 1) 36 4 [(0, .ref o), (1, .int (200001 : Int32)), (2, .int (l2 + (1 : Int32)))] [] M9 (qV Q)) ∧ (v10 = (43 : Int32) → At G (d + 1) 36 4 [(0, .ref o), (1, .int (200000 : Int32)), (2, .int (l2 + (1 : Int32)))] [] M9 (qV Q))) ∧ (v10 = (-1 : Int32) → Q M9)))) ∧ (¬ l1 = (-1 : Int32) → CV G d 22 [.ref l, .int l1] M (fun M11 => LrAt M11 o t l ∧ (CI G d 94 [.ref t, .int (43 : Int32), .int (45 : Int32)] M11 (fun v13 M12 => LrAt M12 o t l ∧ ((¬ v13 = (-1 : Int32) → (¬ v13 = (43 : Int32) → At G (d + 1) 36 4 [(0, .ref o), (1, .int (200001 : Int32)), (2, .int (l2 + (1 : Int32)))] [] M12 (qV Q)) ∧ (v13 = (43 : Int32) → At G (d + 1) 36 4 [(0, .ref o), (1, .int (200000 : Int32)), (2, .int (l2 + (1 : Int32)))] [] M12 (qV Q))) ∧ (v13 = (-1 : Int32) → Q M12))))))) ∧ (¬ l3 = (-1 : Int32) → CV G d 37 [.ref o] M (fun M14 => LrAt M14 o t l ∧ ((¬ l3 = (42 : Int32) → CV G d 22 [.ref l, .int (200003 : Int32)] M14 (fun M15 => LrAt M15 o t l ∧ (CI G d 94 [.ref t, .int (42 : Int32), .int (47 : Int32)] M15 (fun v17 M16 => LrAt M16 o t l ∧ (At G (d + 1) 36 40 [(0, .ref o), (1, .int l1), (2, .int l2), (3, .int v17), (4, .int (l4 + (1 : Int32)))] [] M16 (qV Q)))))) ∧ (l3 = (42 : Int32) → CV G d 22 [.ref l, .int (200002 : Int32)] M14 (fun M18 => LrAt M18 o t l ∧ (CI G d 94 [.ref t, .int (42 : Int32), .int (47 : Int32)] M18 (fun v20 M19 => LrAt M19 o t l ∧ (At G (d + 1) 36 40 [(0, .ref o), (1, .int l1), (2, .int l2), (3, .int v20), (4, .int (l4 + (1 : Int32)))] [] M19 (qV Q))))))))))) : At G (d + 1) 36 40 [(0, .ref o), (1, .int l1), (2, .int l2), (3, .int l3), (4, .int l4)] [] M (qV Q) := by
  refine vcc ok36 21 [4] ?_
  refine And.intro (fun c => ?_) (fun c => ?_)
  · replace H := H.1 c
    refine And.intro (fun c => ?_) (fun c => ?_)
    · replace H := H.1 c
      refine And.intro O.1 ?_
      refine Or.inl ⟨_, O.2.1, ?_⟩
      refine And.intro (Nat.le_of_ble_eq_true rfl) ?_
      refine And.intro (Nat.le_of_ble_eq_true rfl) (And.intro O.2.2.1.1 ?_)
      refine Cl.mono H (fun r M4 h => ?_)
      obtain ⟨v5, rfl, H⟩ := h
      obtain ⟨O, H⟩ := H
      refine And.intro (fun c => ?_) (fun c => ?_)
      · replace H := H.1 c
        refine And.intro (fun c => ?_) (fun c => ?_)
        · replace H := H.1 c
          exact At.keep [0, 1, 2] H
        · replace H := H.2 c
          exact At.keep [0, 1, 2] H
      · replace H := H.2 c
        exact ⟨rfl, H⟩
    · replace H := H.2 c
      refine And.intro O.1 ?_
      refine Or.inl ⟨_, O.2.2.2.1, ?_⟩
      refine And.intro (Nat.le_of_ble_eq_true rfl) ?_
      refine And.intro (Nat.le_of_ble_eq_true rfl) (And.intro O.2.2.2.2.1 ?_)
      refine Cl.mono H (fun r M6 h => ?_)
      obtain ⟨rfl, H⟩ := h
      obtain ⟨O, H⟩ := H
      refine And.intro O.1 ?_
      refine Or.inl ⟨_, O.2.1, ?_⟩
      refine And.intro (Nat.le_of_ble_eq_true rfl) ?_
      refine And.intro (Nat.le_of_ble_eq_true rfl) (And.intro O.2.2.1.1 ?_)
      refine Cl.mono H (fun r M7 h => ?_)
      obtain ⟨v8, rfl, H⟩ := h
      obtain ⟨O, H⟩ := H
      refine And.intro (fun c => ?_) (fun c => ?_)
      · replace H := H.1 c
        refine And.intro (fun c => ?_) (fun c => ?_)
        · replace H := H.1 c
          exact At.keep [0, 1, 2] H
        · replace H := H.2 c
          exact At.keep [0, 1, 2] H
      · replace H := H.2 c
        exact ⟨rfl, H⟩
  · replace H := H.2 c
    refine And.intro (fun c => ?_) (fun c => ?_)
    · replace H := H.1 c
      refine And.intro (fun c => ?_) (fun c => ?_)
      · replace H := H.1 c
        refine And.intro O.1 ?_
        refine Or.inl ⟨_, O.2.1, ?_⟩
        refine And.intro (Nat.le_of_ble_eq_true rfl) ?_
        refine And.intro (Nat.le_of_ble_eq_true rfl) (And.intro O.2.2.1.1 ?_)
        refine Cl.mono H (fun r M9 h => ?_)
        obtain ⟨v10, rfl, H⟩ := h
        obtain ⟨O, H⟩ := H
        refine And.intro (fun c => ?_) (fun c => ?_)
        · replace H := H.1 c
          refine And.intro (fun c => ?_) (fun c => ?_)
          · replace H := H.1 c
            exact At.keep [0, 1, 2] H
          · replace H := H.2 c
            exact At.keep [0, 1, 2] H
        · replace H := H.2 c
          exact ⟨rfl, H⟩
      · replace H := H.2 c
        refine And.intro O.1 ?_
        refine Or.inl ⟨_, O.2.2.2.1, ?_⟩
        refine And.intro (Nat.le_of_ble_eq_true rfl) ?_
        refine And.intro (Nat.le_of_ble_eq_true rfl) (And.intro O.2.2.2.2.1 ?_)
        refine Cl.mono H (fun r M11 h => ?_)
        obtain ⟨rfl, H⟩ := h
        obtain ⟨O, H⟩ := H
        refine And.intro O.1 ?_
        refine Or.inl ⟨_, O.2.1, ?_⟩
        refine And.intro (Nat.le_of_ble_eq_true rfl) ?_
        refine And.intro (Nat.le_of_ble_eq_true rfl) (And.intro O.2.2.1.1 ?_)
        refine Cl.mono H (fun r M12 h => ?_)
        obtain ⟨v13, rfl, H⟩ := h
        obtain ⟨O, H⟩ := H
        refine And.intro (fun c => ?_) (fun c => ?_)
        · replace H := H.1 c
          refine And.intro (fun c => ?_) (fun c => ?_)
          · replace H := H.1 c
            exact At.keep [0, 1, 2] H
          · replace H := H.2 c
            exact At.keep [0, 1, 2] H
        · replace H := H.2 c
          exact ⟨rfl, H⟩
    · replace H := H.2 c
      refine And.intro (Nat.le_of_ble_eq_true rfl) ?_
      refine And.intro (Nat.le_of_ble_eq_true rfl) (And.intro O.1 ?_)
      refine Cl.mono H (fun r M14 h => ?_)
      obtain ⟨rfl, H⟩ := h
      obtain ⟨O, H⟩ := H
      refine And.intro O.1 ?_
      refine Or.inl ⟨_, O.2.2.2.1, ?_⟩
      refine And.intro (fun c => ?_) (fun c => ?_)
      · replace H := H.1 c
        refine And.intro (Nat.le_of_ble_eq_true rfl) ?_
        refine And.intro (Nat.le_of_ble_eq_true rfl) (And.intro O.2.2.2.2.1 ?_)
        refine Cl.mono H (fun r M15 h => ?_)
        obtain ⟨rfl, H⟩ := h
        obtain ⟨O, H⟩ := H
        refine And.intro O.1 ?_
        refine Or.inl ⟨_, O.2.1, ?_⟩
        refine And.intro (Nat.le_of_ble_eq_true rfl) ?_
        refine And.intro (Nat.le_of_ble_eq_true rfl) (And.intro O.2.2.1.1 ?_)
        refine Cl.mono H (fun r M16 h => ?_)
        obtain ⟨v17, rfl, H⟩ := h
        obtain ⟨O, H⟩ := H
        exact H
      · replace H := H.2 c
        refine And.intro (Nat.le_of_ble_eq_true rfl) ?_
        refine And.intro (Nat.le_of_ble_eq_true rfl) (And.intro O.2.2.2.2.1 ?_)
        refine Cl.mono H (fun r M18 h => ?_)
        obtain ⟨rfl, H⟩ := h
        obtain ⟨O, H⟩ := H
        refine And.intro O.1 ?_
        refine Or.inl ⟨_, O.2.1, ?_⟩
        refine And.intro (Nat.le_of_ble_eq_true rfl) ?_
        refine And.intro (Nat.le_of_ble_eq_true rfl) (And.intro O.2.2.1.1 ?_)
        refine Cl.mono H (fun r M19 h => ?_)
        obtain ⟨v20, rfl, H⟩ := h
        obtain ⟨O, H⟩ := H
        exact H

theorem c_X3_readValue {G : GT} {d : Nat} {M : Mem} {o t l : Nat} (O : LrAt M o t l)  {Q : Mem → Prop} (H : CI G d 96 [.ref t] M (fun v2 M1 => LrAt M1 o t l ∧ ((v2 ≤ (5 : Int32) → (v2 ≤ 0 → CI G d 95 [.ref t, .ref (gk G 2)] M1 (fun v4 M3 => LrAt M3 o t l ∧ ((¬ v4 = (-1 : Int32) → CV G d 22 [.ref l, .int ((100000 : Int32) + v4)] M3 (fun M5 => LrAt M5 o t l ∧ (CV G d 38 [.ref o, .int (vi M t 2)] M5 (fun M6 => LrAt M6 o t l ∧ (Q M6))))) ∧ (v4 = (-1 : Int32) → CV G d 91 [.ref t, .int (vi M t 2), .int (0 : Int32)] M3 (fun M7 => LrAt M7 o t l ∧ (Q M7)))))) ∧ (¬ v2 ≤ 0 → CI G d 97 [.ref t, .int v2] M1 (fun v9 M8 => LrAt M8 o t l ∧ (CV G d 22 [.ref l, .int v9] M8 (fun M10 => LrAt M10 o t l ∧ (CV G d 93 [.ref t, .int v2] M10 (fun M11 => LrAt M11 o t l ∧ (CV G d 38 [.ref o, .int (vi M t 2)] M11 (fun M12 => LrAt M12 o t l ∧ (Q M12)))))))))) ∧ (¬ v2 ≤ (5 : Int32) → CV G d 91 [.ref t, .int (vi M t 2), .int (1 : Int32)] M1 (fun M13 => LrAt M13 o t l ∧ (Q M13)))))) : CV G (d + 1) 37 [.ref o] M Q := by
  refine Cl.ofM (Nat.le_of_ble_eq_true rfl) rfl ?_
  refine vcc ok37 0 [] ?_
  refine And.intro O.1 ?_
  refine Or.inl ⟨_, O.2.1, ?_⟩
  refine And.intro O.2.2.1.1 ?_
  refine And.intro O.1 ?_
  refine Or.inl ⟨_, O.2.1, ?_⟩
  refine And.intro (Nat.le_of_ble_eq_true rfl) ?_
  refine And.intro (Nat.le_of_ble_eq_true rfl) (And.intro O.2.2.1.1 ?_)
  refine Cl.mono H (fun r M1 h => ?_)
  obtain ⟨v2, rfl, H⟩ := h
  obtain ⟨O, H⟩ := H
  refine And.intro (fun c => ?_) (fun c => ?_)
  · replace H := H.1 c
    refine And.intro (fun c => ?_) (fun c => ?_)
    · replace H := H.1 c
      refine And.intro O.1 ?_
      refine Or.inl ⟨_, O.2.1, ?_⟩
      refine And.intro (Nat.le_of_ble_eq_true rfl) ?_
      refine And.intro (Nat.le_of_ble_eq_true rfl) (And.intro O.2.2.1.1 ?_)
      refine Cl.mono H (fun r M3 h => ?_)
      obtain ⟨v4, rfl, H⟩ := h
      obtain ⟨O, H⟩ := H
      refine And.intro (fun c => ?_) (fun c => ?_)
      · replace H := H.1 c
        refine And.intro O.1 ?_
        refine Or.inl ⟨_, O.2.2.2.1, ?_⟩
        refine And.intro (Nat.le_of_ble_eq_true rfl) ?_
        refine And.intro (Nat.le_of_ble_eq_true rfl) (And.intro O.2.2.2.2.1 ?_)
        refine Cl.mono H (fun r M5 h => ?_)
        obtain ⟨rfl, H⟩ := h
        obtain ⟨O, H⟩ := H
        refine And.intro (Nat.le_of_ble_eq_true rfl) ?_
        refine And.intro (Nat.le_of_ble_eq_true rfl) (And.intro O.1 ?_)
        refine Cl.mono H (fun r M6 h => ?_)
        obtain ⟨rfl, H⟩ := h
        obtain ⟨O, H⟩ := H
        exact ⟨rfl, H⟩
      · replace H := H.2 c
        refine And.intro O.1 ?_
        refine Or.inl ⟨_, O.2.1, ?_⟩
        refine And.intro (Nat.le_of_ble_eq_true rfl) ?_
        refine And.intro (Nat.le_of_ble_eq_true rfl) (And.intro O.2.2.1.1 ?_)
        refine Cl.mono H (fun r M7 h => ?_)
        obtain ⟨rfl, H⟩ := h
        obtain ⟨O, H⟩ := H
        exact ⟨rfl, H⟩
    · replace H := H.2 c
      refine And.intro O.1 ?_
      refine Or.inl ⟨_, O.2.2.2.1, ?_⟩
      refine And.intro O.1 ?_
      refine Or.inl ⟨_, O.2.1, ?_⟩
      refine And.intro (Nat.le_of_ble_eq_true rfl) ?_
      refine And.intro (Nat.le_of_ble_eq_true rfl) (And.intro O.2.2.1.1 ?_)
      refine Cl.mono H (fun r M8 h => ?_)
      obtain ⟨v9, rfl, H⟩ := h
      obtain ⟨O, H⟩ := H
      refine And.intro (Nat.le_of_ble_eq_true rfl) ?_
      refine And.intro (Nat.le_of_ble_eq_true rfl) (And.intro O.2.2.2.2.1 ?_)
      refine Cl.mono H (fun r M10 h => ?_)
      obtain ⟨rfl, H⟩ := h
      obtain ⟨O, H⟩ := H
      refine And.intro O.1 ?_
      refine Or.inl ⟨_, O.2.1, ?_⟩
      refine And.intro (Nat.le_of_ble_eq_true rfl) ?_
      refine And.intro (Nat.le_of_ble_eq_true rfl) (And.intro O.2.2.1.1 ?_)
      refine Cl.mono H (fun r M11 h => ?_)
      obtain ⟨rfl, H⟩ := h
      obtain ⟨O, H⟩ := H
      refine And.intro (Nat.le_of_ble_eq_true rfl) ?_
      refine And.intro (Nat.le_of_ble_eq_true rfl) (And.intro O.1 ?_)
      refine Cl.mono H (fun r M12 h => ?_)
      obtain ⟨rfl, H⟩ := h
      obtain ⟨O, H⟩ := H
      exact ⟨rfl, H⟩
  · replace H := H.2 c
    refine And.intro O.1 ?_
    refine Or.inl ⟨_, O.2.1, ?_⟩
    refine And.intro (Nat.le_of_ble_eq_true rfl) ?_
    refine And.intro (Nat.le_of_ble_eq_true rfl) (And.intro O.2.2.1.1 ?_)
    refine Cl.mono H (fun r M13 h => ?_)
    obtain ⟨rfl, H⟩ := h
    obtain ⟨O, H⟩ := H
    exact ⟨rfl, H⟩

theorem c_X3_countAt {G : GT} {d : Nat} {M : Mem} {o t l : Nat} (O : LrAt M o t l) {a1 : Int32} {Q : Mem → Prop} (H : ∀ M1, M1 = seti M o 2 ((vi M o 2) + (1 : Int32)) → ((vi M1 o 2) ≤ (60 : Int32) → Q M1) ∧ (¬ (vi M1 o 2) ≤ (60 : Int32) → CV G d 91 [.ref t, .int a1, .int (3 : Int32)] M1 (fun M2 => LrAt M2 o t l ∧ (Q M2)))) : CV G (d + 1) 38 [.ref o, .int a1] M Q := by
  refine Cl.ofM (Nat.le_of_ble_eq_true rfl) rfl ?_
  refine vcc ok38 0 [] ?_
  refine And.intro O.1 ?_
  refine And.intro O.1 ?_
  refine And.intro (Or.inl rfl) (And.intro (fun h => absurd h (by decide)) ?_)
  replace H := H _ rfl
  refine And.intro O.1 ?_
  refine And.intro (fun c => ?_) (fun c => ?_)
  · replace H := H.1 c
    exact ⟨rfl, H⟩
  · replace H := H.2 c
    refine And.intro O.1 ?_
    refine Or.inl ⟨_, O.2.1, ?_⟩
    refine And.intro (Nat.le_of_ble_eq_true rfl) ?_
    refine And.intro (Nat.le_of_ble_eq_true rfl) (And.intro O.2.2.1.1 ?_)
    refine Cl.mono H (fun r M2 h => ?_)
    obtain ⟨rfl, H⟩ := h
    obtain ⟨O, H⟩ := H
    exact ⟨rfl, H⟩

theorem c_X4_layOut {G : GT} {d : Nat} {M : Mem} {o : Nat} (O : ObAt 4 M o) {a1 : Nat} {a2 : Int32} {a3 : Int32} {Q : Mem → Prop} (H : ∀ M1, M1 = seti M o 0 (0 : Int32) → ∀ M2, M2 = seti M1 o 4 (0 : Int32) → (14 ≤ mK M2 a1 ∧ mK M2 a1 ≤ 21) ∧ (At G (d + 1) 40 30 [(0, .ref o), (1, .ref a1), (3, .int a3), (4, .int (if (if (400 : Int32) < (nI (mA M2 a1)) then (400 : Int32) else (nI (mA M2 a1))) < a2 then (if (400 : Int32) < (nI (mA M2 a1)) then (400 : Int32) else (nI (mA M2 a1))) else a2)), (5, .int (-1 : Int32)), (6, .int (0 : Int32))] [] M2 (qV Q))) : CV G (d + 1) 40 [.ref o, .ref a1, .int a2, .int a3] M Q := by
  refine Cl.ofM (Nat.le_of_ble_eq_true rfl) rfl ?_
  refine vcc ok40 0 [30, 57, 58, 75, 99] ?_
  refine And.intro O.1 ?_
  refine And.intro (Or.inl rfl) (And.intro (fun h => absurd h (by decide)) ?_)
  replace H := H _ rfl
  refine And.intro O.1 ?_
  refine And.intro (Or.inl rfl) (And.intro (fun h => absurd h (by decide)) ?_)
  replace H := H _ rfl
  refine Or.inl ⟨H.1, ?_⟩
  replace H := H.2
  refine And.intro (Nat.le_of_ble_eq_true rfl) ?_
  refine And.intro (Nat.le_of_ble_eq_true rfl) ?_
  exact At.keep [0, 1, 3, 4, 5, 6] H

theorem c_X4_layOut_30 {G : GT} {d : Nat} {M : Mem} {o : Nat} (O : ObAt 4 M o) {a1 : Nat} {l3 : Int32} {l4 : Int32} {l5 : Int32} {l6 : Int32} {Q : Mem → Prop} (H : (l4 < l6 → Q M) ∧ (¬ l4 < l6 → (l4 ≤ l6 → At G (d + 1) 40 57 [(0, .ref o), (1, .ref a1), (3, .int l3), (4, .int l4), (5, .int l5), (6, .int l6)] [] M (qV Q)) ∧ (¬ l4 ≤ l6 → mK M a1 = 15 ∧ vp_in l6 (mA M a1) ∧ (((vi M a1 (l6).toNatClampNeg) = (32 : Int32) → At G (d + 1) 40 57 [(0, .ref o), (1, .ref a1), (3, .int l3), (4, .int l4), (5, .int l5), (6, .int l6)] [] M (qV Q)) ∧ (¬ (vi M a1 (l6).toNatClampNeg) = (32 : Int32) → At G (d + 1) 40 58 [(0, .ref o), (1, .ref a1), (3, .int l3), (4, .int l4), (5, .int l5), (6, .int l6)] [.int (1 : Int32)] M (qV Q)))))) : At G (d + 1) 40 30 [(0, .ref o), (1, .ref a1), (3, .int l3), (4, .int l4), (5, .int l5), (6, .int l6)] [] M (qV Q) := by
  refine vcc ok40 17 [57, 58, 75, 99] ?_
  refine And.intro (fun c => ?_) (fun c => ?_)
  · replace H := H.1 c
    exact ⟨rfl, H⟩
  · replace H := H.2 c
    refine And.intro (fun c => ?_) (fun c => ?_)
    · replace H := H.1 c
      exact H
    · replace H := H.2 c
      refine Or.inl ⟨H.1, H.2.1, ?_⟩
      replace H := H.2.2
      refine And.intro (fun c => ?_) (fun c => ?_)
      · replace H := H.1 c
        exact H
      · replace H := H.2 c
        exact H

theorem c_X4_layOut_57 {G : GT} {d : Nat} {M : Mem} {o : Nat} (O : ObAt 4 M o) {a1 : Nat} {l3 : Int32} {l4 : Int32} {l5 : Int32} {l6 : Int32} {Q : Mem → Prop} (H : At G (d + 1) 40 58 [(0, .ref o), (1, .ref a1), (3, .int l3), (4, .int l4), (5, .int l5), (6, .int l6)] [.int (0 : Int32)] M (qV Q)) : At G (d + 1) 40 57 [(0, .ref o), (1, .ref a1), (3, .int l3), (4, .int l4), (5, .int l5), (6, .int l6)] [] M (qV Q) := by
  refine vcc ok40 30 [30, 58, 75, 99] ?_
  exact H

theorem c_X4_layOut_58 {G : GT} {d : Nat} {M : Mem} {o : Nat} (O : ObAt 4 M o) {a1 : Nat} {l3 : Int32} {l4 : Int32} {l5 : Int32} {l6 : Int32} {t0 : Int32} {Q : Mem → Prop} (H : (t0 = 0 → At G (d + 1) 40 75 [(0, .ref o), (1, .ref a1), (3, .int l3), (4, .int l4), (5, .int l5), (6, .int l6), (7, .int t0)] [] M (qV Q)) ∧ (¬ t0 = 0 → (¬ l5 = (-1 : Int32) → At G (d + 1) 40 75 [(0, .ref o), (1, .ref a1), (3, .int l3), (4, .int l4), (5, .int l5), (6, .int l6), (7, .int t0)] [] M (qV Q)) ∧ (l5 = (-1 : Int32) → At G (d + 1) 40 75 [(0, .ref o), (1, .ref a1), (3, .int l3), (4, .int l4), (5, .int l6), (6, .int l6), (7, .int t0)] [] M (qV Q)))) : At G (d + 1) 40 58 [(0, .ref o), (1, .ref a1), (3, .int l3), (4, .int l4), (5, .int l5), (6, .int l6)] [.int t0] M (qV Q) := by
  refine vcc ok40 31 [30, 57, 75, 99] ?_
  refine And.intro (fun c => ?_) (fun c => ?_)
  · replace H := H.1 c
    exact H
  · replace H := H.2 c
    refine And.intro (fun c => ?_) (fun c => ?_)
    · replace H := H.1 c
      exact H
    · replace H := H.2 c
      exact H

theorem c_X4_layOut_75 {G : GT} {d : Nat} {M : Mem} {o : Nat} (O : ObAt 4 M o) {a1 : Nat} {l3 : Int32} {l4 : Int32} {l5 : Int32} {l6 : Int32} {l7 : Int32} {Q : Mem → Prop} (H : (¬ l7 = 0 → At G (d + 1) 40 99 [(0, .ref o), (1, .ref a1), (3, .int l3), (4, .int l4), (5, .int l5), (6, .int l6)] [] M (qV Q)) ∧ (l7 = 0 → (l5 = (-1 : Int32) → At G (d + 1) 40 99 [(0, .ref o), (1, .ref a1), (3, .int l3), (4, .int l4), (5, .int l5), (6, .int l6)] [] M (qV Q)) ∧ (¬ l5 = (-1 : Int32) → CV G d 41 [.ref o, .ref a1, .int l5, .int l6, .int l3] M (fun M3 => ObAt 4 M3 o ∧ (At G (d + 1) 40 99 [(0, .ref o), (1, .ref a1), (3, .int l3), (4, .int l4), (5, .int (-1 : Int32)), (6, .int l6)] [] M3 (qV Q)))))) : At G (d + 1) 40 75 [(0, .ref o), (1, .ref a1), (3, .int l3), (4, .int l4), (5, .int l5), (6, .int l6), (7, .int l7)] [] M (qV Q) := by
  refine vcc ok40 39 [30, 57, 58, 99] ?_
  refine And.intro (fun c => ?_) (fun c => ?_)
  · replace H := H.1 c
    exact At.keep [0, 1, 3, 4, 5, 6] H
  · replace H := H.2 c
    refine And.intro (fun c => ?_) (fun c => ?_)
    · replace H := H.1 c
      exact At.keep [0, 1, 3, 4, 5, 6] H
    · replace H := H.2 c
      refine And.intro (Nat.le_of_ble_eq_true rfl) ?_
      refine And.intro (Nat.le_of_ble_eq_true rfl) (And.intro O.1 ?_)
      refine Cl.mono H (fun r M3 h => ?_)
      obtain ⟨rfl, H⟩ := h
      obtain ⟨O, H⟩ := H
      exact At.keep [0, 1, 3, 4, 5, 6] H

theorem c_X4_layOut_99 {G : GT} {d : Nat} {M : Mem} {o : Nat} (O : ObAt 4 M o) {a1 : Nat} {l3 : Int32} {l4 : Int32} {l5 : Int32} {l6 : Int32} {Q : Mem → Prop} (H : At G (d + 1) 40 30 [(0, .ref o), (1, .ref a1), (3, .int l3), (4, .int l4), (5, .int l5), (6, .int (l6 + (1 : Int32)))] [] M (qV Q)) : At G (d + 1) 40 99 [(0, .ref o), (1, .ref a1), (3, .int l3), (4, .int l4), (5, .int l5), (6, .int l6)] [] M (qV Q) := by
  refine vcc ok40 52 [30, 57, 58, 75] ?_
  exact H

theorem c_X4_addWord {G : GT} {d : Nat} {M : Mem} {o : Nat} (O : ObAt 4 M o) {a1 : Nat} {a2 : Int32} {a3 : Int32} {a4 : Int32} {Q : Mem → Prop} (H : At G (d + 1) 41 6 [(0, .ref o), (1, .ref a1), (3, .int a3), (4, .int a4), (5, .int a2), (6, .int (0 : Int32))] [] M (qV Q)) : CV G (d + 1) 41 [.ref o, .ref a1, .int a2, .int a3, .int a4] M Q := by
  refine Cl.ofM (Nat.le_of_ble_eq_true rfl) rfl ?_
  refine vcc ok41 0 [6] ?_
  exact At.keep [0, 1, 3, 4, 5, 6] H

theorem c_X4_addWord_6 {G : GT} {d : Nat} {M : Mem} {o : Nat} (O : ObAt 4 M o) {a1 : Nat} {l3 : Int32} {l4 : Int32} {l5 : Int32} {l6 : Int32} {Q : Mem → Prop} (H : ((400 : Int32) ≤ l6 → (((vi M o 0) - (1 : Int32)) < 0 → CV G d 42 [.ref o, .int l5] M (fun M1 => ObAt 4 M1 o ∧ (CV G d 43 [.ref o, .ref a1, .int l5, .int l3] M1 (fun M2 => ObAt 4 M2 o ∧ (Q M2))))) ∧ (¬ ((vi M o 0) - (1 : Int32)) < 0 → ((400 : Int32) ≤ ((vi M o 0) - (1 : Int32)) → CV G d 42 [.ref o, .int l5] M (fun M3 => ObAt 4 M3 o ∧ (CV G d 43 [.ref o, .ref a1, .int l5, .int l3] M3 (fun M4 => ObAt 4 M4 o ∧ (Q M4))))) ∧ (¬ (400 : Int32) ≤ ((vi M o 0) - (1 : Int32)) → vp_in ((vi M o 0) - (1 : Int32)) 400 ∧ ((l4 < ((((vi M (o + 2) (((vi M o 0) - (1 : Int32))).toNatClampNeg) + (1 : Int32)) + l3) - l5) → CV G d 42 [.ref o, .int l5] M (fun M5 => ObAt 4 M5 o ∧ (CV G d 43 [.ref o, .ref a1, .int l5, .int l3] M5 (fun M6 => ObAt 4 M6 o ∧ (Q M6))))) ∧ (¬ l4 < ((((vi M (o + 2) (((vi M o 0) - (1 : Int32))).toNatClampNeg) + (1 : Int32)) + l3) - l5) → CV G d 44 [.ref o, .int (32 : Int32)] M (fun M7 => ObAt 4 M7 o ∧ (CV G d 43 [.ref o, .ref a1, .int l5, .int l3] M7 (fun M8 => ObAt 4 M8 o ∧ (Q M8))))))))) ∧ (¬ (400 : Int32) ≤ l6 → ((l3 - l5) ≤ l4 → (((vi M o 0) - (1 : Int32)) < 0 → CV G d 42 [.ref o, .int l5] M (fun M9 => ObAt 4 M9 o ∧ (CV G d 43 [.ref o, .ref a1, .int l5, .int l3] M9 (fun M10 => ObAt 4 M10 o ∧ (Q M10))))) ∧ (¬ ((vi M o 0) - (1 : Int32)) < 0 → ((400 : Int32) ≤ ((vi M o 0) - (1 : Int32)) → CV G d 42 [.ref o, .int l5] M (fun M11 => ObAt 4 M11 o ∧ (CV G d 43 [.ref o, .ref a1, .int l5, .int l3] M11 (fun M12 => ObAt 4 M12 o ∧ (Q M12))))) ∧ (¬ (400 : Int32) ≤ ((vi M o 0) - (1 : Int32)) → vp_in ((vi M o 0) - (1 : Int32)) 400 ∧ ((l4 < ((((vi M (o + 2) (((vi M o 0) - (1 : Int32))).toNatClampNeg) + (1 : Int32)) + l3) - l5) → CV G d 42 [.ref o, .int l5] M (fun M13 => ObAt 4 M13 o ∧ (CV G d 43 [.ref o, .ref a1, .int l5, .int l3] M13 (fun M14 => ObAt 4 M14 o ∧ (Q M14))))) ∧ (¬ l4 < ((((vi M (o + 2) (((vi M o 0) - (1 : Int32))).toNatClampNeg) + (1 : Int32)) + l3) - l5) → CV G d 44 [.ref o, .int (32 : Int32)] M (fun M15 => ObAt 4 M15 o ∧ (CV G d 43 [.ref o, .ref a1, .int l5, .int l3] M15 (fun M16 => ObAt 4 M16 o ∧ (Q M16))))))))) ∧ (¬ (l3 - l5) ≤ l4 → CV G d 42 [.ref o, .int l5] M (fun M17 => ObAt 4 M17 o ∧ (CV G d 43 [.ref o, .ref a1, .int l5, .int (l5 + l4)] M17 (fun M18 => ObAt 4 M18 o ∧ (At G (d + 1) 41 6 [(0, .ref o), (1, .ref a1), (3, .int l3), (4, .int l4), (5, .int (l5 + l4)), (6, .int (l6 + (1 : Int32)))] [] M18 (qV Q)))))))) : At G (d + 1) 41 6 [(0, .ref o), (1, .ref a1), (3, .int l3), (4, .int l4), (5, .int l5), (6, .int l6)] [] M (qV Q) := by
  refine vcc ok41 4 [] ?_
  refine And.intro (fun c => ?_) (fun c => ?_)
  · replace H := H.1 c
    refine And.intro O.1 ?_
    refine And.intro (fun c => ?_) (fun c => ?_)
    · replace H := H.1 c
      refine And.intro (Nat.le_of_ble_eq_true rfl) ?_
      refine And.intro (Nat.le_of_ble_eq_true rfl) (And.intro O.1 ?_)
      refine Cl.mono H (fun r M1 h => ?_)
      obtain ⟨rfl, H⟩ := h
      obtain ⟨O, H⟩ := H
      refine And.intro (Nat.le_of_ble_eq_true rfl) ?_
      refine And.intro (Nat.le_of_ble_eq_true rfl) (And.intro O.1 ?_)
      refine Cl.mono H (fun r M2 h => ?_)
      obtain ⟨rfl, H⟩ := h
      obtain ⟨O, H⟩ := H
      exact ⟨rfl, H⟩
    · replace H := H.2 c
      refine And.intro (fun c => ?_) (fun c => ?_)
      · replace H := H.1 c
        refine And.intro (Nat.le_of_ble_eq_true rfl) ?_
        refine And.intro (Nat.le_of_ble_eq_true rfl) (And.intro O.1 ?_)
        refine Cl.mono H (fun r M3 h => ?_)
        obtain ⟨rfl, H⟩ := h
        obtain ⟨O, H⟩ := H
        refine And.intro (Nat.le_of_ble_eq_true rfl) ?_
        refine And.intro (Nat.le_of_ble_eq_true rfl) (And.intro O.1 ?_)
        refine Cl.mono H (fun r M4 h => ?_)
        obtain ⟨rfl, H⟩ := h
        obtain ⟨O, H⟩ := H
        exact ⟨rfl, H⟩
      · replace H := H.2 c
        refine And.intro O.1 ?_
        refine Or.inl ⟨_, (ob4_r2 O), ?_⟩
        refine Or.inl ⟨(ob4_k2 O), vp_cst (ob4_l2 O) H.1, ?_⟩
        replace H := H.2
        refine And.intro (fun c => ?_) (fun c => ?_)
        · replace H := H.1 c
          refine And.intro (Nat.le_of_ble_eq_true rfl) ?_
          refine And.intro (Nat.le_of_ble_eq_true rfl) (And.intro O.1 ?_)
          refine Cl.mono H (fun r M5 h => ?_)
          obtain ⟨rfl, H⟩ := h
          obtain ⟨O, H⟩ := H
          refine And.intro (Nat.le_of_ble_eq_true rfl) ?_
          refine And.intro (Nat.le_of_ble_eq_true rfl) (And.intro O.1 ?_)
          refine Cl.mono H (fun r M6 h => ?_)
          obtain ⟨rfl, H⟩ := h
          obtain ⟨O, H⟩ := H
          exact ⟨rfl, H⟩
        · replace H := H.2 c
          refine And.intro (Nat.le_of_ble_eq_true rfl) ?_
          refine And.intro (Nat.le_of_ble_eq_true rfl) (And.intro O.1 ?_)
          refine Cl.mono H (fun r M7 h => ?_)
          obtain ⟨rfl, H⟩ := h
          obtain ⟨O, H⟩ := H
          refine And.intro (Nat.le_of_ble_eq_true rfl) ?_
          refine And.intro (Nat.le_of_ble_eq_true rfl) (And.intro O.1 ?_)
          refine Cl.mono H (fun r M8 h => ?_)
          obtain ⟨rfl, H⟩ := h
          obtain ⟨O, H⟩ := H
          exact ⟨rfl, H⟩
  · replace H := H.2 c
    refine And.intro (fun c => ?_) (fun c => ?_)
    · replace H := H.1 c
      refine And.intro O.1 ?_
      refine And.intro (fun c => ?_) (fun c => ?_)
      · replace H := H.1 c
        refine And.intro (Nat.le_of_ble_eq_true rfl) ?_
        refine And.intro (Nat.le_of_ble_eq_true rfl) (And.intro O.1 ?_)
        refine Cl.mono H (fun r M9 h => ?_)
        obtain ⟨rfl, H⟩ := h
        obtain ⟨O, H⟩ := H
        refine And.intro (Nat.le_of_ble_eq_true rfl) ?_
        refine And.intro (Nat.le_of_ble_eq_true rfl) (And.intro O.1 ?_)
        refine Cl.mono H (fun r M10 h => ?_)
        obtain ⟨rfl, H⟩ := h
        obtain ⟨O, H⟩ := H
        exact ⟨rfl, H⟩
      · replace H := H.2 c
        refine And.intro (fun c => ?_) (fun c => ?_)
        · replace H := H.1 c
          refine And.intro (Nat.le_of_ble_eq_true rfl) ?_
          refine And.intro (Nat.le_of_ble_eq_true rfl) (And.intro O.1 ?_)
          refine Cl.mono H (fun r M11 h => ?_)
          obtain ⟨rfl, H⟩ := h
          obtain ⟨O, H⟩ := H
          refine And.intro (Nat.le_of_ble_eq_true rfl) ?_
          refine And.intro (Nat.le_of_ble_eq_true rfl) (And.intro O.1 ?_)
          refine Cl.mono H (fun r M12 h => ?_)
          obtain ⟨rfl, H⟩ := h
          obtain ⟨O, H⟩ := H
          exact ⟨rfl, H⟩
        · replace H := H.2 c
          refine And.intro O.1 ?_
          refine Or.inl ⟨_, (ob4_r2 O), ?_⟩
          refine Or.inl ⟨(ob4_k2 O), vp_cst (ob4_l2 O) H.1, ?_⟩
          replace H := H.2
          refine And.intro (fun c => ?_) (fun c => ?_)
          · replace H := H.1 c
            refine And.intro (Nat.le_of_ble_eq_true rfl) ?_
            refine And.intro (Nat.le_of_ble_eq_true rfl) (And.intro O.1 ?_)
            refine Cl.mono H (fun r M13 h => ?_)
            obtain ⟨rfl, H⟩ := h
            obtain ⟨O, H⟩ := H
            refine And.intro (Nat.le_of_ble_eq_true rfl) ?_
            refine And.intro (Nat.le_of_ble_eq_true rfl) (And.intro O.1 ?_)
            refine Cl.mono H (fun r M14 h => ?_)
            obtain ⟨rfl, H⟩ := h
            obtain ⟨O, H⟩ := H
            exact ⟨rfl, H⟩
          · replace H := H.2 c
            refine And.intro (Nat.le_of_ble_eq_true rfl) ?_
            refine And.intro (Nat.le_of_ble_eq_true rfl) (And.intro O.1 ?_)
            refine Cl.mono H (fun r M15 h => ?_)
            obtain ⟨rfl, H⟩ := h
            obtain ⟨O, H⟩ := H
            refine And.intro (Nat.le_of_ble_eq_true rfl) ?_
            refine And.intro (Nat.le_of_ble_eq_true rfl) (And.intro O.1 ?_)
            refine Cl.mono H (fun r M16 h => ?_)
            obtain ⟨rfl, H⟩ := h
            obtain ⟨O, H⟩ := H
            exact ⟨rfl, H⟩
    · replace H := H.2 c
      refine And.intro (Nat.le_of_ble_eq_true rfl) ?_
      refine And.intro (Nat.le_of_ble_eq_true rfl) (And.intro O.1 ?_)
      refine Cl.mono H (fun r M17 h => ?_)
      obtain ⟨rfl, H⟩ := h
      obtain ⟨O, H⟩ := H
      refine And.intro (Nat.le_of_ble_eq_true rfl) ?_
      refine And.intro (Nat.le_of_ble_eq_true rfl) (And.intro O.1 ?_)
      refine Cl.mono H (fun r M18 h => ?_)
      obtain ⟨rfl, H⟩ := h
      obtain ⟨O, H⟩ := H
      exact H

theorem c_X4_beginLine {G : GT} {d : Nat} {M : Mem} {o : Nat} (O : ObAt 4 M o) {a1 : Int32} {Q : Mem → Prop} (H : ((vi M o 0) < 0 → Q M) ∧ (¬ (vi M o 0) < 0 → ((400 : Int32) ≤ (vi M o 0) → Q M) ∧ (¬ (400 : Int32) ≤ (vi M o 0) → vp_in (vi M o 0) 400 ∧ (∀ M1, M1 = seti M (o + 1) ((vi M o 0)).toNatClampNeg a1 → vp_in (vi M1 o 0) 400 ∧ (∀ M2, M2 = seti M1 (o + 2) ((vi M1 o 0)).toNatClampNeg (0 : Int32) → vp_in (vi M2 o 0) 400 ∧ (∀ M3, M3 = seti M2 (o + 4) ((vi M2 o 0)).toNatClampNeg (vi M2 o 4) → ∀ M4, M4 = seti M3 o 0 ((vi M3 o 0) + (1 : Int32)) → Q M4)))))) : CV G (d + 1) 42 [.ref o, .int a1] M Q := by
  refine Cl.ofM (Nat.le_of_ble_eq_true rfl) rfl ?_
  refine vcc ok42 0 [] ?_
  refine And.intro O.1 ?_
  refine And.intro (fun c => ?_) (fun c => ?_)
  · replace H := H.1 c
    exact ⟨rfl, H⟩
  · replace H := H.2 c
    refine And.intro O.1 ?_
    refine And.intro (fun c => ?_) (fun c => ?_)
    · replace H := H.1 c
      exact ⟨rfl, H⟩
    · replace H := H.2 c
      refine And.intro O.1 ?_
      refine Or.inl ⟨_, (ob4_r1 O), ?_⟩
      refine And.intro O.1 ?_
      refine ⟨(ob4_k1 O), vp_cst (ob4_l1 O) H.1, ?_⟩
      replace H := H.2
      replace H := H _ rfl
      refine And.intro O.1 ?_
      refine Or.inl ⟨_, (ob4_r2 O), ?_⟩
      refine And.intro O.1 ?_
      refine ⟨(ob4_k2 O), vp_cst (ob4_l2 O) H.1, ?_⟩
      replace H := H.2
      replace H := H _ rfl
      refine And.intro O.1 ?_
      refine Or.inl ⟨_, (ob4_r5 O), ?_⟩
      refine And.intro O.1 ?_
      refine And.intro O.1 ?_
      refine ⟨(ob4_k5 O), vp_cst (ob4_l5 O) H.1, ?_⟩
      replace H := H.2
      replace H := H _ rfl
      refine And.intro O.1 ?_
      refine And.intro O.1 ?_
      refine And.intro (Or.inl rfl) (And.intro (fun h => absurd h (by decide)) ?_)
      replace H := H _ rfl
      exact ⟨rfl, H⟩

theorem c_X4_addBytes {G : GT} {d : Nat} {M : Mem} {o : Nat} (O : ObAt 4 M o) {a1 : Nat} {a2 : Int32} {a3 : Int32} {Q : Mem → Prop} (H : At G (d + 1) 43 3 [(0, .ref o), (1, .ref a1), (3, .int a3), (4, .int a2)] [] M (qV Q)) : CV G (d + 1) 43 [.ref o, .ref a1, .int a2, .int a3] M Q := by
  refine Cl.ofM (Nat.le_of_ble_eq_true rfl) rfl ?_
  refine vcc ok43 0 [3] ?_
  exact At.keep [0, 1, 3, 4] H

theorem c_X4_addBytes_3 {G : GT} {d : Nat} {M : Mem} {o : Nat} (O : ObAt 4 M o) {a1 : Nat} {l3 : Int32} {l4 : Int32} {Q : Mem → Prop} (H : (l4 < 0 → Q M) ∧ (¬ l4 < 0 → (l3 ≤ l4 → Q M) ∧ (¬ l3 ≤ l4 → (14 ≤ mK M a1 ∧ mK M a1 ≤ 21) ∧ (((nI (mA M a1)) ≤ l4 → Q M) ∧ (¬ (nI (mA M a1)) ≤ l4 → mK M a1 = 15 ∧ vp_in l4 (mA M a1) ∧ (CV G d 44 [.ref o, .int (vi M a1 (l4).toNatClampNeg)] M (fun M1 => ObAt 4 M1 o ∧ (At G (d + 1) 43 3 [(0, .ref o), (1, .ref a1), (3, .int l3), (4, .int (l4 + (1 : Int32)))] [] M1 (qV Q))))))))) : At G (d + 1) 43 3 [(0, .ref o), (1, .ref a1), (3, .int l3), (4, .int l4)] [] M (qV Q) := by
  refine vcc ok43 2 [] ?_
  refine And.intro (fun c => ?_) (fun c => ?_)
  · replace H := H.1 c
    exact ⟨rfl, H⟩
  · replace H := H.2 c
    refine And.intro (fun c => ?_) (fun c => ?_)
    · replace H := H.1 c
      exact ⟨rfl, H⟩
    · replace H := H.2 c
      refine Or.inl ⟨H.1, ?_⟩
      replace H := H.2
      refine And.intro (fun c => ?_) (fun c => ?_)
      · replace H := H.1 c
        exact ⟨rfl, H⟩
      · replace H := H.2 c
        refine Or.inl ⟨H.1, H.2.1, ?_⟩
        replace H := H.2.2
        refine And.intro (Nat.le_of_ble_eq_true rfl) ?_
        refine And.intro (Nat.le_of_ble_eq_true rfl) (And.intro O.1 ?_)
        refine Cl.mono H (fun r M1 h => ?_)
        obtain ⟨rfl, H⟩ := h
        obtain ⟨O, H⟩ := H
        exact H

theorem c_X4_addByte {G : GT} {d : Nat} {M : Mem} {o : Nat} (O : ObAt 4 M o) {a1 : Int32} {Q : Mem → Prop} (H : (((vi M o 0) - (1 : Int32)) < 0 → Q M) ∧ (¬ ((vi M o 0) - (1 : Int32)) < 0 → ((400 : Int32) ≤ ((vi M o 0) - (1 : Int32)) → Q M) ∧ (¬ (400 : Int32) ≤ ((vi M o 0) - (1 : Int32)) → ((vi M o 4) < 0 → Q M) ∧ (¬ (vi M o 4) < 0 → ((400 : Int32) ≤ (vi M o 4) → Q M) ∧ (¬ (400 : Int32) ≤ (vi M o 4) → vp_in (vi M o 4) 400 ∧ (∀ M1, M1 = seti M (o + 3) ((vi M o 4)).toNatClampNeg a1 → ∀ M2, M2 = seti M1 o 4 ((vi M1 o 4) + (1 : Int32)) → vp_in ((vi M o 0) - (1 : Int32)) 400 ∧ (vp_in ((vi M o 0) - (1 : Int32)) 400 ∧ (∀ M3, M3 = seti M2 (o + 2) (((vi M o 0) - (1 : Int32))).toNatClampNeg ((vi M2 (o + 2) (((vi M o 0) - (1 : Int32))).toNatClampNeg) + (1 : Int32)) → Q M3)))))))) : CV G (d + 1) 44 [.ref o, .int a1] M Q := by
  refine Cl.ofM (Nat.le_of_ble_eq_true rfl) rfl ?_
  refine vcc ok44 0 [] ?_
  refine And.intro O.1 ?_
  refine And.intro (fun c => ?_) (fun c => ?_)
  · replace H := H.1 c
    exact ⟨rfl, H⟩
  · replace H := H.2 c
    refine And.intro (fun c => ?_) (fun c => ?_)
    · replace H := H.1 c
      exact ⟨rfl, H⟩
    · replace H := H.2 c
      refine And.intro O.1 ?_
      refine And.intro (fun c => ?_) (fun c => ?_)
      · replace H := H.1 c
        exact ⟨rfl, H⟩
      · replace H := H.2 c
        refine And.intro O.1 ?_
        refine And.intro (fun c => ?_) (fun c => ?_)
        · replace H := H.1 c
          exact ⟨rfl, H⟩
        · replace H := H.2 c
          refine And.intro O.1 ?_
          refine Or.inl ⟨_, (ob4_r3 O), ?_⟩
          refine And.intro O.1 ?_
          refine ⟨(ob4_k3 O), vp_cst (ob4_l3 O) H.1, ?_⟩
          replace H := H.2
          replace H := H _ rfl
          refine And.intro O.1 ?_
          refine And.intro O.1 ?_
          refine And.intro (Or.inl rfl) (And.intro (fun h => absurd h (by decide)) ?_)
          replace H := H _ rfl
          refine And.intro O.1 ?_
          refine Or.inl ⟨_, (ob4_r2 O), ?_⟩
          refine Or.inl ⟨(ob4_k2 O), vp_cst (ob4_l2 O) H.1, ?_⟩
          replace H := H.2
          refine ⟨(ob4_k2 O), vp_cst (ob4_l2 O) H.1, ?_⟩
          replace H := H.2
          replace H := H _ rfl
          exact ⟨rfl, H⟩

theorem c_X4_pagesUnlike {G : GT} {d : Nat} {M : Mem} {o : Nat} (O : ObAt 4 M o) {a1 : Nat} (Pa1 : ObAt 4 M a1) {a2 : Int32} {Q : Int32 → Mem → Prop} (H : ((1 : Int32) ≤ a2 → At G (d + 1) 45 28 [(0, .ref o), (1, .ref a1), (2, .int a2), (3, .int (0 : Int32)), (4, .int (-1 : Int32)), (5, .int (if (vi M o 0) < (vi M a1 0) then (vi M a1 0) else (vi M o 0))), (6, .int (0 : Int32))] [] M (qI Q)) ∧ (¬ (1 : Int32) ≤ a2 → Q (0 : Int32) M)) : CI G (d + 1) 45 [.ref o, .ref a1, .int a2] M Q := by
  refine Cl.ofM (Nat.le_of_ble_eq_true rfl) rfl ?_
  refine vcc ok45 0 [28] ?_
  refine And.intro (fun c => ?_) (fun c => ?_)
  · replace H := H.1 c
    refine And.intro O.1 ?_
    refine And.intro Pa1.1 ?_
    refine And.intro (Nat.le_of_ble_eq_true rfl) ?_
    exact H
  · replace H := H.2 c
    exact ⟨fun h => absurd h (by decide), _, rfl, H⟩

theorem c_X4_pagesUnlike_28 {G : GT} {d : Nat} {M : Mem} {o : Nat} (O : ObAt 4 M o) {a1 : Nat} (Pa1 : ObAt 4 M a1) {l2 : Int32} {l3 : Int32} {l4 : Int32} {l5 : Int32} {l6 : Int32} {Q : Int32 → Mem → Prop} (H : (l5 ≤ l6 → Q l3 M) ∧ (¬ l5 ≤ l6 → ¬ l2 = 0 ∧ (((l6 / l2) = l4 → At G (d + 1) 45 28 [(0, .ref o), (1, .ref a1), (2, .int l2), (3, .int l3), (4, .int l4), (5, .int l5), (6, .int (l6 + (1 : Int32)))] [] M (qI Q)) ∧ (¬ (l6 / l2) = l4 → CI G d 46 [.ref o, .ref a1, .int l6] M (fun v2 M1 => (ObAt 4 M1 o ∧ ObAt 4 M1 a1) ∧ ((¬ v2 = 0 → At G (d + 1) 45 28 [(0, .ref o), (1, .ref a1), (2, .int l2), (3, .int l3), (4, .int l4), (5, .int l5), (6, .int (l6 + (1 : Int32)))] [] M1 (qI Q)) ∧ (v2 = 0 → ¬ l2 = 0 ∧ (At G (d + 1) 45 28 [(0, .ref o), (1, .ref a1), (2, .int l2), (3, .int (l3 + (1 : Int32))), (4, .int (l6 / l2)), (5, .int l5), (6, .int (l6 + (1 : Int32)))] [] M1 (qI Q))))))))) : At G (d + 1) 45 28 [(0, .ref o), (1, .ref a1), (2, .int l2), (3, .int l3), (4, .int l4), (5, .int l5), (6, .int l6)] [] M (qI Q) := by
  refine vcc ok45 17 [] ?_
  refine And.intro (fun c => ?_) (fun c => ?_)
  · replace H := H.1 c
    exact ⟨fun h => absurd h (by decide), _, rfl, H⟩
  · replace H := H.2 c
    refine And.intro H.1 ?_
    replace H := H.2
    refine And.intro (fun c => ?_) (fun c => ?_)
    · replace H := H.1 c
      exact H
    · replace H := H.2 c
      refine And.intro (Nat.le_of_ble_eq_true rfl) ?_
      refine And.intro (Nat.le_of_ble_eq_true rfl) (And.intro O.1 ?_)
      refine Cl.mono H (fun r M1 h => ?_)
      obtain ⟨v2, rfl, H⟩ := h
      obtain ⟨⟨O, Pa1⟩, H⟩ := H
      refine And.intro (fun c => ?_) (fun c => ?_)
      · replace H := H.1 c
        exact H
      · replace H := H.2 c
        refine And.intro H.1 ?_
        replace H := H.2
        exact H

theorem c_X4_sameLine {G : GT} {d : Nat} {M : Mem} {o : Nat} (O : ObAt 4 M o) {a1 : Nat} (Pa1 : ObAt 4 M a1) {a2 : Int32} {Q : Int32 → Mem → Prop} (H : (a2 < 0 → ((0 : Int32) = 0 ∨ (0 : Int32) = 1) ∧ Q (0 : Int32) M) ∧ (¬ a2 < 0 → ((vi M o 0) ≤ a2 → ((0 : Int32) = 0 ∨ (0 : Int32) = 1) ∧ Q (0 : Int32) M) ∧ (¬ (vi M o 0) ≤ a2 → ((vi M a1 0) ≤ a2 → ((0 : Int32) = 0 ∨ (0 : Int32) = 1) ∧ Q (0 : Int32) M) ∧ (¬ (vi M a1 0) ≤ a2 → ((400 : Int32) ≤ a2 → ((0 : Int32) = 0 ∨ (0 : Int32) = 1) ∧ Q (0 : Int32) M) ∧ (¬ (400 : Int32) ≤ a2 → vp_in a2 400 ∧ (vp_in a2 400 ∧ (((vi M (o + 2) (a2).toNatClampNeg) = (vi M (a1 + 2) (a2).toNatClampNeg) → At G (d + 1) 46 46 [(0, .ref o), (1, .ref a1), (2, .int a2), (3, .int (0 : Int32))] [] M (qI Q)) ∧ (¬ (vi M (o + 2) (a2).toNatClampNeg) = (vi M (a1 + 2) (a2).toNatClampNeg) → ((0 : Int32) = 0 ∨ (0 : Int32) = 1) ∧ Q (0 : Int32) M)))))))) : CI G (d + 1) 46 [.ref o, .ref a1, .int a2] M Q := by
  refine Cl.ofM (Nat.le_of_ble_eq_true rfl) rfl ?_
  refine vcc ok46 0 [46] ?_
  refine And.intro (fun c => ?_) (fun c => ?_)
  · replace H := H.1 c
    exact ⟨fun _ => H.1, _, rfl, H.2⟩
  · replace H := H.2 c
    refine And.intro O.1 ?_
    refine And.intro (fun c => ?_) (fun c => ?_)
    · replace H := H.1 c
      exact ⟨fun _ => H.1, _, rfl, H.2⟩
    · replace H := H.2 c
      refine And.intro Pa1.1 ?_
      refine And.intro (fun c => ?_) (fun c => ?_)
      · replace H := H.1 c
        exact ⟨fun _ => H.1, _, rfl, H.2⟩
      · replace H := H.2 c
        refine And.intro (fun c => ?_) (fun c => ?_)
        · replace H := H.1 c
          exact ⟨fun _ => H.1, _, rfl, H.2⟩
        · replace H := H.2 c
          refine And.intro O.1 ?_
          refine Or.inl ⟨_, (ob4_r2 O), ?_⟩
          refine Or.inl ⟨(ob4_k2 O), vp_cst (ob4_l2 O) H.1, ?_⟩
          replace H := H.2
          refine And.intro Pa1.1 ?_
          refine Or.inl ⟨_, (ob4_r2 Pa1), ?_⟩
          refine Or.inl ⟨(ob4_k2 Pa1), vp_cst (ob4_l2 Pa1) H.1, ?_⟩
          replace H := H.2
          refine And.intro (fun c => ?_) (fun c => ?_)
          · replace H := H.1 c
            exact H
          · replace H := H.2 c
            exact ⟨fun _ => H.1, _, rfl, H.2⟩

theorem c_X4_sameLine_46 {G : GT} {d : Nat} {M : Mem} {o : Nat} (O : ObAt 4 M o) {a1 : Nat} (Pa1 : ObAt 4 M a1) {l2 : Int32} {l3 : Int32} {Q : Int32 → Mem → Prop} (H : vp_in l2 400 ∧ (((vi M (o + 2) (l2).toNatClampNeg) ≤ l3 → ((1 : Int32) = 0 ∨ (1 : Int32) = 1) ∧ Q (1 : Int32) M) ∧ (¬ (vi M (o + 2) (l2).toNatClampNeg) ≤ l3 → vp_in l2 400 ∧ (vp_in l2 400 ∧ ((((vi M (o + 4) (l2).toNatClampNeg) + l3) < 0 → ((0 : Int32) = 0 ∨ (0 : Int32) = 1) ∧ Q (0 : Int32) M) ∧ (¬ ((vi M (o + 4) (l2).toNatClampNeg) + l3) < 0 → ((400 : Int32) ≤ ((vi M (o + 4) (l2).toNatClampNeg) + l3) → ((0 : Int32) = 0 ∨ (0 : Int32) = 1) ∧ Q (0 : Int32) M) ∧ (¬ (400 : Int32) ≤ ((vi M (o + 4) (l2).toNatClampNeg) + l3) → (((vi M (a1 + 4) (l2).toNatClampNeg) + l3) < 0 → ((0 : Int32) = 0 ∨ (0 : Int32) = 1) ∧ Q (0 : Int32) M) ∧ (¬ ((vi M (a1 + 4) (l2).toNatClampNeg) + l3) < 0 → (((vi M (a1 + 4) (l2).toNatClampNeg) + l3) < (400 : Int32) → vp_in ((vi M (o + 4) (l2).toNatClampNeg) + l3) 400 ∧ (vp_in ((vi M (a1 + 4) (l2).toNatClampNeg) + l3) 400 ∧ (((vi M (o + 3) (((vi M (o + 4) (l2).toNatClampNeg) + l3)).toNatClampNeg) = (vi M (a1 + 3) (((vi M (a1 + 4) (l2).toNatClampNeg) + l3)).toNatClampNeg) → At G (d + 1) 46 46 [(0, .ref o), (1, .ref a1), (2, .int l2), (3, .int (l3 + (1 : Int32)))] [] M (qI Q)) ∧ (¬ (vi M (o + 3) (((vi M (o + 4) (l2).toNatClampNeg) + l3)).toNatClampNeg) = (vi M (a1 + 3) (((vi M (a1 + 4) (l2).toNatClampNeg) + l3)).toNatClampNeg) → ((0 : Int32) = 0 ∨ (0 : Int32) = 1) ∧ Q (0 : Int32) M)))) ∧ (¬ ((vi M (a1 + 4) (l2).toNatClampNeg) + l3) < (400 : Int32) → ((0 : Int32) = 0 ∨ (0 : Int32) = 1) ∧ Q (0 : Int32) M))))))))) : At G (d + 1) 46 46 [(0, .ref o), (1, .ref a1), (2, .int l2), (3, .int l3)] [] M (qI Q) := by
  refine vcc ok46 26 [] ?_
  refine And.intro O.1 ?_
  refine Or.inl ⟨_, (ob4_r2 O), ?_⟩
  refine Or.inl ⟨(ob4_k2 O), vp_cst (ob4_l2 O) H.1, ?_⟩
  replace H := H.2
  refine And.intro (fun c => ?_) (fun c => ?_)
  · replace H := H.1 c
    exact ⟨fun _ => H.1, _, rfl, H.2⟩
  · replace H := H.2 c
    refine And.intro O.1 ?_
    refine Or.inl ⟨_, (ob4_r5 O), ?_⟩
    refine Or.inl ⟨(ob4_k5 O), vp_cst (ob4_l5 O) H.1, ?_⟩
    replace H := H.2
    refine And.intro Pa1.1 ?_
    refine Or.inl ⟨_, (ob4_r5 Pa1), ?_⟩
    refine Or.inl ⟨(ob4_k5 Pa1), vp_cst (ob4_l5 Pa1) H.1, ?_⟩
    replace H := H.2
    refine And.intro (fun c => ?_) (fun c => ?_)
    · replace H := H.1 c
      exact ⟨fun _ => H.1, _, rfl, H.2⟩
    · replace H := H.2 c
      refine And.intro (fun c => ?_) (fun c => ?_)
      · replace H := H.1 c
        exact ⟨fun _ => H.1, _, rfl, H.2⟩
      · replace H := H.2 c
        refine And.intro (fun c => ?_) (fun c => ?_)
        · replace H := H.1 c
          exact ⟨fun _ => H.1, _, rfl, H.2⟩
        · replace H := H.2 c
          refine And.intro (fun c => ?_) (fun c => ?_)
          · replace H := H.1 c
            refine And.intro O.1 ?_
            refine Or.inl ⟨_, (ob4_r3 O), ?_⟩
            refine Or.inl ⟨(ob4_k3 O), vp_cst (ob4_l3 O) H.1, ?_⟩
            replace H := H.2
            refine And.intro Pa1.1 ?_
            refine Or.inl ⟨_, (ob4_r3 Pa1), ?_⟩
            refine Or.inl ⟨(ob4_k3 Pa1), vp_cst (ob4_l3 Pa1) H.1, ?_⟩
            replace H := H.2
            refine And.intro (fun c => ?_) (fun c => ?_)
            · replace H := H.1 c
              exact At.keep [0, 1, 2, 3] H
            · replace H := H.2 c
              exact ⟨fun _ => H.1, _, rfl, H.2⟩
          · replace H := H.2 c
            exact ⟨fun _ => H.1, _, rfl, H.2⟩

theorem c_X5_isAlike {G : GT} {d : Nat} {M : Mem} {o : Nat} (O : mK M o = 6) {a1 : Nat} (Pa1 : mK M a1 = 6)  {Q : Int32 → Mem → Prop} (H : (¬ (vi M o 0) = (vi M a1 0) → ((0 : Int32) = 0 ∨ (0 : Int32) = 1) ∧ Q (0 : Int32) M) ∧ ((vi M o 0) = (vi M a1 0) → (¬ (vi M o 1) = (vi M a1 1) → ((0 : Int32) = 0 ∨ (0 : Int32) = 1) ∧ Q (0 : Int32) M) ∧ ((vi M o 1) = (vi M a1 1) → (¬ (vi M o 2) = (vi M a1 2) → ((0 : Int32) = 0 ∨ (0 : Int32) = 1) ∧ Q (0 : Int32) M) ∧ ((vi M o 2) = (vi M a1 2) → (¬ (vi M o 3) = (vi M a1 3) → ((0 : Int32) = 0 ∨ (0 : Int32) = 1) ∧ Q (0 : Int32) M) ∧ ((vi M o 3) = (vi M a1 3) → CI G d 49 [.ref o, .ref a1] M (fun v2 M1 => (mK M1 o = 6 ∧ mK M1 a1 = 6) ∧ ((v2 = 0 → ((0 : Int32) = 0 ∨ (0 : Int32) = 1) ∧ Q (0 : Int32) M1) ∧ (¬ v2 = 0 → ((1 : Int32) = 0 ∨ (1 : Int32) = 1) ∧ Q (1 : Int32) M1)))))))) : CI G (d + 1) 48 [.ref o, .ref a1] M Q := by
  refine Cl.ofM (Nat.le_of_ble_eq_true rfl) rfl ?_
  refine vcc ok48 0 [] ?_
  refine And.intro O ?_
  refine And.intro Pa1 ?_
  refine And.intro (fun c => ?_) (fun c => ?_)
  · replace H := H.1 c
    exact ⟨fun _ => H.1, _, rfl, H.2⟩
  · replace H := H.2 c
    refine And.intro O ?_
    refine And.intro Pa1 ?_
    refine And.intro (fun c => ?_) (fun c => ?_)
    · replace H := H.1 c
      exact ⟨fun _ => H.1, _, rfl, H.2⟩
    · replace H := H.2 c
      refine And.intro O ?_
      refine And.intro Pa1 ?_
      refine And.intro (fun c => ?_) (fun c => ?_)
      · replace H := H.1 c
        exact ⟨fun _ => H.1, _, rfl, H.2⟩
      · replace H := H.2 c
        refine And.intro O ?_
        refine And.intro Pa1 ?_
        refine And.intro (fun c => ?_) (fun c => ?_)
        · replace H := H.1 c
          exact ⟨fun _ => H.1, _, rfl, H.2⟩
        · replace H := H.2 c
          refine And.intro (Nat.le_of_ble_eq_true rfl) ?_
          refine And.intro (Nat.le_of_ble_eq_true rfl) (And.intro O ?_)
          refine Cl.mono H (fun r M1 h => ?_)
          obtain ⟨v2, rfl, H⟩ := h
          obtain ⟨⟨O, Pa1⟩, H⟩ := H
          refine And.intro (fun c => ?_) (fun c => ?_)
          · replace H := H.1 c
            exact ⟨fun _ => H.1, _, rfl, H.2⟩
          · replace H := H.2 c
            exact ⟨fun _ => H.1, _, rfl, H.2⟩

theorem c_X5_sameText {G : GT} {d : Nat} {M : Mem} {o : Nat} (O : mK M o = 6) {a1 : Nat} (Pa1 : mK M a1 = 6)  {Q : Int32 → Mem → Prop} (H : (∀ r1, vr M o 5 = some r1 → (∀ r2, vr M a1 5 = some r2 → (∀ r3, vr M o 5 = some r3 → (14 ≤ mK M r3 ∧ mK M r3 ≤ 21) ∧ ((∀ r4, vr M a1 5 = some r4 → (14 ≤ mK M r4 ∧ mK M r4 ≤ 21) ∧ (((nI (mA M r3)) = (nI (mA M r4)) → At G (d + 1) 49 51 [(0, .ref o), (1, .ref a1), (2, .int (0 : Int32))] [] M (qI Q)) ∧ (¬ (nI (mA M r3)) = (nI (mA M r4)) → ((0 : Int32) = 0 ∨ (0 : Int32) = 1) ∧ Q (0 : Int32) M))) ∧ (vr M a1 5 = none → False))) ∧ (vr M o 5 = none → False)) ∧ (vr M a1 5 = none → (∀ r5, vr M o 5 = some r5 → ((0 : Int32) = 0 ∨ (0 : Int32) = 1) ∧ Q (0 : Int32) M) ∧ (vr M o 5 = none → (∀ r6, vr M a1 5 = some r6 → ((0 : Int32) = 0 ∨ (0 : Int32) = 1) ∧ Q (0 : Int32) M) ∧ (vr M a1 5 = none → ((1 : Int32) = 0 ∨ (1 : Int32) = 1) ∧ Q (1 : Int32) M)))) ∧ (vr M o 5 = none → (∀ r7, vr M o 5 = some r7 → ((0 : Int32) = 0 ∨ (0 : Int32) = 1) ∧ Q (0 : Int32) M) ∧ (vr M o 5 = none → (∀ r8, vr M a1 5 = some r8 → ((0 : Int32) = 0 ∨ (0 : Int32) = 1) ∧ Q (0 : Int32) M) ∧ (vr M a1 5 = none → ((1 : Int32) = 0 ∨ (1 : Int32) = 1) ∧ Q (1 : Int32) M)))) : CI G (d + 1) 49 [.ref o, .ref a1] M Q := by
  refine Cl.ofM (Nat.le_of_ble_eq_true rfl) rfl ?_
  refine vcc ok49 0 [51] ?_
  refine And.intro O ?_
  rcases hr : vr M o 5 with _ | r1
  · refine Or.inr ⟨hr, ?_⟩
    replace H := H.2 hr
    refine And.intro O ?_
    rcases hr : vr M o 5 with _ | r7
    · refine Or.inr ⟨hr, ?_⟩
      replace H := H.2 hr
      refine And.intro Pa1 ?_
      rcases hr : vr M a1 5 with _ | r8
      · refine Or.inr ⟨hr, ?_⟩
        replace H := H.2 hr
        exact ⟨fun _ => H.1, _, rfl, H.2⟩
      · refine Or.inl ⟨_, hr, ?_⟩
        replace H := H.1 _ hr
        exact ⟨fun _ => H.1, _, rfl, H.2⟩
    · refine Or.inl ⟨_, hr, ?_⟩
      replace H := H.1 _ hr
      exact ⟨fun _ => H.1, _, rfl, H.2⟩
  · refine Or.inl ⟨_, hr, ?_⟩
    replace H := H.1 _ hr
    refine And.intro Pa1 ?_
    rcases hr : vr M a1 5 with _ | r2
    · refine Or.inr ⟨hr, ?_⟩
      replace H := H.2 hr
      refine And.intro O ?_
      rcases hr : vr M o 5 with _ | r5
      · refine Or.inr ⟨hr, ?_⟩
        replace H := H.2 hr
        refine And.intro Pa1 ?_
        rcases hr : vr M a1 5 with _ | r6
        · refine Or.inr ⟨hr, ?_⟩
          replace H := H.2 hr
          exact ⟨fun _ => H.1, _, rfl, H.2⟩
        · refine Or.inl ⟨_, hr, ?_⟩
          replace H := H.1 _ hr
          exact ⟨fun _ => H.1, _, rfl, H.2⟩
      · refine Or.inl ⟨_, hr, ?_⟩
        replace H := H.1 _ hr
        exact ⟨fun _ => H.1, _, rfl, H.2⟩
    · refine Or.inl ⟨_, hr, ?_⟩
      replace H := H.1 _ hr
      refine And.intro O ?_
      rcases hr : vr M o 5 with _ | r3
      · refine Or.inr ⟨hr, ?_⟩
        replace H := H.2 hr
        exact H.elim
      · refine Or.inl ⟨_, hr, ?_⟩
        replace H := H.1 _ hr
        refine Or.inl ⟨H.1, ?_⟩
        replace H := H.2
        refine And.intro Pa1 ?_
        rcases hr : vr M a1 5 with _ | r4
        · refine Or.inr ⟨hr, ?_⟩
          replace H := H.2 hr
          exact H.elim
        · refine Or.inl ⟨_, hr, ?_⟩
          replace H := H.1 _ hr
          refine Or.inl ⟨H.1, ?_⟩
          replace H := H.2
          refine And.intro (fun c => ?_) (fun c => ?_)
          · replace H := H.1 c
            exact H
          · replace H := H.2 c
            exact ⟨fun _ => H.1, _, rfl, H.2⟩

theorem c_X5_sameText_51 {G : GT} {d : Nat} {M : Mem} {o : Nat} (O : mK M o = 6) {a1 : Nat} (Pa1 : mK M a1 = 6) {l2 : Int32} {Q : Int32 → Mem → Prop} (H : (∀ r9, vr M o 5 = some r9 → (14 ≤ mK M r9 ∧ mK M r9 ≤ 21) ∧ (((nI (mA M r9)) ≤ l2 → ((1 : Int32) = 0 ∨ (1 : Int32) = 1) ∧ Q (1 : Int32) M) ∧ (¬ (nI (mA M r9)) ≤ l2 → (∀ r10, vr M a1 5 = some r10 → (14 ≤ mK M r10 ∧ mK M r10 ≤ 21) ∧ (((nI (mA M r10)) ≤ l2 → ((1 : Int32) = 0 ∨ (1 : Int32) = 1) ∧ Q (1 : Int32) M) ∧ (¬ (nI (mA M r10)) ≤ l2 → (∀ r11, vr M o 5 = some r11 → mK M r11 = 15 ∧ vp_in l2 (mA M r11) ∧ ((∀ r12, vr M a1 5 = some r12 → mK M r12 = 15 ∧ vp_in l2 (mA M r12) ∧ (((vi M r11 (l2).toNatClampNeg) = (vi M r12 (l2).toNatClampNeg) → At G (d + 1) 49 51 [(0, .ref o), (1, .ref a1), (2, .int (l2 + (1 : Int32)))] [] M (qI Q)) ∧ (¬ (vi M r11 (l2).toNatClampNeg) = (vi M r12 (l2).toNatClampNeg) → ((0 : Int32) = 0 ∨ (0 : Int32) = 1) ∧ Q (0 : Int32) M))) ∧ (vr M a1 5 = none → False))) ∧ (vr M o 5 = none → False)))) ∧ (vr M a1 5 = none → False)))) ∧ (vr M o 5 = none → False)) : At G (d + 1) 49 51 [(0, .ref o), (1, .ref a1), (2, .int l2)] [] M (qI Q) := by
  refine vcc ok49 27 [] ?_
  refine And.intro O ?_
  rcases hr : vr M o 5 with _ | r9
  · refine Or.inr ⟨hr, ?_⟩
    replace H := H.2 hr
    exact H.elim
  · refine Or.inl ⟨_, hr, ?_⟩
    replace H := H.1 _ hr
    refine Or.inl ⟨H.1, ?_⟩
    replace H := H.2
    refine And.intro (fun c => ?_) (fun c => ?_)
    · replace H := H.1 c
      exact ⟨fun _ => H.1, _, rfl, H.2⟩
    · replace H := H.2 c
      refine And.intro Pa1 ?_
      rcases hr : vr M a1 5 with _ | r10
      · refine Or.inr ⟨hr, ?_⟩
        replace H := H.2 hr
        exact H.elim
      · refine Or.inl ⟨_, hr, ?_⟩
        replace H := H.1 _ hr
        refine Or.inl ⟨H.1, ?_⟩
        replace H := H.2
        refine And.intro (fun c => ?_) (fun c => ?_)
        · replace H := H.1 c
          exact ⟨fun _ => H.1, _, rfl, H.2⟩
        · replace H := H.2 c
          refine And.intro O ?_
          rcases hr : vr M o 5 with _ | r11
          · refine Or.inr ⟨hr, ?_⟩
            replace H := H.2 hr
            exact H.elim
          · refine Or.inl ⟨_, hr, ?_⟩
            replace H := H.1 _ hr
            refine Or.inl ⟨H.1, H.2.1, ?_⟩
            replace H := H.2.2
            refine And.intro Pa1 ?_
            rcases hr : vr M a1 5 with _ | r12
            · refine Or.inr ⟨hr, ?_⟩
              replace H := H.2 hr
              exact H.elim
            · refine Or.inl ⟨_, hr, ?_⟩
              replace H := H.1 _ hr
              refine Or.inl ⟨H.1, H.2.1, ?_⟩
              replace H := H.2.2
              refine And.intro (fun c => ?_) (fun c => ?_)
              · replace H := H.1 c
                exact H
              · replace H := H.2 c
                exact ⟨fun _ => H.1, _, rfl, H.2⟩

theorem c_X5_meets {G : GT} {d : Nat} {M : Mem} {o : Nat} (O : mK M o = 6) {a1 : Nat} (Pa1 : mK M a1 = 6)  {Q : Int32 → Mem → Prop} (H : ((vi M a1 0) < (vi M o 0) → CI G d 51 [.ref a1, .ref o] M (fun v2 M1 => (mK M1 o = 6 ∧ mK M1 a1 = 6) ∧ (Q v2 M1))) ∧ (¬ (vi M a1 0) < (vi M o 0) → CI G d 51 [.ref o, .ref a1] M (fun v4 M3 => (mK M3 o = 6 ∧ mK M3 a1 = 6) ∧ (Q v4 M3)))) : CI G (d + 1) 50 [.ref o, .ref a1] M Q := by
  refine Cl.ofM (Nat.le_of_ble_eq_true rfl) rfl ?_
  refine vcc ok50 0 [] ?_
  refine And.intro O ?_
  refine And.intro Pa1 ?_
  refine And.intro (fun c => ?_) (fun c => ?_)
  · replace H := H.1 c
    refine And.intro (Nat.le_of_ble_eq_true rfl) ?_
    refine And.intro (Nat.le_of_ble_eq_true rfl) (And.intro Pa1 ?_)
    refine Cl.mono H (fun r M1 h => ?_)
    obtain ⟨v2, rfl, H⟩ := h
    obtain ⟨⟨O, Pa1⟩, H⟩ := H
    exact ⟨fun h => absurd h (by decide), _, rfl, H⟩
  · replace H := H.2 c
    refine And.intro (Nat.le_of_ble_eq_true rfl) ?_
    refine And.intro (Nat.le_of_ble_eq_true rfl) (And.intro O ?_)
    refine Cl.mono H (fun r M3 h => ?_)
    obtain ⟨v4, rfl, H⟩ := h
    obtain ⟨⟨O, Pa1⟩, H⟩ := H
    exact ⟨fun h => absurd h (by decide), _, rfl, H⟩
