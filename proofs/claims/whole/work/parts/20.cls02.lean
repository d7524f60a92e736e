/-! THE CLASS, block by block: by program (wip/tools/clsall.py) -/
theorem c_X2_clear {G : GT} {d : Nat} {M : Mem} {o : Nat} (O : ObAt 2 M o)  {Q : Mem → Prop} (H : ∀ M1, M1 = seti M o 1 (0 : Int32) → ∀ M2, M2 = seti M1 o 4 (0 : Int32) → Q M2) : CV G (d + 1) 21 [.ref o] M Q := by
  refine Cl.ofM (Nat.le_of_ble_eq_true rfl) rfl ?_
  refine vcc ok21 0 [] ?_
  refine And.intro O.1 ?_
  refine And.intro (Or.inl rfl) (And.intro (fun h => absurd h (by decide)) ?_)
  replace H := H _ rfl
  refine And.intro O.1 ?_
  refine And.intro (Or.inl rfl) (And.intro (fun h => absurd h (by decide)) ?_)
  replace H := H _ rfl
  exact ⟨rfl, H⟩

theorem c_X2_add {G : GT} {d : Nat} {M : Mem} {o : Nat} (O : ObAt 2 M o) {a1 : Int32} {Q : Mem → Prop} (H : ((vi M o 1) < 0 → Q M) ∧ (¬ (vi M o 1) < 0 → ((400 : Int32) ≤ (vi M o 1) → Q M) ∧ (¬ (400 : Int32) ≤ (vi M o 1) → vp_in (vi M o 1) 400 ∧ (∀ M1, M1 = seti M (o + 1) ((vi M o 1)).toNatClampNeg a1 → ∀ M2, M2 = seti M1 o 1 ((vi M1 o 1) + (1 : Int32)) → Q M2)))) : CV G (d + 1) 22 [.ref o, .int a1] M Q := by
  refine Cl.ofM (Nat.le_of_ble_eq_true rfl) rfl ?_
  refine vcc ok22 0 [] ?_
  refine And.intro O.1 ?_
  refine And.intro (fun c => ?_) (fun c => ?_)
  · replace H := H.1 c
    exact ⟨rfl, H⟩
  · replace H := H.2 c
    refine And.intro O.1 ?_
    refine And.intro (fun c => ?_) (fun c => ?_)
    · replace H := H.1 c
      exact ⟨rfl, H⟩
    · replace H := H.2 c
      refine And.intro O.1 ?_
      refine Or.inl ⟨_, (ob2_r0 O), ?_⟩
      refine And.intro O.1 ?_
      refine ⟨(ob2_k0 O), vp_cst (ob2_l0 O) H.1, ?_⟩
      replace H := H.2
      replace H := H _ rfl
      refine And.intro O.1 ?_
      refine And.intro O.1 ?_
      refine And.intro (Or.inl rfl) (And.intro (fun h => absurd h (by decide)) ?_)
      replace H := H _ rfl
      exact ⟨rfl, H⟩

theorem c_X2_endSum {G : GT} {d : Nat} {M : Mem} {o : Nat} (O : ObAt 2 M o) {a1 : Int32} {Q : Mem → Prop} (H : (a1 < 0 → Q M) ∧ (¬ a1 < 0 → ((12 : Int32) ≤ a1 → Q M) ∧ (¬ (12 : Int32) ≤ a1 → vp_in a1 12 ∧ (∀ M1, M1 = seti M (o + 2) (a1).toNatClampNeg (vi M o 1) → Q M1)))) : CV G (d + 1) 23 [.ref o, .int a1] M Q := by
  refine Cl.ofM (Nat.le_of_ble_eq_true rfl) rfl ?_
  refine vcc ok23 0 [] ?_
  refine And.intro (fun c => ?_) (fun c => ?_)
  · replace H := H.1 c
    exact ⟨rfl, H⟩
  · replace H := H.2 c
    refine And.intro (fun c => ?_) (fun c => ?_)
    · replace H := H.1 c
      exact ⟨rfl, H⟩
    · replace H := H.2 c
      refine And.intro O.1 ?_
      refine Or.inl ⟨_, (ob2_r2 O), ?_⟩
      refine And.intro O.1 ?_
      refine ⟨(ob2_k2 O), vp_cst (ob2_l2 O) H.1, ?_⟩
      replace H := H.2
      replace H := H _ rfl
      exact ⟨rfl, H⟩

theorem c_X2_endClause {G : GT} {d : Nat} {M : Mem} {o : Nat} (O : ObAt 2 M o) {a1 : Int32} {Q : Mem → Prop} (H : (a1 < 0 → Q M) ∧ (¬ a1 < 0 → ((12 : Int32) ≤ a1 → Q M) ∧ (¬ (12 : Int32) ≤ a1 → vp_in a1 12 ∧ (∀ M1, M1 = seti M (o + 3) (a1).toNatClampNeg (vi M o 1) → ∀ M2, M2 = seti M1 o 4 (a1 + (1 : Int32)) → Q M2)))) : CV G (d + 1) 24 [.ref o, .int a1] M Q := by
  refine Cl.ofM (Nat.le_of_ble_eq_true rfl) rfl ?_
  refine vcc ok24 0 [] ?_
  refine And.intro (fun c => ?_) (fun c => ?_)
  · replace H := H.1 c
    exact ⟨rfl, H⟩
  · replace H := H.2 c
    refine And.intro (fun c => ?_) (fun c => ?_)
    · replace H := H.1 c
      exact ⟨rfl, H⟩
    · replace H := H.2 c
      refine And.intro O.1 ?_
      refine Or.inl ⟨_, (ob2_r3 O), ?_⟩
      refine And.intro O.1 ?_
      refine ⟨(ob2_k3 O), vp_cst (ob2_l3 O) H.1, ?_⟩
      replace H := H.2
      replace H := H _ rfl
      refine And.intro O.1 ?_
      refine And.intro (Or.inl rfl) (And.intro (fun h => absurd h (by decide)) ?_)
      replace H := H _ rfl
      exact ⟨rfl, H⟩

theorem c_X2_weigh {G : GT} {d : Nat} {M : Mem} {o : Nat} (O : ObAt 2 M o) {a1 : Nat} (Pa1 : ObAt 8 M a1) {a2 : Int32} {Q : Int64 → Mem → Prop} (H : CI G d 26 [.ref o, .ref a1, .int a2] M (fun v2 M1 => (ObAt 2 M1 o ∧ ObAt 8 M1 a1) ∧ ((¬ v2 = 0 → At G (d + 1) 25 16 [(0, .ref o), (3, .int (0 : Int32)), (4, .int (0 : Int32))] [] M1 (qJ Q)) ∧ (v2 = 0 → Q (0 : Int64) M1)))) : CJ G (d + 1) 25 [.ref o, .ref a1, .int a2] M Q := by
  refine Cl.ofM (Nat.le_of_ble_eq_true rfl) rfl ?_
  refine vcc ok25 0 [16] ?_
  refine And.intro (Nat.le_of_ble_eq_true rfl) ?_
  refine And.intro (Nat.le_of_ble_eq_true rfl) (And.intro O.1 ?_)
  refine Cl.mono H (fun r M1 h => ?_)
  obtain ⟨v2, rfl, H⟩ := h
  obtain ⟨⟨O, Pa1⟩, H⟩ := H
  refine And.intro (fun c => ?_) (fun c => ?_)
  · replace H := H.1 c
    exact At.keep [0, 3, 4] H
  · replace H := H.2 c
    exact ⟨_, rfl, H⟩

theorem c_X2_weigh_16 {G : GT} {d : Nat} {M : Mem} {o : Nat} (O : ObAt 2 M o) {a1 : Nat} (Pa1 : ObAt 8 M a1) {l3 : Int32} {l4 : Int32} {Q : Int64 → Mem → Prop} (H : ((vi M o 4) ≤ l4 → Q (0 : Int64) M) ∧ (¬ (vi M o 4) ≤ l4 → ((12 : Int32) ≤ l4 → Q (0 : Int64) M) ∧ (¬ (12 : Int32) ≤ l4 → vp_in l4 12 ∧ (vp_in l4 12 ∧ ((¬ (vi M (o + 2) (l4).toNatClampNeg) = (vi M (o + 3) (l4).toNatClampNeg) → (¬ (0 : Int32) = 0 → vp_in l4 12 ∧ (CJ G d 27 [.ref o, .int l3, .int (vi M (o + 2) (l4).toNatClampNeg)] M (fun v4 M3 => (ObAt 2 M3 o ∧ ObAt 8 M3 a1) ∧ (Q v4 M3)))) ∧ ((0 : Int32) = 0 → vp_in l4 12 ∧ (vp_in l4 12 ∧ (CJ G d 27 [.ref o, .int (vi M (o + 2) (l4).toNatClampNeg), .int (vi M (o + 3) (l4).toNatClampNeg)] M (fun v6 M5 => (ObAt 2 M5 o ∧ ObAt 8 M5 a1) ∧ (((lg_cmp v6 (0 : Int64)) = 0 → vp_in l4 12 ∧ (At G (d + 1) 25 16 [(0, .ref o), (3, .int (vi M5 (o + 3) (l4).toNatClampNeg)), (4, .int (l4 + (1 : Int32)))] [] M5 (qJ Q))) ∧ (¬ (lg_cmp v6 (0 : Int64)) = 0 → vp_in l4 12 ∧ (CJ G d 27 [.ref o, .int l3, .int (vi M5 (o + 2) (l4).toNatClampNeg)] M5 (fun v8 M7 => (ObAt 2 M7 o ∧ ObAt 8 M7 a1) ∧ (Q v8 M7)))))))))) ∧ ((vi M (o + 2) (l4).toNatClampNeg) = (vi M (o + 3) (l4).toNatClampNeg) → (¬ (1 : Int32) = 0 → vp_in l4 12 ∧ (CJ G d 27 [.ref o, .int l3, .int (vi M (o + 2) (l4).toNatClampNeg)] M (fun v10 M9 => (ObAt 2 M9 o ∧ ObAt 8 M9 a1) ∧ (Q v10 M9)))) ∧ ((1 : Int32) = 0 → vp_in l4 12 ∧ (vp_in l4 12 ∧ (CJ G d 27 [.ref o, .int (vi M (o + 2) (l4).toNatClampNeg), .int (vi M (o + 3) (l4).toNatClampNeg)] M (fun v12 M11 => (ObAt 2 M11 o ∧ ObAt 8 M11 a1) ∧ (((lg_cmp v12 (0 : Int64)) = 0 → vp_in l4 12 ∧ (At G (d + 1) 25 16 [(0, .ref o), (3, .int (vi M11 (o + 3) (l4).toNatClampNeg)), (4, .int (l4 + (1 : Int32)))] [] M11 (qJ Q))) ∧ (¬ (lg_cmp v12 (0 : Int64)) = 0 → vp_in l4 12 ∧ (CJ G d 27 [.ref o, .int l3, .int (vi M11 (o + 2) (l4).toNatClampNeg)] M11 (fun v14 M13 => (ObAt 2 M13 o ∧ ObAt 8 M13 a1) ∧ (Q v14 M13))))))))))))))) : At G (d + 1) 25 16 [(0, .ref o), (3, .int l3), (4, .int l4)] [] M (qJ Q) := by
  refine vcc ok25 11 [] ?_
  refine And.intro O.1 ?_
  refine And.intro (fun c => ?_) (fun c => ?_)
  · replace H := H.1 c
    exact ⟨_, rfl, H⟩
  · replace H := H.2 c
    refine And.intro (fun c => ?_) (fun c => ?_)
    · replace H := H.1 c
      exact ⟨_, rfl, H⟩
    · replace H := H.2 c
      refine And.intro O.1 ?_
      refine Or.inl ⟨_, (ob2_r2 O), ?_⟩
      refine Or.inl ⟨(ob2_k2 O), vp_cst (ob2_l2 O) H.1, ?_⟩
      replace H := H.2
      refine And.intro O.1 ?_
      refine Or.inl ⟨_, (ob2_r3 O), ?_⟩
      refine Or.inl ⟨(ob2_k3 O), vp_cst (ob2_l3 O) H.1, ?_⟩
      replace H := H.2
      refine And.intro (fun c => ?_) (fun c => ?_)
      · replace H := H.1 c
        refine And.intro (fun c => ?_) (fun c => ?_)
        · replace H := H.1 c
          refine And.intro O.1 ?_
          refine Or.inl ⟨_, (ob2_r2 O), ?_⟩
          refine Or.inl ⟨(ob2_k2 O), vp_cst (ob2_l2 O) H.1, ?_⟩
          replace H := H.2
          refine And.intro (Nat.le_of_ble_eq_true rfl) ?_
          refine And.intro (Nat.le_of_ble_eq_true rfl) (And.intro O.1 ?_)
          refine Cl.mono H (fun r M3 h => ?_)
          obtain ⟨v4, rfl, H⟩ := h
          obtain ⟨⟨O, Pa1⟩, H⟩ := H
          exact ⟨_, rfl, H⟩
        · replace H := H.2 c
          refine And.intro O.1 ?_
          refine Or.inl ⟨_, (ob2_r2 O), ?_⟩
          refine Or.inl ⟨(ob2_k2 O), vp_cst (ob2_l2 O) H.1, ?_⟩
          replace H := H.2
          refine And.intro O.1 ?_
          refine Or.inl ⟨_, (ob2_r3 O), ?_⟩
          refine Or.inl ⟨(ob2_k3 O), vp_cst (ob2_l3 O) H.1, ?_⟩
          replace H := H.2
          refine And.intro (Nat.le_of_ble_eq_true rfl) ?_
          refine And.intro (Nat.le_of_ble_eq_true rfl) (And.intro O.1 ?_)
          refine Cl.mono H (fun r M5 h => ?_)
          obtain ⟨v6, rfl, H⟩ := h
          obtain ⟨⟨O, Pa1⟩, H⟩ := H
          refine And.intro (fun c => ?_) (fun c => ?_)
          · replace H := H.1 c
            refine And.intro O.1 ?_
            refine Or.inl ⟨_, (ob2_r3 O), ?_⟩
            refine Or.inl ⟨(ob2_k3 O), vp_cst (ob2_l3 O) H.1, ?_⟩
            replace H := H.2
            exact At.keep [0, 3, 4] H
          · replace H := H.2 c
            refine And.intro O.1 ?_
            refine Or.inl ⟨_, (ob2_r2 O), ?_⟩
            refine Or.inl ⟨(ob2_k2 O), vp_cst (ob2_l2 O) H.1, ?_⟩
            replace H := H.2
            refine And.intro (Nat.le_of_ble_eq_true rfl) ?_
            refine And.intro (Nat.le_of_ble_eq_true rfl) (And.intro O.1 ?_)
            refine Cl.mono H (fun r M7 h => ?_)
            obtain ⟨v8, rfl, H⟩ := h
            obtain ⟨⟨O, Pa1⟩, H⟩ := H
            exact ⟨_, rfl, H⟩
      · replace H := H.2 c
        refine And.intro (fun c => ?_) (fun c => ?_)
        · replace H := H.1 c
          refine And.intro O.1 ?_
          refine Or.inl ⟨_, (ob2_r2 O), ?_⟩
          refine Or.inl ⟨(ob2_k2 O), vp_cst (ob2_l2 O) H.1, ?_⟩
          replace H := H.2
          refine And.intro (Nat.le_of_ble_eq_true rfl) ?_
          refine And.intro (Nat.le_of_ble_eq_true rfl) (And.intro O.1 ?_)
          refine Cl.mono H (fun r M9 h => ?_)
          obtain ⟨v10, rfl, H⟩ := h
          obtain ⟨⟨O, Pa1⟩, H⟩ := H
          exact ⟨_, rfl, H⟩
        · replace H := H.2 c
          refine And.intro O.1 ?_
          refine Or.inl ⟨_, (ob2_r2 O), ?_⟩
          refine Or.inl ⟨(ob2_k2 O), vp_cst (ob2_l2 O) H.1, ?_⟩
          replace H := H.2
          refine And.intro O.1 ?_
          refine Or.inl ⟨_, (ob2_r3 O), ?_⟩
          refine Or.inl ⟨(ob2_k3 O), vp_cst (ob2_l3 O) H.1, ?_⟩
          replace H := H.2
          refine And.intro (Nat.le_of_ble_eq_true rfl) ?_
          refine And.intro (Nat.le_of_ble_eq_true rfl) (And.intro O.1 ?_)
          refine Cl.mono H (fun r M11 h => ?_)
          obtain ⟨v12, rfl, H⟩ := h
          obtain ⟨⟨O, Pa1⟩, H⟩ := H
          refine And.intro (fun c => ?_) (fun c => ?_)
          · replace H := H.1 c
            refine And.intro O.1 ?_
            refine Or.inl ⟨_, (ob2_r3 O), ?_⟩
            refine Or.inl ⟨(ob2_k3 O), vp_cst (ob2_l3 O) H.1, ?_⟩
            replace H := H.2
            exact At.keep [0, 3, 4] H
          · replace H := H.2 c
            refine And.intro O.1 ?_
            refine Or.inl ⟨_, (ob2_r2 O), ?_⟩
            refine Or.inl ⟨(ob2_k2 O), vp_cst (ob2_l2 O) H.1, ?_⟩
            replace H := H.2
            refine And.intro (Nat.le_of_ble_eq_true rfl) ?_
            refine And.intro (Nat.le_of_ble_eq_true rfl) (And.intro O.1 ?_)
            refine Cl.mono H (fun r M13 h => ?_)
            obtain ⟨v14, rfl, H⟩ := h
            obtain ⟨⟨O, Pa1⟩, H⟩ := H
            exact ⟨_, rfl, H⟩

theorem c_X2_learn {G : GT} {d : Nat} {M : Mem} {o : Nat} (O : ObAt 2 M o) {a1 : Nat} (Pa1 : ObAt 8 M a1) {a2 : Int32} {Q : Int32 → Mem → Prop} (H : (a2 < 0 → ((0 : Int32) = 0 ∨ (0 : Int32) = 1) ∧ Q (0 : Int32) M) ∧ (¬ a2 < 0 → (a2 < (64 : Int32) → vp_in a2 64 ∧ ((∀ r1, (vr M (a1 + 5) (a2).toNatClampNeg) = some r1 → ¬ (16 : Int32) = 0 ∧ (((4 : Int32) ≤ (a2 / (16 : Int32)) → vp_in (0 : Int32) 7 ∧ (∀ M2, M2 = setl M (o + 4) ((0 : Int32)).toNatClampNeg (0 : Int64) → vp_in (1 : Int32) 7 ∧ (∀ M3, M3 = setl M2 (o + 4) ((1 : Int32)).toNatClampNeg ((a2 / (16 : Int32))).toInt64 → ¬ (16 : Int32) = 0 ∧ (vp_in (2 : Int32) 7 ∧ (∀ M4, M4 = setl M3 (o + 4) ((2 : Int32)).toNatClampNeg ((a2 - a2 / (16 : Int32) * (16 : Int32))).toInt64 → mK M4 r1 = 6 ∧ (vp_in (3 : Int32) 7 ∧ (∀ M5, M5 = setl M4 (o + 4) ((3 : Int32)).toNatClampNeg ((vi M4 r1 0)).toInt64 → mK M5 r1 = 6 ∧ (vp_in (4 : Int32) 7 ∧ (∀ M6, M6 = setl M5 (o + 4) ((4 : Int32)).toNatClampNeg ((vi M5 r1 4)).toInt64 → mK M6 r1 = 6 ∧ (vp_in (5 : Int32) 7 ∧ (∀ M7, M7 = setl M6 (o + 4) ((5 : Int32)).toNatClampNeg ((vi M6 r1 1)).toInt64 → vp_in a2 64 ∧ (vp_in (6 : Int32) 7 ∧ (∀ M8, M8 = setl M7 (o + 4) ((6 : Int32)).toNatClampNeg ((vi M7 (a1 + 7) (a2).toNatClampNeg)).toInt64 → ((1 : Int32) = 0 ∨ (1 : Int32) = 1) ∧ Q (1 : Int32) M8))))))))))))) ∧ (¬ (4 : Int32) ≤ (a2 / (16 : Int32)) → vp_in (a2 / (16 : Int32)) 4 ∧ (vp_in (0 : Int32) 7 ∧ (∀ M9, M9 = setl M (o + 4) ((0 : Int32)).toNatClampNeg ((vi M (a1 + 3) ((a2 / (16 : Int32))).toNatClampNeg)).toInt64 → vp_in (1 : Int32) 7 ∧ (∀ M10, M10 = setl M9 (o + 4) ((1 : Int32)).toNatClampNeg ((a2 / (16 : Int32))).toInt64 → ¬ (16 : Int32) = 0 ∧ (vp_in (2 : Int32) 7 ∧ (∀ M11, M11 = setl M10 (o + 4) ((2 : Int32)).toNatClampNeg ((a2 - a2 / (16 : Int32) * (16 : Int32))).toInt64 → mK M11 r1 = 6 ∧ (vp_in (3 : Int32) 7 ∧ (∀ M12, M12 = setl M11 (o + 4) ((3 : Int32)).toNatClampNeg ((vi M11 r1 0)).toInt64 → mK M12 r1 = 6 ∧ (vp_in (4 : Int32) 7 ∧ (∀ M13, M13 = setl M12 (o + 4) ((4 : Int32)).toNatClampNeg ((vi M12 r1 4)).toInt64 → mK M13 r1 = 6 ∧ (vp_in (5 : Int32) 7 ∧ (∀ M14, M14 = setl M13 (o + 4) ((5 : Int32)).toNatClampNeg ((vi M13 r1 1)).toInt64 → vp_in a2 64 ∧ (vp_in (6 : Int32) 7 ∧ (∀ M15, M15 = setl M14 (o + 4) ((6 : Int32)).toNatClampNeg ((vi M14 (a1 + 7) (a2).toNatClampNeg)).toInt64 → ((1 : Int32) = 0 ∨ (1 : Int32) = 1) ∧ Q (1 : Int32) M15)))))))))))))))) ∧ ((vr M (a1 + 5) (a2).toNatClampNeg) = none → ((0 : Int32) = 0 ∨ (0 : Int32) = 1) ∧ Q (0 : Int32) M))) ∧ (¬ a2 < (64 : Int32) → ((0 : Int32) = 0 ∨ (0 : Int32) = 1) ∧ Q (0 : Int32) M))) : CI G (d + 1) 26 [.ref o, .ref a1, .int a2] M Q := by
  refine Cl.ofM (Nat.le_of_ble_eq_true rfl) rfl ?_
  refine vcc ok26 0 [] ?_
  refine And.intro (fun c => ?_) (fun c => ?_)
  · replace H := H.1 c
    exact ⟨fun _ => H.1, _, rfl, H.2⟩
  · replace H := H.2 c
    refine And.intro (fun c => ?_) (fun c => ?_)
    · replace H := H.1 c
      refine And.intro Pa1.1 ?_
      refine Or.inl ⟨_, (ob8_r7 Pa1), ?_⟩
      refine ⟨(k18 (ob8_k7 Pa1)), vp_cst (ob8_l7 Pa1) H.1, ?_⟩
      replace H := H.2
      refine wRef_i (fun r1 hr => ?_) (fun hr => ?_)
      · replace H := H.1 _ hr
        refine And.intro H.1 ?_
        replace H := H.2
        refine And.intro O.1 ?_
        refine Or.inl ⟨_, (ob2_r5 O), ?_⟩
        refine And.intro (fun c => ?_) (fun c => ?_)
        · replace H := H.1 c
          refine ⟨(ob2_k5 O), vp_cst (ob2_l5 O) H.1, ?_⟩
          replace H := H.2
          replace H := H _ rfl
          refine And.intro O.1 ?_
          refine Or.inl ⟨_, (ob2_r5 O), ?_⟩
          refine ⟨(ob2_k5 O), vp_cst (ob2_l5 O) H.1, ?_⟩
          replace H := H.2
          replace H := H _ rfl
          refine And.intro O.1 ?_
          refine Or.inl ⟨_, (ob2_r5 O), ?_⟩
          refine And.intro H.1 ?_
          replace H := H.2
          refine ⟨(ob2_k5 O), vp_cst (ob2_l5 O) H.1, ?_⟩
          replace H := H.2
          replace H := H _ rfl
          refine And.intro O.1 ?_
          refine Or.inl ⟨_, (ob2_r5 O), ?_⟩
          refine And.intro H.1 ?_
          replace H := H.2
          refine ⟨(ob2_k5 O), vp_cst (ob2_l5 O) H.1, ?_⟩
          replace H := H.2
          replace H := H _ rfl
          refine And.intro O.1 ?_
          refine Or.inl ⟨_, (ob2_r5 O), ?_⟩
          refine And.intro H.1 ?_
          replace H := H.2
          refine ⟨(ob2_k5 O), vp_cst (ob2_l5 O) H.1, ?_⟩
          replace H := H.2
          replace H := H _ rfl
          refine And.intro O.1 ?_
          refine Or.inl ⟨_, (ob2_r5 O), ?_⟩
          refine And.intro H.1 ?_
          replace H := H.2
          refine ⟨(ob2_k5 O), vp_cst (ob2_l5 O) H.1, ?_⟩
          replace H := H.2
          replace H := H _ rfl
          refine And.intro O.1 ?_
          refine Or.inl ⟨_, (ob2_r5 O), ?_⟩
          refine And.intro Pa1.1 ?_
          refine Or.inl ⟨_, (ob8_r9 Pa1), ?_⟩
          refine Or.inl ⟨(ob8_k9 Pa1), vp_cst (ob8_l9 Pa1) H.1, ?_⟩
          replace H := H.2
          refine ⟨(ob2_k5 O), vp_cst (ob2_l5 O) H.1, ?_⟩
          replace H := H.2
          replace H := H _ rfl
          exact ⟨fun _ => H.1, _, rfl, H.2⟩
        · replace H := H.2 c
          refine And.intro Pa1.1 ?_
          refine Or.inl ⟨_, (ob8_r4 Pa1), ?_⟩
          refine Or.inl ⟨(ob8_k4 Pa1), vp_cst (ob8_l4 Pa1) H.1, ?_⟩
          replace H := H.2
          refine ⟨(ob2_k5 O), vp_cst (ob2_l5 O) H.1, ?_⟩
          replace H := H.2
          replace H := H _ rfl
          refine And.intro O.1 ?_
          refine Or.inl ⟨_, (ob2_r5 O), ?_⟩
          refine ⟨(ob2_k5 O), vp_cst (ob2_l5 O) H.1, ?_⟩
          replace H := H.2
          replace H := H _ rfl
          refine And.intro O.1 ?_
          refine Or.inl ⟨_, (ob2_r5 O), ?_⟩
          refine And.intro H.1 ?_
          replace H := H.2
          refine ⟨(ob2_k5 O), vp_cst (ob2_l5 O) H.1, ?_⟩
          replace H := H.2
          replace H := H _ rfl
          refine And.intro O.1 ?_
          refine Or.inl ⟨_, (ob2_r5 O), ?_⟩
          refine And.intro H.1 ?_
          replace H := H.2
          refine ⟨(ob2_k5 O), vp_cst (ob2_l5 O) H.1, ?_⟩
          replace H := H.2
          replace H := H _ rfl
          refine And.intro O.1 ?_
          refine Or.inl ⟨_, (ob2_r5 O), ?_⟩
          refine And.intro H.1 ?_
          replace H := H.2
          refine ⟨(ob2_k5 O), vp_cst (ob2_l5 O) H.1, ?_⟩
          replace H := H.2
          replace H := H _ rfl
          refine And.intro O.1 ?_
          refine Or.inl ⟨_, (ob2_r5 O), ?_⟩
          refine And.intro H.1 ?_
          replace H := H.2
          refine ⟨(ob2_k5 O), vp_cst (ob2_l5 O) H.1, ?_⟩
          replace H := H.2
          replace H := H _ rfl
          refine And.intro O.1 ?_
          refine Or.inl ⟨_, (ob2_r5 O), ?_⟩
          refine And.intro Pa1.1 ?_
          refine Or.inl ⟨_, (ob8_r9 Pa1), ?_⟩
          refine Or.inl ⟨(ob8_k9 Pa1), vp_cst (ob8_l9 Pa1) H.1, ?_⟩
          replace H := H.2
          refine ⟨(ob2_k5 O), vp_cst (ob2_l5 O) H.1, ?_⟩
          replace H := H.2
          replace H := H _ rfl
          exact ⟨fun _ => H.1, _, rfl, H.2⟩
      · replace H := H.2 hr
        exact ⟨fun _ => H.1, _, rfl, H.2⟩
    · replace H := H.2 c
      exact ⟨fun _ => H.1, _, rfl, H.2⟩

theorem c_X2_valueOf {G : GT} {d : Nat} {M : Mem} {o : Nat} (O : ObAt 2 M o) {a1 : Int32} {a2 : Int32} {Q : Int64 → Mem → Prop} (H : At G (d + 1) 27 5 [(0, .ref o), (2, .int a2), (3, .int (0 : Int32)), (4, .int a1)] [] M (qJ Q)) : CJ G (d + 1) 27 [.ref o, .int a1, .int a2] M Q := by
  refine Cl.ofM (Nat.le_of_ble_eq_true rfl) rfl ?_
  refine vcc ok27 0 [5] ?_
  exact At.keep [0, 2, 3, 4] H

theorem c_X2_valueOf_5 {G : GT} {d : Nat} {M : Mem} {o : Nat} (O : ObAt 2 M o) {l2 : Int32} {l3 : Int32} {l4 : Int32} {Q : Int64 → Mem → Prop} (H : (l4 < 0 → ((1 : Int32) ≤ l3 → vp_in (0 : Int32) 64 ∧ (Q (vl M (o + 5) ((0 : Int32)).toNatClampNeg) M)) ∧ (¬ (1 : Int32) ≤ l3 → Q (0 : Int64) M)) ∧ (¬ l4 < 0 → (l2 ≤ l4 → ((1 : Int32) ≤ l3 → vp_in (0 : Int32) 64 ∧ (Q (vl M (o + 5) ((0 : Int32)).toNatClampNeg) M)) ∧ (¬ (1 : Int32) ≤ l3 → Q (0 : Int64) M)) ∧ (¬ l2 ≤ l4 → ((400 : Int32) ≤ l4 → ((1 : Int32) ≤ l3 → vp_in (0 : Int32) 64 ∧ (Q (vl M (o + 5) ((0 : Int32)).toNatClampNeg) M)) ∧ (¬ (1 : Int32) ≤ l3 → Q (0 : Int64) M)) ∧ (¬ (400 : Int32) ≤ l4 → vp_in l4 400 ∧ (((200000 : Int32) ≤ (vi M (o + 1) (l4).toNatClampNeg) → (¬ (vi M (o + 1) (l4).toNatClampNeg) = (200011 : Int32) → ((2 : Int32) ≤ l3 → vp_in ((l3 + (-1 : Int32)) - (1 : Int32)) 64 ∧ (vp_in (l3 + (-1 : Int32)) 64 ∧ (CJ G d 29 [.int (vi M (o + 1) (l4).toNatClampNeg), .long (vl M (o + 5) (((l3 + (-1 : Int32)) - (1 : Int32))).toNatClampNeg), .long (vl M (o + 5) ((l3 + (-1 : Int32))).toNatClampNeg)] M (fun v2 M1 => ObAt 2 M1 o ∧ (vp_in ((l3 + (-1 : Int32)) - (1 : Int32)) 64 ∧ (∀ M3, M3 = setl M1 (o + 5) (((l3 + (-1 : Int32)) - (1 : Int32))).toNatClampNeg v2 → At G (d + 1) 27 5 [(0, .ref o), (2, .int l2), (3, .int (l3 + (-1 : Int32))), (4, .int (l4 + (1 : Int32)))] [] M3 (qJ Q))))))) ∧ (¬ (2 : Int32) ≤ l3 → Q (0 : Int64) M)) ∧ ((vi M (o + 1) (l4).toNatClampNeg) = (200011 : Int32) → ((1 : Int32) ≤ l3 → vp_in (l3 - (1 : Int32)) 64 ∧ (vp_in (l3 - (1 : Int32)) 64 ∧ (∀ M4, M4 = setl M (o + 5) ((l3 - (1 : Int32))).toNatClampNeg ((1 : Int64) - (vl M (o + 5) ((l3 - (1 : Int32))).toNatClampNeg)) → At G (d + 1) 27 5 [(0, .ref o), (2, .int l2), (3, .int l3), (4, .int (l4 + (1 : Int32)))] [] M4 (qJ Q)))) ∧ (¬ (1 : Int32) ≤ l3 → Q (0 : Int64) M))) ∧ (¬ (200000 : Int32) ≤ (vi M (o + 1) (l4).toNatClampNeg) → (l3 < (64 : Int32) → ((100000 : Int32) ≤ (vi M (o + 1) (l4).toNatClampNeg) → CJ G d 28 [.ref o, .int ((vi M (o + 1) (l4).toNatClampNeg) - (100000 : Int32))] M (fun v6 M5 => ObAt 2 M5 o ∧ (vp_in l3 64 ∧ (∀ M7, M7 = setl M5 (o + 5) (l3).toNatClampNeg v6 → At G (d + 1) 27 5 [(0, .ref o), (2, .int l2), (3, .int (l3 + (1 : Int32))), (4, .int (l4 + (1 : Int32)))] [] M7 (qJ Q))))) ∧ (¬ (100000 : Int32) ≤ (vi M (o + 1) (l4).toNatClampNeg) → vp_in l3 64 ∧ (∀ M8, M8 = setl M (o + 5) (l3).toNatClampNeg ((vi M (o + 1) (l4).toNatClampNeg)).toInt64 → At G (d + 1) 27 5 [(0, .ref o), (2, .int l2), (3, .int (l3 + (1 : Int32))), (4, .int (l4 + (1 : Int32)))] [] M8 (qJ Q)))) ∧ (¬ l3 < (64 : Int32) → Q (0 : Int64) M))))))) : At G (d + 1) 27 5 [(0, .ref o), (2, .int l2), (3, .int l3), (4, .int l4)] [] M (qJ Q) := by
  refine vcc ok27 4 [] ?_
  refine And.intro (fun c => ?_) (fun c => ?_)
  · replace H := H.1 c
    refine And.intro (fun c => ?_) (fun c => ?_)
    · replace H := H.1 c
      refine And.intro O.1 ?_
      refine Or.inl ⟨_, (ob2_r6 O), ?_⟩
      refine ⟨(ob2_k6 O), vp_cst (ob2_l6 O) H.1, ?_⟩
      replace H := H.2
      exact ⟨_, rfl, H⟩
    · replace H := H.2 c
      exact ⟨_, rfl, H⟩
  · replace H := H.2 c
    refine And.intro (fun c => ?_) (fun c => ?_)
    · replace H := H.1 c
      refine And.intro (fun c => ?_) (fun c => ?_)
      · replace H := H.1 c
        refine And.intro O.1 ?_
        refine Or.inl ⟨_, (ob2_r6 O), ?_⟩
        refine ⟨(ob2_k6 O), vp_cst (ob2_l6 O) H.1, ?_⟩
        replace H := H.2
        exact ⟨_, rfl, H⟩
      · replace H := H.2 c
        exact ⟨_, rfl, H⟩
    · replace H := H.2 c
      refine And.intro (fun c => ?_) (fun c => ?_)
      · replace H := H.1 c
        refine And.intro (fun c => ?_) (fun c => ?_)
        · replace H := H.1 c
          refine And.intro O.1 ?_
          refine Or.inl ⟨_, (ob2_r6 O), ?_⟩
          refine ⟨(ob2_k6 O), vp_cst (ob2_l6 O) H.1, ?_⟩
          replace H := H.2
          exact ⟨_, rfl, H⟩
        · replace H := H.2 c
          exact ⟨_, rfl, H⟩
      · replace H := H.2 c
        refine And.intro O.1 ?_
        refine Or.inl ⟨_, (ob2_r0 O), ?_⟩
        refine Or.inl ⟨(ob2_k0 O), vp_cst (ob2_l0 O) H.1, ?_⟩
        replace H := H.2
        refine And.intro (fun c => ?_) (fun c => ?_)
        · replace H := H.1 c
          refine And.intro (fun c => ?_) (fun c => ?_)
          · replace H := H.1 c
            refine And.intro (fun c => ?_) (fun c => ?_)
            · replace H := H.1 c
              refine And.intro O.1 ?_
              refine Or.inl ⟨_, (ob2_r6 O), ?_⟩
              refine And.intro O.1 ?_
              refine Or.inl ⟨_, (ob2_r6 O), ?_⟩
              refine ⟨(ob2_k6 O), vp_cst (ob2_l6 O) H.1, ?_⟩
              replace H := H.2
              refine And.intro O.1 ?_
              refine Or.inl ⟨_, (ob2_r6 O), ?_⟩
              refine ⟨(ob2_k6 O), vp_cst (ob2_l6 O) H.1, ?_⟩
              replace H := H.2
              refine And.intro (Nat.le_of_ble_eq_true rfl) ?_
              refine And.intro (Nat.le_of_ble_eq_true rfl) ?_
              refine Cl.mono H (fun r M1 h => ?_)
              obtain ⟨v2, rfl, H⟩ := h
              obtain ⟨O, H⟩ := H
              refine ⟨(ob2_k6 O), vp_cst (ob2_l6 O) H.1, ?_⟩
              replace H := H.2
              replace H := H _ rfl
              exact At.keep [0, 2, 3, 4] H
            · replace H := H.2 c
              exact ⟨_, rfl, H⟩
          · replace H := H.2 c
            refine And.intro (fun c => ?_) (fun c => ?_)
            · replace H := H.1 c
              refine And.intro O.1 ?_
              refine Or.inl ⟨_, (ob2_r6 O), ?_⟩
              refine And.intro O.1 ?_
              refine Or.inl ⟨_, (ob2_r6 O), ?_⟩
              refine ⟨(ob2_k6 O), vp_cst (ob2_l6 O) H.1, ?_⟩
              replace H := H.2
              refine ⟨(ob2_k6 O), vp_cst (ob2_l6 O) H.1, ?_⟩
              replace H := H.2
              replace H := H _ rfl
              exact At.keep [0, 2, 3, 4] H
            · replace H := H.2 c
              exact ⟨_, rfl, H⟩
        · replace H := H.2 c
          refine And.intro (fun c => ?_) (fun c => ?_)
          · replace H := H.1 c
            refine And.intro O.1 ?_
            refine Or.inl ⟨_, (ob2_r6 O), ?_⟩
            refine And.intro (fun c => ?_) (fun c => ?_)
            · replace H := H.1 c
              refine And.intro (Nat.le_of_ble_eq_true rfl) ?_
              refine And.intro (Nat.le_of_ble_eq_true rfl) (And.intro O.1 ?_)
              refine Cl.mono H (fun r M5 h => ?_)
              obtain ⟨v6, rfl, H⟩ := h
              obtain ⟨O, H⟩ := H
              refine ⟨(ob2_k6 O), vp_cst (ob2_l6 O) H.1, ?_⟩
              replace H := H.2
              replace H := H _ rfl
              exact At.keep [0, 2, 3, 4] H
            · replace H := H.2 c
              refine ⟨(ob2_k6 O), vp_cst (ob2_l6 O) H.1, ?_⟩
              replace H := H.2
              replace H := H _ rfl
              exact At.keep [0, 2, 3, 4] H
          · replace H := H.2 c
            exact ⟨_, rfl, H⟩

theorem c_X2_wordValue {G : GT} {d : Nat} {M : Mem} {o : Nat} (O : ObAt 2 M o) {a1 : Int32} {Q : Int64 → Mem → Prop} (H : (a1 < 0 → Q (0 : Int64) M) ∧ (¬ a1 < 0 → ((7 : Int32) ≤ a1 → Q (0 : Int64) M) ∧ (¬ (7 : Int32) ≤ a1 → vp_in a1 7 ∧ (Q (vl M (o + 4) (a1).toNatClampNeg) M)))) : CJ G (d + 1) 28 [.ref o, .int a1] M Q := by
  refine Cl.ofM (Nat.le_of_ble_eq_true rfl) rfl ?_
  refine vcc ok28 0 [] ?_
  refine And.intro (fun c => ?_) (fun c => ?_)
  · replace H := H.1 c
    exact ⟨_, rfl, H⟩
  · replace H := H.2 c
    refine And.intro (fun c => ?_) (fun c => ?_)
    · replace H := H.1 c
      exact ⟨_, rfl, H⟩
    · replace H := H.2 c
      refine And.intro O.1 ?_
      refine Or.inl ⟨_, (ob2_r5 O), ?_⟩
      refine ⟨(ob2_k5 O), vp_cst (ob2_l5 O) H.1, ?_⟩
      replace H := H.2
      exact ⟨_, rfl, H⟩

theorem c_X2_join {G : GT} {d : Nat} {M : Mem}  {a1 : Int32} {a2 : Int64} {a3 : Int64} {Q : Int64 → Mem → Prop} (H : ((a1).toInt < 200000 ∨ 200009 < (a1).toInt → Q (a2 ||| a3) M) ∧ ((a1).toInt = 200000 → Q (a2 + a3) M) ∧ ((a1).toInt = 200001 → Q (a2 - a3) M) ∧ ((a1).toInt = 200002 → Q (a2 * a3) M) ∧ ((a1).toInt = 200003 → (¬ (lg_cmp a3 (0 : Int64)) = 0 → ¬ a3 = 0 ∧ (Q (a2 / a3) M)) ∧ ((lg_cmp a3 (0 : Int64)) = 0 → Q (0 : Int64) M)) ∧ ((a1).toInt = 200004 → (0 ≤ (lg_cmp a2 a3) → Q (0 : Int64) M) ∧ (¬ 0 ≤ (lg_cmp a2 a3) → Q (1 : Int64) M)) ∧ ((a1).toInt = 200005 → (0 < (lg_cmp a2 a3) → Q (0 : Int64) M) ∧ (¬ 0 < (lg_cmp a2 a3) → Q (1 : Int64) M)) ∧ ((a1).toInt = 200006 → (¬ (lg_cmp a2 a3) = 0 → Q (0 : Int64) M) ∧ ((lg_cmp a2 a3) = 0 → Q (1 : Int64) M)) ∧ ((a1).toInt = 200007 → ((lg_cmp a2 a3) < 0 → Q (0 : Int64) M) ∧ (¬ (lg_cmp a2 a3) < 0 → Q (1 : Int64) M)) ∧ ((a1).toInt = 200008 → ((lg_cmp a2 a3) ≤ 0 → Q (0 : Int64) M) ∧ (¬ (lg_cmp a2 a3) ≤ 0 → Q (1 : Int64) M)) ∧ ((a1).toInt = 200009 → Q (a2 &&& a3) M) ∧ True) : CJ G (d + 1) 29 [.int a1, .long a2, .long a3] M Q := by
  refine Cl.ofM (Nat.le_of_ble_eq_true rfl) rfl ?_
  refine vcc ok29 0 [] ?_
  refine And.intro (fun c => ?_) ?_
  · replace H := H.1 c
    exact ⟨_, rfl, H⟩
  replace H := H.2
  refine And.intro (fun c => ?_) ?_
  · replace H := H.1 c
    exact ⟨_, rfl, H⟩
  replace H := H.2
  refine And.intro (fun c => ?_) ?_
  · replace H := H.1 c
    exact ⟨_, rfl, H⟩
  replace H := H.2
  refine And.intro (fun c => ?_) ?_
  · replace H := H.1 c
    exact ⟨_, rfl, H⟩
  replace H := H.2
  refine And.intro (fun c => ?_) ?_
  · replace H := H.1 c
    refine And.intro (fun c => ?_) (fun c => ?_)
    · replace H := H.1 c
      refine And.intro H.1 ?_
      replace H := H.2
      exact ⟨_, rfl, H⟩
    · replace H := H.2 c
      exact ⟨_, rfl, H⟩
  replace H := H.2
  refine And.intro (fun c => ?_) ?_
  · replace H := H.1 c
    refine And.intro (fun c => ?_) (fun c => ?_)
    · replace H := H.1 c
      exact ⟨_, rfl, H⟩
    · replace H := H.2 c
      exact ⟨_, rfl, H⟩
  replace H := H.2
  refine And.intro (fun c => ?_) ?_
  · replace H := H.1 c
    refine And.intro (fun c => ?_) (fun c => ?_)
    · replace H := H.1 c
      exact ⟨_, rfl, H⟩
    · replace H := H.2 c
      exact ⟨_, rfl, H⟩
  replace H := H.2
  refine And.intro (fun c => ?_) ?_
  · replace H := H.1 c
    refine And.intro (fun c => ?_) (fun c => ?_)
    · replace H := H.1 c
      exact ⟨_, rfl, H⟩
    · replace H := H.2 c
      exact ⟨_, rfl, H⟩
  replace H := H.2
  refine And.intro (fun c => ?_) ?_
  · replace H := H.1 c
    refine And.intro (fun c => ?_) (fun c => ?_)
    · replace H := H.1 c
      exact ⟨_, rfl, H⟩
    · replace H := H.2 c
      exact ⟨_, rfl, H⟩
  replace H := H.2
  refine And.intro (fun c => ?_) ?_
  · replace H := H.1 c
    refine And.intro (fun c => ?_) (fun c => ?_)
    · replace H := H.1 c
      exact ⟨_, rfl, H⟩
    · replace H := H.2 c
      exact ⟨_, rfl, H⟩
  replace H := H.2
  refine And.intro (fun c => ?_) ?_
  · replace H := H.1 c
    exact ⟨_, rfl, H⟩
  replace H := H.2
  exact trivial
