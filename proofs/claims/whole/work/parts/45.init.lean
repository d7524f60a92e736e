/-! THE CONSTRUCTORS, statement by statement: by program (wip/tools/initall.py) -/
theorem i_X0 {G : GT} {d : Nat} {M : Mem} {o : Nat} (O : mK M o = 1) (F : frM M)  {Q : Mem → Prop} (H : At G (d + 1) 0 4 [(0, .ref o)] [] M (qV Q)) : CV G (d + 1) 0 [.ref o] M Q := by
  refine Cl.ofM (Nat.le_of_ble_eq_true rfl) rfl ?_
  refine vcc ok0 0 [4, 13, 22, 31, 40, 50, 58, 67, 75, 84, 92] ?_
  refine And.intro (Nat.le_of_ble_eq_true rfl) ?_
  exact H

theorem i_X0_4 {G : GT} {d : Nat} {M : Mem} {o : Nat} (O : mK M o = 1) (F : frM M)  {Q : Mem → Prop} (H : ¬ (400 : Int32) < 0 ∧ ((400 : Int32)).toNatClampNeg ≤ 1000000 ∧ ∀ M1, M1 = mnew M 15 ((400 : Int32)).toNatClampNeg → ∀ M2, M2 = setr M1 o 0 (some (mN M)) → At G (d + 1) 0 13 [(0, .ref o)] [] M2 (qV Q)) : At G (d + 1) 0 4 [(0, .ref o)] [] M (qV Q) := by
  refine vcc ok0 2 [13, 22, 31, 40, 50, 58, 67, 75, 84, 92] ?_
  refine And.intro H.1 (And.intro H.2.1 ?_)
  replace H := H.2.2 _ rfl
  refine And.intro ((mk_mnew F O) :) ?_
  refine And.intro rfl ?_
  replace H := H _ rfl
  exact H

theorem i_X0_13 {G : GT} {d : Nat} {M : Mem} {o : Nat} (O : mK M o = 1) (F : frM M)  {Q : Mem → Prop} (H : ¬ (401 : Int32) < 0 ∧ ((401 : Int32)).toNatClampNeg ≤ 1000000 ∧ ∀ M3, M3 = mnew M 15 ((401 : Int32)).toNatClampNeg → ∀ M4, M4 = setr M3 o 2 (some (mN M)) → At G (d + 1) 0 22 [(0, .ref o)] [] M4 (qV Q)) : At G (d + 1) 0 13 [(0, .ref o)] [] M (qV Q) := by
  refine vcc ok0 6 [4, 22, 31, 40, 50, 58, 67, 75, 84, 92] ?_
  refine And.intro H.1 (And.intro H.2.1 ?_)
  replace H := H.2.2 _ rfl
  refine And.intro ((mk_mnew F O) :) ?_
  refine And.intro rfl ?_
  replace H := H _ rfl
  exact H

theorem i_X0_22 {G : GT} {d : Nat} {M : Mem} {o : Nat} (O : mK M o = 1) (F : frM M)  {Q : Mem → Prop} (H : ¬ (401 : Int32) < 0 ∧ ((401 : Int32)).toNatClampNeg ≤ 1000000 ∧ ∀ M5, M5 = mnew M 15 ((401 : Int32)).toNatClampNeg → ∀ M6, M6 = setr M5 o 3 (some (mN M)) → At G (d + 1) 0 31 [(0, .ref o)] [] M6 (qV Q)) : At G (d + 1) 0 22 [(0, .ref o)] [] M (qV Q) := by
  refine vcc ok0 10 [4, 13, 31, 40, 50, 58, 67, 75, 84, 92] ?_
  refine And.intro H.1 (And.intro H.2.1 ?_)
  replace H := H.2.2 _ rfl
  refine And.intro ((mk_mnew F O) :) ?_
  refine And.intro rfl ?_
  replace H := H _ rfl
  exact H

theorem i_X0_31 {G : GT} {d : Nat} {M : Mem} {o : Nat} (O : mK M o = 1) (F : frM M)  {Q : Mem → Prop} (H : ¬ (200 : Int32) < 0 ∧ ((200 : Int32)).toNatClampNeg ≤ 1000000 ∧ ∀ M7, M7 = mnew M 15 ((200 : Int32)).toNatClampNeg → ∀ M8, M8 = setr M7 o 4 (some (mN M)) → At G (d + 1) 0 40 [(0, .ref o)] [] M8 (qV Q)) : At G (d + 1) 0 31 [(0, .ref o)] [] M (qV Q) := by
  refine vcc ok0 14 [4, 13, 22, 40, 50, 58, 67, 75, 84, 92] ?_
  refine And.intro H.1 (And.intro H.2.1 ?_)
  replace H := H.2.2 _ rfl
  refine And.intro ((mk_mnew F O) :) ?_
  refine And.intro rfl ?_
  replace H := H _ rfl
  exact H

theorem i_X0_40 {G : GT} {d : Nat} {M : Mem} {o : Nat} (O : mK M o = 1) (F : frM M)  {Q : Mem → Prop} (H : ¬ (201 : Int32) < 0 ∧ ((201 : Int32)).toNatClampNeg ≤ 1000000 ∧ ∀ M9, M9 = mnew M 19 ((201 : Int32)).toNatClampNeg → ∀ M10, M10 = setr M9 o 5 (some (mN M)) → At G (d + 1) 0 50 [(0, .ref o)] [] M10 (qV Q)) : At G (d + 1) 0 40 [(0, .ref o)] [] M (qV Q) := by
  refine vcc ok0 18 [4, 13, 22, 31, 50, 58, 67, 75, 84, 92] ?_
  refine And.intro H.1 (And.intro H.2.1 ?_)
  replace H := H.2.2 _ rfl
  refine And.intro ((mk_mnew F O) :) ?_
  refine And.intro rfl ?_
  replace H := H _ rfl
  exact H

theorem i_X0_50 {G : GT} {d : Nat} {M : Mem} {o : Nat} (O : mK M o = 1) (F : frM M)  {Q : Mem → Prop} (H : ¬ (64 : Int32) < 0 ∧ ((64 : Int32)).toNatClampNeg ≤ 1000000 ∧ ∀ M11, M11 = mnew M 15 ((64 : Int32)).toNatClampNeg → ∀ M12, M12 = setr M11 o 6 (some (mN M)) → At G (d + 1) 0 58 [(0, .ref o)] [] M12 (qV Q)) : At G (d + 1) 0 50 [(0, .ref o)] [] M (qV Q) := by
  refine vcc ok0 22 [4, 13, 22, 31, 40, 58, 67, 75, 84, 92] ?_
  refine And.intro H.1 (And.intro H.2.1 ?_)
  replace H := H.2.2 _ rfl
  refine And.intro ((mk_mnew F O) :) ?_
  refine And.intro rfl ?_
  replace H := H _ rfl
  exact H

theorem i_X0_58 {G : GT} {d : Nat} {M : Mem} {o : Nat} (O : mK M o = 1) (F : frM M)  {Q : Mem → Prop} (H : ¬ (12 : Int32) < 0 ∧ ((12 : Int32)).toNatClampNeg ≤ 1000000 ∧ ∀ M13, M13 = mnew M 19 ((12 : Int32)).toNatClampNeg → ∀ M14, M14 = setr M13 o 7 (some (mN M)) → At G (d + 1) 0 67 [(0, .ref o)] [] M14 (qV Q)) : At G (d + 1) 0 58 [(0, .ref o)] [] M (qV Q) := by
  refine vcc ok0 26 [4, 13, 22, 31, 40, 50, 67, 75, 84, 92] ?_
  refine And.intro H.1 (And.intro H.2.1 ?_)
  replace H := H.2.2 _ rfl
  refine And.intro ((mk_mnew F O) :) ?_
  refine And.intro rfl ?_
  replace H := H _ rfl
  exact H

theorem i_X0_67 {G : GT} {d : Nat} {M : Mem} {o : Nat} (O : mK M o = 1) (F : frM M)  {Q : Mem → Prop} (H : ¬ (12 : Int32) < 0 ∧ ((12 : Int32)).toNatClampNeg ≤ 1000000 ∧ ∀ M15, M15 = mnew M 15 ((12 : Int32)).toNatClampNeg → ∀ M16, M16 = setr M15 o 8 (some (mN M)) → At G (d + 1) 0 75 [(0, .ref o)] [] M16 (qV Q)) : At G (d + 1) 0 67 [(0, .ref o)] [] M (qV Q) := by
  refine vcc ok0 30 [4, 13, 22, 31, 40, 50, 58, 75, 84, 92] ?_
  refine And.intro H.1 (And.intro H.2.1 ?_)
  replace H := H.2.2 _ rfl
  refine And.intro ((mk_mnew F O) :) ?_
  refine And.intro rfl ?_
  replace H := H _ rfl
  exact H

theorem i_X0_75 {G : GT} {d : Nat} {M : Mem} {o : Nat} (O : mK M o = 1) (F : frM M)  {Q : Mem → Prop} (H : ¬ (12 : Int32) < 0 ∧ ((12 : Int32)).toNatClampNeg ≤ 1000000 ∧ ∀ M17, M17 = mnew M 19 ((12 : Int32)).toNatClampNeg → ∀ M18, M18 = setr M17 o 9 (some (mN M)) → At G (d + 1) 0 84 [(0, .ref o)] [] M18 (qV Q)) : At G (d + 1) 0 75 [(0, .ref o)] [] M (qV Q) := by
  refine vcc ok0 34 [4, 13, 22, 31, 40, 50, 58, 67, 84, 92] ?_
  refine And.intro H.1 (And.intro H.2.1 ?_)
  replace H := H.2.2 _ rfl
  refine And.intro ((mk_mnew F O) :) ?_
  refine And.intro rfl ?_
  replace H := H _ rfl
  exact H

theorem i_X0_84 {G : GT} {d : Nat} {M : Mem} {o : Nat} (O : mK M o = 1) (F : frM M)  {Q : Mem → Prop} (H : ¬ (12 : Int32) < 0 ∧ ((12 : Int32)).toNatClampNeg ≤ 1000000 ∧ ∀ M19, M19 = mnew M 15 ((12 : Int32)).toNatClampNeg → ∀ M20, M20 = setr M19 o 10 (some (mN M)) → At G (d + 1) 0 92 [] [] M20 (qV Q)) : At G (d + 1) 0 84 [(0, .ref o)] [] M (qV Q) := by
  refine vcc ok0 38 [4, 13, 22, 31, 40, 50, 58, 67, 75, 92] ?_
  refine And.intro H.1 (And.intro H.2.1 ?_)
  replace H := H.2.2 _ rfl
  refine And.intro ((mk_mnew F O) :) ?_
  refine And.intro rfl ?_
  replace H := H _ rfl
  exact At.keep [] H

theorem i_X0_92 {G : GT} {d : Nat} {M : Mem} {o : Nat} (O : mK M o = 1) (F : frM M)  {Q : Mem → Prop} (H : Q M) : At G (d + 1) 0 92 [] [] M (qV Q) := by
  refine vcc ok0 42 [4, 13, 22, 31, 40, 50, 58, 67, 75, 84] ?_
  exact ⟨rfl, H⟩

theorem i_X1 {G : GT} {d : Nat} {M : Mem} {o : Nat} (O : mK M o = 2) (F : frM M)  {Q : Mem → Prop} (H : At G (d + 1) 14 4 [(0, .ref o)] [] M (qV Q)) : CV G (d + 1) 14 [.ref o] M Q := by
  refine Cl.ofM (Nat.le_of_ble_eq_true rfl) rfl ?_
  refine vcc ok14 0 [4, 9, 18, 27, 36] ?_
  refine And.intro (Nat.le_of_ble_eq_true rfl) ?_
  exact H

theorem i_X1_4 {G : GT} {d : Nat} {M : Mem} {o : Nat} (O : mK M o = 2) (F : frM M)  {Q : Mem → Prop} (H : ∀ M1, M1 = seti M o 0 (-1 : Int32) → At G (d + 1) 14 9 [(0, .ref o)] [] M1 (qV Q)) : At G (d + 1) 14 4 [(0, .ref o)] [] M (qV Q) := by
  refine vcc ok14 2 [9, 18, 27, 36] ?_
  refine And.intro O ?_
  refine And.intro (Or.inl rfl) (And.intro (fun h => absurd h (by decide)) ?_)
  replace H := H _ rfl
  exact H

theorem i_X1_9 {G : GT} {d : Nat} {M : Mem} {o : Nat} (O : mK M o = 2) (F : frM M)  {Q : Mem → Prop} (H : ¬ (400 : Int32) < 0 ∧ ((400 : Int32)).toNatClampNeg ≤ 1000000 ∧ ∀ M2, M2 = mnew M 15 ((400 : Int32)).toNatClampNeg → ∀ M3, M3 = setr M2 o 3 (some (mN M)) → At G (d + 1) 14 18 [(0, .ref o)] [] M3 (qV Q)) : At G (d + 1) 14 9 [(0, .ref o)] [] M (qV Q) := by
  refine vcc ok14 5 [4, 18, 27, 36] ?_
  refine And.intro H.1 (And.intro H.2.1 ?_)
  replace H := H.2.2 _ rfl
  refine And.intro ((mk_mnew F O) :) ?_
  refine And.intro rfl ?_
  replace H := H _ rfl
  exact H

theorem i_X1_18 {G : GT} {d : Nat} {M : Mem} {o : Nat} (O : mK M o = 2) (F : frM M)  {Q : Mem → Prop} (H : ¬ (2000 : Int32) < 0 ∧ ((2000 : Int32)).toNatClampNeg ≤ 1000000 ∧ ∀ M4, M4 = mnew M 16 ((2000 : Int32)).toNatClampNeg → ∀ M5, M5 = setr M4 o 4 (some (mN M)) → At G (d + 1) 14 27 [(0, .ref o)] [] M5 (qV Q)) : At G (d + 1) 14 18 [(0, .ref o)] [] M (qV Q) := by
  refine vcc ok14 9 [4, 9, 27, 36] ?_
  refine And.intro H.1 (And.intro H.2.1 ?_)
  replace H := H.2.2 _ rfl
  refine And.intro ((mk_mnew F O) :) ?_
  refine And.intro rfl ?_
  replace H := H _ rfl
  exact H

theorem i_X1_27 {G : GT} {d : Nat} {M : Mem} {o : Nat} (O : mK M o = 2) (F : frM M)  {Q : Mem → Prop} (H : ¬ (201 : Int32) < 0 ∧ ((201 : Int32)).toNatClampNeg ≤ 1000000 ∧ ∀ M6, M6 = mnew M 15 ((201 : Int32)).toNatClampNeg → ∀ M7, M7 = setr M6 o 5 (some (mN M)) → At G (d + 1) 14 36 [] [] M7 (qV Q)) : At G (d + 1) 14 27 [(0, .ref o)] [] M (qV Q) := by
  refine vcc ok14 13 [4, 9, 18, 36] ?_
  refine And.intro H.1 (And.intro H.2.1 ?_)
  replace H := H.2.2 _ rfl
  refine And.intro ((mk_mnew F O) :) ?_
  refine And.intro rfl ?_
  replace H := H _ rfl
  exact At.keep [] H

theorem i_X1_36 {G : GT} {d : Nat} {M : Mem} {o : Nat} (O : mK M o = 2) (F : frM M)  {Q : Mem → Prop} (H : Q M) : At G (d + 1) 14 36 [] [] M (qV Q) := by
  refine vcc ok14 17 [4, 9, 18, 27] ?_
  exact ⟨rfl, H⟩

theorem i_X2 {G : GT} {d : Nat} {M : Mem} {o : Nat} (O : mK M o = 3) (F : frM M)  {Q : Mem → Prop} (H : At G (d + 1) 20 4 [(0, .ref o)] [] M (qV Q)) : CV G (d + 1) 20 [.ref o] M Q := by
  refine Cl.ofM (Nat.le_of_ble_eq_true rfl) rfl ?_
  refine vcc ok20 0 [4, 13, 21, 29, 37, 45] ?_
  refine And.intro (Nat.le_of_ble_eq_true rfl) ?_
  exact H

theorem i_X2_4 {G : GT} {d : Nat} {M : Mem} {o : Nat} (O : mK M o = 3) (F : frM M)  {Q : Mem → Prop} (H : ¬ (400 : Int32) < 0 ∧ ((400 : Int32)).toNatClampNeg ≤ 1000000 ∧ ∀ M1, M1 = mnew M 15 ((400 : Int32)).toNatClampNeg → ∀ M2, M2 = setr M1 o 0 (some (mN M)) → At G (d + 1) 20 13 [(0, .ref o)] [] M2 (qV Q)) : At G (d + 1) 20 4 [(0, .ref o)] [] M (qV Q) := by
  refine vcc ok20 2 [13, 21, 29, 37, 45] ?_
  refine And.intro H.1 (And.intro H.2.1 ?_)
  replace H := H.2.2 _ rfl
  refine And.intro ((mk_mnew F O) :) ?_
  refine And.intro rfl ?_
  replace H := H _ rfl
  exact H

theorem i_X2_13 {G : GT} {d : Nat} {M : Mem} {o : Nat} (O : mK M o = 3) (F : frM M)  {Q : Mem → Prop} (H : ¬ (12 : Int32) < 0 ∧ ((12 : Int32)).toNatClampNeg ≤ 1000000 ∧ ∀ M3, M3 = mnew M 15 ((12 : Int32)).toNatClampNeg → ∀ M4, M4 = setr M3 o 2 (some (mN M)) → At G (d + 1) 20 21 [(0, .ref o)] [] M4 (qV Q)) : At G (d + 1) 20 13 [(0, .ref o)] [] M (qV Q) := by
  refine vcc ok20 6 [4, 21, 29, 37, 45] ?_
  refine And.intro H.1 (And.intro H.2.1 ?_)
  replace H := H.2.2 _ rfl
  refine And.intro ((mk_mnew F O) :) ?_
  refine And.intro rfl ?_
  replace H := H _ rfl
  exact H

theorem i_X2_21 {G : GT} {d : Nat} {M : Mem} {o : Nat} (O : mK M o = 3) (F : frM M)  {Q : Mem → Prop} (H : ¬ (12 : Int32) < 0 ∧ ((12 : Int32)).toNatClampNeg ≤ 1000000 ∧ ∀ M5, M5 = mnew M 15 ((12 : Int32)).toNatClampNeg → ∀ M6, M6 = setr M5 o 3 (some (mN M)) → At G (d + 1) 20 29 [(0, .ref o)] [] M6 (qV Q)) : At G (d + 1) 20 21 [(0, .ref o)] [] M (qV Q) := by
  refine vcc ok20 10 [4, 13, 29, 37, 45] ?_
  refine And.intro H.1 (And.intro H.2.1 ?_)
  replace H := H.2.2 _ rfl
  refine And.intro ((mk_mnew F O) :) ?_
  refine And.intro rfl ?_
  replace H := H _ rfl
  exact H

theorem i_X2_29 {G : GT} {d : Nat} {M : Mem} {o : Nat} (O : mK M o = 3) (F : frM M)  {Q : Mem → Prop} (H : ¬ (7 : Int32) < 0 ∧ ((7 : Int32)).toNatClampNeg ≤ 1000000 ∧ ∀ M7, M7 = mnew M 16 ((7 : Int32)).toNatClampNeg → ∀ M8, M8 = setr M7 o 5 (some (mN M)) → At G (d + 1) 20 37 [(0, .ref o)] [] M8 (qV Q)) : At G (d + 1) 20 29 [(0, .ref o)] [] M (qV Q) := by
  refine vcc ok20 14 [4, 13, 21, 37, 45] ?_
  refine And.intro H.1 (And.intro H.2.1 ?_)
  replace H := H.2.2 _ rfl
  refine And.intro ((mk_mnew F O) :) ?_
  refine And.intro rfl ?_
  replace H := H _ rfl
  exact H

theorem i_X2_37 {G : GT} {d : Nat} {M : Mem} {o : Nat} (O : mK M o = 3) (F : frM M)  {Q : Mem → Prop} (H : ¬ (64 : Int32) < 0 ∧ ((64 : Int32)).toNatClampNeg ≤ 1000000 ∧ ∀ M9, M9 = mnew M 16 ((64 : Int32)).toNatClampNeg → ∀ M10, M10 = setr M9 o 6 (some (mN M)) → At G (d + 1) 20 45 [] [] M10 (qV Q)) : At G (d + 1) 20 37 [(0, .ref o)] [] M (qV Q) := by
  refine vcc ok20 18 [4, 13, 21, 29, 45] ?_
  refine And.intro H.1 (And.intro H.2.1 ?_)
  replace H := H.2.2 _ rfl
  refine And.intro ((mk_mnew F O) :) ?_
  refine And.intro rfl ?_
  replace H := H _ rfl
  exact At.keep [] H

theorem i_X2_45 {G : GT} {d : Nat} {M : Mem} {o : Nat} (O : mK M o = 3) (F : frM M)  {Q : Mem → Prop} (H : Q M) : At G (d + 1) 20 45 [] [] M (qV Q) := by
  refine vcc ok20 22 [4, 13, 21, 29, 37] ?_
  exact ⟨rfl, H⟩

theorem i_X3 {G : GT} {d : Nat} {M : Mem} {o : Nat} (O : mK M o = 4) {a1 : Nat} (F : frM M)  {Q : Mem → Prop} (H : At G (d + 1) 30 4 [(0, .ref o), (1, .ref a1)] [] M (qV Q)) : CV G (d + 1) 30 [.ref o, .ref a1] M Q := by
  refine Cl.ofM (Nat.le_of_ble_eq_true rfl) rfl ?_
  refine vcc ok30 0 [4, 15, 20] ?_
  refine And.intro (Nat.le_of_ble_eq_true rfl) ?_
  exact H

theorem i_X3_4 {G : GT} {d : Nat} {M : Mem} {o : Nat} (O : mK M o = 4) {a1 : Nat} (F : frM M)  {Q : Mem → Prop} (H : ∀ M1, M1 = mnew M 3 7 → CV G d 20 [.ref (mN M)] M1 (fun M2 => (mK M2 o = 4 ∧ frM M2) ∧ (∀ M3, M3 = setr M2 o 1 (some (mN M)) → At G (d + 1) 30 15 [(0, .ref o), (1, .ref a1)] [] M3 (qV Q)))) : At G (d + 1) 30 4 [(0, .ref o), (1, .ref a1)] [] M (qV Q) := by
  refine vcc ok30 2 [15, 20] ?_
  replace H := H _ rfl
  refine And.intro (Nat.le_of_ble_eq_true rfl) ?_
  refine And.intro (Nat.le_of_ble_eq_true rfl) ?_
  refine Cl.mono H (fun r M2 h => ?_)
  obtain ⟨rfl, H⟩ := h
  obtain ⟨⟨O, F⟩, H⟩ := H
  refine And.intro O ?_
  refine And.intro rfl ?_
  replace H := H _ rfl
  exact H

theorem i_X3_15 {G : GT} {d : Nat} {M : Mem} {o : Nat} (O : mK M o = 4) {a1 : Nat} (F : frM M)  {Q : Mem → Prop} (H : ∀ M4, M4 = setr M o 0 (some a1) → At G (d + 1) 30 20 [] [] M4 (qV Q)) : At G (d + 1) 30 15 [(0, .ref o), (1, .ref a1)] [] M (qV Q) := by
  refine vcc ok30 7 [4, 20] ?_
  refine And.intro O ?_
  refine And.intro rfl ?_
  replace H := H _ rfl
  exact At.keep [] H

theorem i_X3_20 {G : GT} {d : Nat} {M : Mem} {o : Nat} (O : mK M o = 4) {a1 : Nat} (F : frM M)  {Q : Mem → Prop} (H : Q M) : At G (d + 1) 30 20 [] [] M (qV Q) := by
  refine vcc ok30 10 [4, 15] ?_
  exact ⟨rfl, H⟩

theorem i_X4 {G : GT} {d : Nat} {M : Mem} {o : Nat} (O : mK M o = 5) (F : frM M)  {Q : Mem → Prop} (H : At G (d + 1) 39 4 [(0, .ref o)] [] M (qV Q)) : CV G (d + 1) 39 [.ref o] M Q := by
  refine Cl.ofM (Nat.le_of_ble_eq_true rfl) rfl ?_
  refine vcc ok39 0 [4, 13, 22, 31, 40] ?_
  refine And.intro (Nat.le_of_ble_eq_true rfl) ?_
  exact H

theorem i_X4_4 {G : GT} {d : Nat} {M : Mem} {o : Nat} (O : mK M o = 5) (F : frM M)  {Q : Mem → Prop} (H : ¬ (400 : Int32) < 0 ∧ ((400 : Int32)).toNatClampNeg ≤ 1000000 ∧ ∀ M1, M1 = mnew M 15 ((400 : Int32)).toNatClampNeg → ∀ M2, M2 = setr M1 o 1 (some (mN M)) → At G (d + 1) 39 13 [(0, .ref o)] [] M2 (qV Q)) : At G (d + 1) 39 4 [(0, .ref o)] [] M (qV Q) := by
  refine vcc ok39 2 [13, 22, 31, 40] ?_
  refine And.intro H.1 (And.intro H.2.1 ?_)
  replace H := H.2.2 _ rfl
  refine And.intro ((mk_mnew F O) :) ?_
  refine And.intro rfl ?_
  replace H := H _ rfl
  exact H

theorem i_X4_13 {G : GT} {d : Nat} {M : Mem} {o : Nat} (O : mK M o = 5) (F : frM M)  {Q : Mem → Prop} (H : ¬ (400 : Int32) < 0 ∧ ((400 : Int32)).toNatClampNeg ≤ 1000000 ∧ ∀ M3, M3 = mnew M 15 ((400 : Int32)).toNatClampNeg → ∀ M4, M4 = setr M3 o 2 (some (mN M)) → At G (d + 1) 39 22 [(0, .ref o)] [] M4 (qV Q)) : At G (d + 1) 39 13 [(0, .ref o)] [] M (qV Q) := by
  refine vcc ok39 6 [4, 22, 31, 40] ?_
  refine And.intro H.1 (And.intro H.2.1 ?_)
  replace H := H.2.2 _ rfl
  refine And.intro ((mk_mnew F O) :) ?_
  refine And.intro rfl ?_
  replace H := H _ rfl
  exact H

theorem i_X4_22 {G : GT} {d : Nat} {M : Mem} {o : Nat} (O : mK M o = 5) (F : frM M)  {Q : Mem → Prop} (H : ¬ (400 : Int32) < 0 ∧ ((400 : Int32)).toNatClampNeg ≤ 1000000 ∧ ∀ M5, M5 = mnew M 15 ((400 : Int32)).toNatClampNeg → ∀ M6, M6 = setr M5 o 3 (some (mN M)) → At G (d + 1) 39 31 [(0, .ref o)] [] M6 (qV Q)) : At G (d + 1) 39 22 [(0, .ref o)] [] M (qV Q) := by
  refine vcc ok39 10 [4, 13, 31, 40] ?_
  refine And.intro H.1 (And.intro H.2.1 ?_)
  replace H := H.2.2 _ rfl
  refine And.intro ((mk_mnew F O) :) ?_
  refine And.intro rfl ?_
  replace H := H _ rfl
  exact H

theorem i_X4_31 {G : GT} {d : Nat} {M : Mem} {o : Nat} (O : mK M o = 5) (F : frM M)  {Q : Mem → Prop} (H : ¬ (400 : Int32) < 0 ∧ ((400 : Int32)).toNatClampNeg ≤ 1000000 ∧ ∀ M7, M7 = mnew M 15 ((400 : Int32)).toNatClampNeg → ∀ M8, M8 = setr M7 o 5 (some (mN M)) → At G (d + 1) 39 40 [] [] M8 (qV Q)) : At G (d + 1) 39 31 [(0, .ref o)] [] M (qV Q) := by
  refine vcc ok39 14 [4, 13, 22, 40] ?_
  refine And.intro H.1 (And.intro H.2.1 ?_)
  replace H := H.2.2 _ rfl
  refine And.intro ((mk_mnew F O) :) ?_
  refine And.intro rfl ?_
  replace H := H _ rfl
  exact At.keep [] H

theorem i_X4_40 {G : GT} {d : Nat} {M : Mem} {o : Nat} (O : mK M o = 5) (F : frM M)  {Q : Mem → Prop} (H : Q M) : At G (d + 1) 39 40 [] [] M (qV Q) := by
  refine vcc ok39 18 [4, 13, 22, 31] ?_
  exact ⟨rfl, H⟩

theorem i_X5 {G : GT} {d : Nat} {M : Mem} {o : Nat} (O : mK M o = 6) {a5 : Nat} (F : frM M) {a1 : Int32} {a2 : Int32} {a3 : Int32} {a4 : Int32} {Q : Mem → Prop} (H : At G (d + 1) 47 4 [(0, .ref o), (1, .int a1), (2, .int a2), (3, .int a3), (4, .int a4), (5, .ref a5)] [] M (qV Q)) : CV G (d + 1) 47 [.ref o, .int a1, .int a2, .int a3, .int a4, .ref a5] M Q := by
  refine Cl.ofM (Nat.le_of_ble_eq_true rfl) rfl ?_
  refine vcc ok47 0 [4, 9, 14, 19, 25, 31, 49, 69, 89] ?_
  refine And.intro (Nat.le_of_ble_eq_true rfl) ?_
  exact H

theorem i_X5_4 {G : GT} {d : Nat} {M : Mem} {o : Nat} (O : mK M o = 6) {a5 : Nat} (F : frM M) {l1 : Int32} {l2 : Int32} {l3 : Int32} {l4 : Int32} {Q : Mem → Prop} (H : ∀ M1, M1 = seti M o 0 l1 → At G (d + 1) 47 9 [(0, .ref o), (2, .int l2), (3, .int l3), (4, .int l4), (5, .ref a5)] [] M1 (qV Q)) : At G (d + 1) 47 4 [(0, .ref o), (1, .int l1), (2, .int l2), (3, .int l3), (4, .int l4), (5, .ref a5)] [] M (qV Q) := by
  refine vcc ok47 2 [9, 14, 19, 25, 31, 49, 69, 89] ?_
  refine And.intro O ?_
  refine And.intro (Or.inl rfl) (And.intro (fun h => absurd h (by decide)) ?_)
  replace H := H _ rfl
  exact At.keep [0, 2, 3, 4, 5] H

theorem i_X5_9 {G : GT} {d : Nat} {M : Mem} {o : Nat} (O : mK M o = 6) {a5 : Nat} (F : frM M) {l2 : Int32} {l3 : Int32} {l4 : Int32} {Q : Mem → Prop} (H : ∀ M2, M2 = seti M o 1 l2 → At G (d + 1) 47 14 [(0, .ref o), (2, .int l2), (3, .int l3), (4, .int l4), (5, .ref a5)] [] M2 (qV Q)) : At G (d + 1) 47 9 [(0, .ref o), (2, .int l2), (3, .int l3), (4, .int l4), (5, .ref a5)] [] M (qV Q) := by
  refine vcc ok47 5 [4, 14, 19, 25, 31, 49, 69, 89] ?_
  refine And.intro O ?_
  refine And.intro (Or.inl rfl) (And.intro (fun h => absurd h (by decide)) ?_)
  replace H := H _ rfl
  exact H

theorem i_X5_14 {G : GT} {d : Nat} {M : Mem} {o : Nat} (O : mK M o = 6) {a5 : Nat} (F : frM M) {l2 : Int32} {l3 : Int32} {l4 : Int32} {Q : Mem → Prop} (H : ∀ M3, M3 = seti M o 2 l3 → At G (d + 1) 47 19 [(0, .ref o), (2, .int l2), (3, .int l3), (4, .int l4), (5, .ref a5)] [] M3 (qV Q)) : At G (d + 1) 47 14 [(0, .ref o), (2, .int l2), (3, .int l3), (4, .int l4), (5, .ref a5)] [] M (qV Q) := by
  refine vcc ok47 8 [4, 9, 19, 25, 31, 49, 69, 89] ?_
  refine And.intro O ?_
  refine And.intro (Or.inl rfl) (And.intro (fun h => absurd h (by decide)) ?_)
  replace H := H _ rfl
  exact H

theorem i_X5_19 {G : GT} {d : Nat} {M : Mem} {o : Nat} (O : mK M o = 6) {a5 : Nat} (F : frM M) {l2 : Int32} {l3 : Int32} {l4 : Int32} {Q : Mem → Prop} (H : ∀ M4, M4 = seti M o 3 l4 → At G (d + 1) 47 25 [(0, .ref o), (2, .int l2), (3, .int l3), (4, .int l4), (5, .ref a5)] [] M4 (qV Q)) : At G (d + 1) 47 19 [(0, .ref o), (2, .int l2), (3, .int l3), (4, .int l4), (5, .ref a5)] [] M (qV Q) := by
  refine vcc ok47 11 [4, 9, 14, 25, 31, 49, 69, 89] ?_
  refine And.intro O ?_
  refine And.intro (Or.inl rfl) (And.intro (fun h => absurd h (by decide)) ?_)
  replace H := H _ rfl
  exact H

theorem i_X5_25 {G : GT} {d : Nat} {M : Mem} {o : Nat} (O : mK M o = 6) {a5 : Nat} (F : frM M) {l2 : Int32} {l3 : Int32} {l4 : Int32} {Q : Mem → Prop} (H : ∀ M5, M5 = setr M o 5 (some a5) → At G (d + 1) 47 31 [(0, .ref o), (2, .int l2), (3, .int l3), (4, .int l4), (5, .ref a5)] [] M5 (qV Q)) : At G (d + 1) 47 25 [(0, .ref o), (2, .int l2), (3, .int l3), (4, .int l4), (5, .ref a5)] [] M (qV Q) := by
  refine vcc ok47 14 [4, 9, 14, 19, 31, 49, 69, 89] ?_
  refine And.intro O ?_
  refine And.intro rfl ?_
  replace H := H _ rfl
  exact H

theorem i_X5_31 {G : GT} {d : Nat} {M : Mem} {o : Nat} (O : mK M o = 6) {a5 : Nat} (F : frM M) {l2 : Int32} {l3 : Int32} {l4 : Int32} {Q : Mem → Prop} (H : (14 ≤ mK M a5 ∧ mK M a5 ≤ 21) ∧ (∀ M6, M6 = seti M o 4 (nI (mA M a5)) → At G (d + 1) 47 49 [(0, .ref o), (2, .int l2), (3, .int l3), (4, .int l4)] [] M6 (qV Q))) : At G (d + 1) 47 31 [(0, .ref o), (2, .int l2), (3, .int l3), (4, .int l4), (5, .ref a5)] [] M (qV Q) := by
  refine vcc ok47 17 [4, 9, 14, 19, 25, 49, 69, 89] ?_
  refine Or.inl ⟨H.1, ?_⟩
  replace H := H.2
  refine And.intro O ?_
  refine And.intro (Or.inl rfl) (And.intro (fun h => absurd h (by decide)) ?_)
  replace H := H _ rfl
  exact At.keep [0, 2, 3, 4] H

theorem i_X5_49 {G : GT} {d : Nat} {M : Mem} {o : Nat} (O : mK M o = 6) {a5 : Nat} (F : frM M) {l2 : Int32} {l3 : Int32} {l4 : Int32} {Q : Mem → Prop} (H : (¬ l4 = (-1 : Int32) → ∀ M7, M7 = seti M o 6 (if l4 < l2 then l4 else l2) → At G (d + 1) 47 69 [(0, .ref o), (3, .int l3), (4, .int l4)] [] M7 (qV Q)) ∧ (l4 = (-1 : Int32) → ∀ M8, M8 = seti M o 6 l2 → At G (d + 1) 47 69 [(0, .ref o), (3, .int l3), (4, .int l4)] [] M8 (qV Q))) : At G (d + 1) 47 49 [(0, .ref o), (2, .int l2), (3, .int l3), (4, .int l4)] [] M (qV Q) := by
  refine vcc ok47 27 [4, 9, 14, 19, 25, 31, 69, 89] ?_
  refine And.intro (fun c => ?_) (fun c => ?_)
  · replace H := H.1 c
    refine And.intro (Nat.le_of_ble_eq_true rfl) ?_
    refine And.intro O ?_
    refine And.intro (Or.inl rfl) (And.intro (fun h => absurd h (by decide)) ?_)
    replace H := H _ rfl
    exact At.keep [0, 3, 4] H
  · replace H := H.2 c
    refine And.intro O ?_
    refine And.intro (Or.inl rfl) (And.intro (fun h => absurd h (by decide)) ?_)
    replace H := H _ rfl
    exact At.keep [0, 3, 4] H

theorem i_X5_69 {G : GT} {d : Nat} {M : Mem} {o : Nat} (O : mK M o = 6) {a5 : Nat} (F : frM M) {l3 : Int32} {l4 : Int32} {Q : Mem → Prop} (H : (¬ l4 = (-1 : Int32) → ∀ M9, M9 = seti M o 7 (if l3 < l4 then l4 else l3) → At G (d + 1) 47 89 [] [] M9 (qV Q)) ∧ (l4 = (-1 : Int32) → ∀ M10, M10 = seti M o 7 l3 → At G (d + 1) 47 89 [] [] M10 (qV Q))) : At G (d + 1) 47 69 [(0, .ref o), (3, .int l3), (4, .int l4)] [] M (qV Q) := by
  refine vcc ok47 37 [4, 9, 14, 19, 25, 31, 49, 89] ?_
  refine And.intro (fun c => ?_) (fun c => ?_)
  · replace H := H.1 c
    refine And.intro (Nat.le_of_ble_eq_true rfl) ?_
    refine And.intro O ?_
    refine And.intro (Or.inl rfl) (And.intro (fun h => absurd h (by decide)) ?_)
    replace H := H _ rfl
    exact At.keep [] H
  · replace H := H.2 c
    refine And.intro O ?_
    refine And.intro (Or.inl rfl) (And.intro (fun h => absurd h (by decide)) ?_)
    replace H := H _ rfl
    exact At.keep [] H

theorem i_X5_89 {G : GT} {d : Nat} {M : Mem} {o : Nat} (O : mK M o = 6) {a5 : Nat} (F : frM M)  {Q : Mem → Prop} (H : Q M) : At G (d + 1) 47 89 [] [] M (qV Q) := by
  refine vcc ok47 47 [4, 9, 14, 19, 25, 31, 49, 69] ?_
  exact ⟨rfl, H⟩

theorem i_X5n {G : GT} {d : Nat} {M : Mem} {o : Nat} (O : mK M o = 6) {a5 : Nat} (F : frM M) {a1 : Int32} {a2 : Int32} {a3 : Int32} {a4 : Int32} {Q : Mem → Prop} (H : At G (d + 1) 47 4 [(0, .ref o), (1, .int a1), (2, .int a2), (3, .int a3), (4, .int a4), (5, .null)] [] M (qV Q)) : CV G (d + 1) 47 [.ref o, .int a1, .int a2, .int a3, .int a4, .null] M Q := by
  refine Cl.ofM (Nat.le_of_ble_eq_true rfl) rfl ?_
  refine vcc ok47 0 [4, 9, 14, 19, 25, 31, 49, 69, 89] ?_
  refine And.intro (Nat.le_of_ble_eq_true rfl) ?_
  exact H

theorem i_X5n_4n5 {G : GT} {d : Nat} {M : Mem} {o : Nat} (O : mK M o = 6) {a5 : Nat} (F : frM M) {l1 : Int32} {l2 : Int32} {l3 : Int32} {l4 : Int32} {Q : Mem → Prop} (H : ∀ M1, M1 = seti M o 0 l1 → At G (d + 1) 47 9 [(0, .ref o), (2, .int l2), (3, .int l3), (4, .int l4), (5, .null)] [] M1 (qV Q)) : At G (d + 1) 47 4 [(0, .ref o), (1, .int l1), (2, .int l2), (3, .int l3), (4, .int l4), (5, .null)] [] M (qV Q) := by
  refine vcc ok47 2 [9, 14, 19, 25, 31, 49, 69, 89] ?_
  refine And.intro O ?_
  refine And.intro (Or.inl rfl) (And.intro (fun h => absurd h (by decide)) ?_)
  replace H := H _ rfl
  exact At.keep [0, 2, 3, 4, 5] H

theorem i_X5n_9n5 {G : GT} {d : Nat} {M : Mem} {o : Nat} (O : mK M o = 6) {a5 : Nat} (F : frM M) {l2 : Int32} {l3 : Int32} {l4 : Int32} {Q : Mem → Prop} (H : ∀ M2, M2 = seti M o 1 l2 → At G (d + 1) 47 14 [(0, .ref o), (2, .int l2), (3, .int l3), (4, .int l4), (5, .null)] [] M2 (qV Q)) : At G (d + 1) 47 9 [(0, .ref o), (2, .int l2), (3, .int l3), (4, .int l4), (5, .null)] [] M (qV Q) := by
  refine vcc ok47 5 [4, 14, 19, 25, 31, 49, 69, 89] ?_
  refine And.intro O ?_
  refine And.intro (Or.inl rfl) (And.intro (fun h => absurd h (by decide)) ?_)
  replace H := H _ rfl
  exact H

theorem i_X5n_14n5 {G : GT} {d : Nat} {M : Mem} {o : Nat} (O : mK M o = 6) {a5 : Nat} (F : frM M) {l2 : Int32} {l3 : Int32} {l4 : Int32} {Q : Mem → Prop} (H : ∀ M3, M3 = seti M o 2 l3 → At G (d + 1) 47 19 [(0, .ref o), (2, .int l2), (3, .int l3), (4, .int l4), (5, .null)] [] M3 (qV Q)) : At G (d + 1) 47 14 [(0, .ref o), (2, .int l2), (3, .int l3), (4, .int l4), (5, .null)] [] M (qV Q) := by
  refine vcc ok47 8 [4, 9, 19, 25, 31, 49, 69, 89] ?_
  refine And.intro O ?_
  refine And.intro (Or.inl rfl) (And.intro (fun h => absurd h (by decide)) ?_)
  replace H := H _ rfl
  exact H

theorem i_X5n_19n5 {G : GT} {d : Nat} {M : Mem} {o : Nat} (O : mK M o = 6) {a5 : Nat} (F : frM M) {l2 : Int32} {l3 : Int32} {l4 : Int32} {Q : Mem → Prop} (H : ∀ M4, M4 = seti M o 3 l4 → At G (d + 1) 47 25 [(0, .ref o), (2, .int l2), (3, .int l3), (4, .int l4), (5, .null)] [] M4 (qV Q)) : At G (d + 1) 47 19 [(0, .ref o), (2, .int l2), (3, .int l3), (4, .int l4), (5, .null)] [] M (qV Q) := by
  refine vcc ok47 11 [4, 9, 14, 25, 31, 49, 69, 89] ?_
  refine And.intro O ?_
  refine And.intro (Or.inl rfl) (And.intro (fun h => absurd h (by decide)) ?_)
  replace H := H _ rfl
  exact H

theorem i_X5n_25n5 {G : GT} {d : Nat} {M : Mem} {o : Nat} (O : mK M o = 6) {a5 : Nat} (F : frM M) {l2 : Int32} {l3 : Int32} {l4 : Int32} {Q : Mem → Prop} (H : ∀ M5, M5 = setr M o 5 none → At G (d + 1) 47 31 [(0, .ref o), (2, .int l2), (3, .int l3), (4, .int l4), (5, .null)] [] M5 (qV Q)) : At G (d + 1) 47 25 [(0, .ref o), (2, .int l2), (3, .int l3), (4, .int l4), (5, .null)] [] M (qV Q) := by
  refine vcc ok47 14 [4, 9, 14, 19, 31, 49, 69, 89] ?_
  refine And.intro O ?_
  refine And.intro rfl ?_
  replace H := H _ rfl
  exact H

theorem i_X5n_31n5 {G : GT} {d : Nat} {M : Mem} {o : Nat} (O : mK M o = 6) {a5 : Nat} (F : frM M) {l2 : Int32} {l3 : Int32} {l4 : Int32} {Q : Mem → Prop} (H : ∀ M6, M6 = seti M o 4 (l3 - l2) → At G (d + 1) 47 49 [(0, .ref o), (2, .int l2), (3, .int l3), (4, .int l4)] [] M6 (qV Q)) : At G (d + 1) 47 31 [(0, .ref o), (2, .int l2), (3, .int l3), (4, .int l4), (5, .null)] [] M (qV Q) := by
  refine vcc ok47 17 [4, 9, 14, 19, 25, 49, 69, 89] ?_
  refine And.intro O ?_
  refine And.intro (Or.inl rfl) (And.intro (fun h => absurd h (by decide)) ?_)
  replace H := H _ rfl
  exact At.keep [0, 2, 3, 4] H

theorem i_X5n_49 {G : GT} {d : Nat} {M : Mem} {o : Nat} (O : mK M o = 6) {a5 : Nat} (F : frM M) {l2 : Int32} {l3 : Int32} {l4 : Int32} {Q : Mem → Prop} (H : (¬ l4 = (-1 : Int32) → ∀ M7, M7 = seti M o 6 (if l4 < l2 then l4 else l2) → At G (d + 1) 47 69 [(0, .ref o), (3, .int l3), (4, .int l4)] [] M7 (qV Q)) ∧ (l4 = (-1 : Int32) → ∀ M8, M8 = seti M o 6 l2 → At G (d + 1) 47 69 [(0, .ref o), (3, .int l3), (4, .int l4)] [] M8 (qV Q))) : At G (d + 1) 47 49 [(0, .ref o), (2, .int l2), (3, .int l3), (4, .int l4)] [] M (qV Q) := by
  refine vcc ok47 27 [4, 9, 14, 19, 25, 31, 69, 89] ?_
  refine And.intro (fun c => ?_) (fun c => ?_)
  · replace H := H.1 c
    refine And.intro (Nat.le_of_ble_eq_true rfl) ?_
    refine And.intro O ?_
    refine And.intro (Or.inl rfl) (And.intro (fun h => absurd h (by decide)) ?_)
    replace H := H _ rfl
    exact At.keep [0, 3, 4] H
  · replace H := H.2 c
    refine And.intro O ?_
    refine And.intro (Or.inl rfl) (And.intro (fun h => absurd h (by decide)) ?_)
    replace H := H _ rfl
    exact At.keep [0, 3, 4] H

theorem i_X5n_69 {G : GT} {d : Nat} {M : Mem} {o : Nat} (O : mK M o = 6) {a5 : Nat} (F : frM M) {l3 : Int32} {l4 : Int32} {Q : Mem → Prop} (H : (¬ l4 = (-1 : Int32) → ∀ M9, M9 = seti M o 7 (if l3 < l4 then l4 else l3) → At G (d + 1) 47 89 [] [] M9 (qV Q)) ∧ (l4 = (-1 : Int32) → ∀ M10, M10 = seti M o 7 l3 → At G (d + 1) 47 89 [] [] M10 (qV Q))) : At G (d + 1) 47 69 [(0, .ref o), (3, .int l3), (4, .int l4)] [] M (qV Q) := by
  refine vcc ok47 37 [4, 9, 14, 19, 25, 31, 49, 89] ?_
  refine And.intro (fun c => ?_) (fun c => ?_)
  · replace H := H.1 c
    refine And.intro (Nat.le_of_ble_eq_true rfl) ?_
    refine And.intro O ?_
    refine And.intro (Or.inl rfl) (And.intro (fun h => absurd h (by decide)) ?_)
    replace H := H _ rfl
    exact At.keep [] H
  · replace H := H.2 c
    refine And.intro O ?_
    refine And.intro (Or.inl rfl) (And.intro (fun h => absurd h (by decide)) ?_)
    replace H := H _ rfl
    exact At.keep [] H

theorem i_X5n_89 {G : GT} {d : Nat} {M : Mem} {o : Nat} (O : mK M o = 6) {a5 : Nat} (F : frM M)  {Q : Mem → Prop} (H : Q M) : At G (d + 1) 47 89 [] [] M (qV Q) := by
  refine vcc ok47 47 [4, 9, 14, 19, 25, 31, 49, 69] ?_
  exact ⟨rfl, H⟩

theorem i_X6 {G : GT} {d : Nat} {M : Mem} {o : Nat} (O : mK M o = 7) (F : frM M)  {Q : Mem → Prop} (H : At G (d + 1) 58 4 [(0, .ref o)] [] M (qV Q)) : CV G (d + 1) 58 [.ref o] M Q := by
  refine Cl.ofM (Nat.le_of_ble_eq_true rfl) rfl ?_
  refine vcc ok58 0 [4, 13, 21] ?_
  refine And.intro (Nat.le_of_ble_eq_true rfl) ?_
  exact H

theorem i_X6_4 {G : GT} {d : Nat} {M : Mem} {o : Nat} (O : mK M o = 7) (F : frM M)  {Q : Mem → Prop} (H : ¬ (16 : Int32) < 0 ∧ ((16 : Int32)).toNatClampNeg ≤ 1000000 ∧ ∀ M1, M1 = mnew M 19 ((16 : Int32)).toNatClampNeg → ∀ M2, M2 = setr M1 o 0 (some (mN M)) → At G (d + 1) 58 13 [(0, .ref o)] [] M2 (qV Q)) : At G (d + 1) 58 4 [(0, .ref o)] [] M (qV Q) := by
  refine vcc ok58 2 [13, 21] ?_
  refine And.intro H.1 (And.intro H.2.1 ?_)
  replace H := H.2.2 _ rfl
  refine And.intro ((mk_mnew F O) :) ?_
  refine And.intro rfl ?_
  replace H := H _ rfl
  exact H

theorem i_X6_13 {G : GT} {d : Nat} {M : Mem} {o : Nat} (O : mK M o = 7) (F : frM M)  {Q : Mem → Prop} (H : ¬ (20 : Int32) < 0 ∧ ((20 : Int32)).toNatClampNeg ≤ 1000000 ∧ ∀ M3, M3 = mnew M 15 ((20 : Int32)).toNatClampNeg → ∀ M4, M4 = setr M3 o 2 (some (mN M)) → At G (d + 1) 58 21 [] [] M4 (qV Q)) : At G (d + 1) 58 13 [(0, .ref o)] [] M (qV Q) := by
  refine vcc ok58 6 [4, 21] ?_
  refine And.intro H.1 (And.intro H.2.1 ?_)
  replace H := H.2.2 _ rfl
  refine And.intro ((mk_mnew F O) :) ?_
  refine And.intro rfl ?_
  replace H := H _ rfl
  exact At.keep [] H

theorem i_X6_21 {G : GT} {d : Nat} {M : Mem} {o : Nat} (O : mK M o = 7) (F : frM M)  {Q : Mem → Prop} (H : Q M) : At G (d + 1) 58 21 [] [] M (qV Q) := by
  refine vcc ok58 10 [4, 13] ?_
  exact ⟨rfl, H⟩

theorem i_X7 {G : GT} {d : Nat} {M : Mem} {o : Nat} (O : mK M o = 8) (F : frM M)  {Q : Mem → Prop} (H : At G (d + 1) 66 4 [(0, .ref o)] [] M (qV Q)) : CV G (d + 1) 66 [.ref o] M Q := by
  refine Cl.ofM (Nat.le_of_ble_eq_true rfl) rfl ?_
  refine vcc ok66 0 [4, 9, 18, 27, 36, 45] ?_
  refine And.intro (Nat.le_of_ble_eq_true rfl) ?_
  exact H

theorem i_X7_4 {G : GT} {d : Nat} {M : Mem} {o : Nat} (O : mK M o = 8) (F : frM M)  {Q : Mem → Prop} (H : ∀ M1, M1 = seti M o 0 (-1 : Int32) → At G (d + 1) 66 9 [(0, .ref o)] [] M1 (qV Q)) : At G (d + 1) 66 4 [(0, .ref o)] [] M (qV Q) := by
  refine vcc ok66 2 [9, 18, 27, 36, 45] ?_
  refine And.intro O ?_
  refine And.intro (Or.inl rfl) (And.intro (fun h => absurd h (by decide)) ?_)
  replace H := H _ rfl
  exact H

theorem i_X7_9 {G : GT} {d : Nat} {M : Mem} {o : Nat} (O : mK M o = 8) (F : frM M)  {Q : Mem → Prop} (H : ¬ (5025 : Int32) < 0 ∧ ((5025 : Int32)).toNatClampNeg ≤ 1000000 ∧ ∀ M2, M2 = mnew M 15 ((5025 : Int32)).toNatClampNeg → ∀ M3, M3 = setr M2 o 5 (some (mN M)) → At G (d + 1) 66 18 [(0, .ref o)] [] M3 (qV Q)) : At G (d + 1) 66 9 [(0, .ref o)] [] M (qV Q) := by
  refine vcc ok66 5 [4, 18, 27, 36, 45] ?_
  refine And.intro H.1 (And.intro H.2.1 ?_)
  replace H := H.2.2 _ rfl
  refine And.intro ((mk_mnew F O) :) ?_
  refine And.intro rfl ?_
  replace H := H _ rfl
  exact H

theorem i_X7_18 {G : GT} {d : Nat} {M : Mem} {o : Nat} (O : mK M o = 8) (F : frM M)  {Q : Mem → Prop} (H : ¬ (201 : Int32) < 0 ∧ ((201 : Int32)).toNatClampNeg ≤ 1000000 ∧ ∀ M4, M4 = mnew M 15 ((201 : Int32)).toNatClampNeg → ∀ M5, M5 = setr M4 o 6 (some (mN M)) → At G (d + 1) 66 27 [(0, .ref o)] [] M5 (qV Q)) : At G (d + 1) 66 18 [(0, .ref o)] [] M (qV Q) := by
  refine vcc ok66 9 [4, 9, 27, 36, 45] ?_
  refine And.intro H.1 (And.intro H.2.1 ?_)
  replace H := H.2.2 _ rfl
  refine And.intro ((mk_mnew F O) :) ?_
  refine And.intro rfl ?_
  replace H := H _ rfl
  exact H

theorem i_X7_27 {G : GT} {d : Nat} {M : Mem} {o : Nat} (O : mK M o = 8) (F : frM M)  {Q : Mem → Prop} (H : ¬ (201 : Int32) < 0 ∧ ((201 : Int32)).toNatClampNeg ≤ 1000000 ∧ ∀ M6, M6 = mnew M 15 ((201 : Int32)).toNatClampNeg → ∀ M7, M7 = setr M6 o 7 (some (mN M)) → At G (d + 1) 66 36 [(0, .ref o)] [] M7 (qV Q)) : At G (d + 1) 66 27 [(0, .ref o)] [] M (qV Q) := by
  refine vcc ok66 13 [4, 9, 18, 36, 45] ?_
  refine And.intro H.1 (And.intro H.2.1 ?_)
  replace H := H.2.2 _ rfl
  refine And.intro ((mk_mnew F O) :) ?_
  refine And.intro rfl ?_
  replace H := H _ rfl
  exact H

theorem i_X7_36 {G : GT} {d : Nat} {M : Mem} {o : Nat} (O : mK M o = 8) (F : frM M)  {Q : Mem → Prop} (H : ¬ (201 : Int32) < 0 ∧ ((201 : Int32)).toNatClampNeg ≤ 1000000 ∧ ∀ M8, M8 = mnew M 15 ((201 : Int32)).toNatClampNeg → ∀ M9, M9 = setr M8 o 8 (some (mN M)) → At G (d + 1) 66 45 [] [] M9 (qV Q)) : At G (d + 1) 66 36 [(0, .ref o)] [] M (qV Q) := by
  refine vcc ok66 17 [4, 9, 18, 27, 45] ?_
  refine And.intro H.1 (And.intro H.2.1 ?_)
  replace H := H.2.2 _ rfl
  refine And.intro ((mk_mnew F O) :) ?_
  refine And.intro rfl ?_
  replace H := H _ rfl
  exact At.keep [] H

theorem i_X7_45 {G : GT} {d : Nat} {M : Mem} {o : Nat} (O : mK M o = 8) (F : frM M)  {Q : Mem → Prop} (H : Q M) : At G (d + 1) 66 45 [] [] M (qV Q) := by
  refine vcc ok66 21 [4, 9, 18, 27, 36] ?_
  exact ⟨rfl, H⟩

theorem i_X8 {G : GT} {d : Nat} {M : Mem} {o : Nat} (O : mK M o = 9) (F : frM M)  {Q : Mem → Prop} (H : At G (d + 1) 73 4 [(0, .ref o)] [] M (qV Q)) : CV G (d + 1) 73 [.ref o] M Q := by
  refine Cl.ofM (Nat.le_of_ble_eq_true rfl) rfl ?_
  refine vcc ok73 0 [4, 13, 22, 29, 36, 45, 53, 61, 69] ?_
  refine And.intro (Nat.le_of_ble_eq_true rfl) ?_
  exact H

theorem i_X8_4 {G : GT} {d : Nat} {M : Mem} {o : Nat} (O : mK M o = 9) (F : frM M)  {Q : Mem → Prop} (H : ¬ (200 : Int32) < 0 ∧ ((200 : Int32)).toNatClampNeg ≤ 1000000 ∧ ∀ M1, M1 = mnew M 15 ((200 : Int32)).toNatClampNeg → ∀ M2, M2 = setr M1 o 0 (some (mN M)) → At G (d + 1) 73 13 [(0, .ref o)] [] M2 (qV Q)) : At G (d + 1) 73 4 [(0, .ref o)] [] M (qV Q) := by
  refine vcc ok73 2 [13, 22, 29, 36, 45, 53, 61, 69] ?_
  refine And.intro H.1 (And.intro H.2.1 ?_)
  replace H := H.2.2 _ rfl
  refine And.intro ((mk_mnew F O) :) ?_
  refine And.intro rfl ?_
  replace H := H _ rfl
  exact H

theorem i_X8_13 {G : GT} {d : Nat} {M : Mem} {o : Nat} (O : mK M o = 9) (F : frM M)  {Q : Mem → Prop} (H : ¬ (200 : Int32) < 0 ∧ ((200 : Int32)).toNatClampNeg ≤ 1000000 ∧ ∀ M3, M3 = mnew M 15 ((200 : Int32)).toNatClampNeg → ∀ M4, M4 = setr M3 o 2 (some (mN M)) → At G (d + 1) 73 22 [(0, .ref o)] [] M4 (qV Q)) : At G (d + 1) 73 13 [(0, .ref o)] [] M (qV Q) := by
  refine vcc ok73 6 [4, 22, 29, 36, 45, 53, 61, 69] ?_
  refine And.intro H.1 (And.intro H.2.1 ?_)
  replace H := H.2.2 _ rfl
  refine And.intro ((mk_mnew F O) :) ?_
  refine And.intro rfl ?_
  replace H := H _ rfl
  exact H

theorem i_X8_22 {G : GT} {d : Nat} {M : Mem} {o : Nat} (O : mK M o = 9) (F : frM M)  {Q : Mem → Prop} (H : ¬ (4 : Int32) < 0 ∧ ((4 : Int32)).toNatClampNeg ≤ 1000000 ∧ ∀ M5, M5 = mnew M 15 ((4 : Int32)).toNatClampNeg → ∀ M6, M6 = setr M5 o 4 (some (mN M)) → At G (d + 1) 73 29 [(0, .ref o)] [] M6 (qV Q)) : At G (d + 1) 73 22 [(0, .ref o)] [] M (qV Q) := by
  refine vcc ok73 10 [4, 13, 29, 36, 45, 53, 61, 69] ?_
  refine And.intro H.1 (And.intro H.2.1 ?_)
  replace H := H.2.2 _ rfl
  refine And.intro ((mk_mnew F O) :) ?_
  refine And.intro rfl ?_
  replace H := H _ rfl
  exact H

theorem i_X8_29 {G : GT} {d : Nat} {M : Mem} {o : Nat} (O : mK M o = 9) (F : frM M)  {Q : Mem → Prop} (H : ¬ (4 : Int32) < 0 ∧ ((4 : Int32)).toNatClampNeg ≤ 1000000 ∧ ∀ M7, M7 = mnew M 15 ((4 : Int32)).toNatClampNeg → ∀ M8, M8 = setr M7 o 5 (some (mN M)) → At G (d + 1) 73 36 [(0, .ref o)] [] M8 (qV Q)) : At G (d + 1) 73 29 [(0, .ref o)] [] M (qV Q) := by
  refine vcc ok73 14 [4, 13, 22, 36, 45, 53, 61, 69] ?_
  refine And.intro H.1 (And.intro H.2.1 ?_)
  replace H := H.2.2 _ rfl
  refine And.intro ((mk_mnew F O) :) ?_
  refine And.intro rfl ?_
  replace H := H _ rfl
  exact H

theorem i_X8_36 {G : GT} {d : Nat} {M : Mem} {o : Nat} (O : mK M o = 9) (F : frM M)  {Q : Mem → Prop} (H : ¬ (64 : Int32) < 0 ∧ ((64 : Int32)).toNatClampNeg ≤ 1000000 ∧ ∀ M9, M9 = mnew M 19 ((64 : Int32)).toNatClampNeg → ∀ M10, M10 = setr M9 o 7 (some (mN M)) → At G (d + 1) 73 45 [(0, .ref o)] [] M10 (qV Q)) : At G (d + 1) 73 36 [(0, .ref o)] [] M (qV Q) := by
  refine vcc ok73 18 [4, 13, 22, 29, 45, 53, 61, 69] ?_
  refine And.intro H.1 (And.intro H.2.1 ?_)
  replace H := H.2.2 _ rfl
  refine And.intro ((mk_mnew F O) :) ?_
  refine And.intro rfl ?_
  replace H := H _ rfl
  exact H

theorem i_X8_45 {G : GT} {d : Nat} {M : Mem} {o : Nat} (O : mK M o = 9) (F : frM M)  {Q : Mem → Prop} (H : ¬ (7 : Int32) < 0 ∧ ((7 : Int32)).toNatClampNeg ≤ 1000000 ∧ ∀ M11, M11 = mnew M 15 ((7 : Int32)).toNatClampNeg → ∀ M12, M12 = setr M11 o 8 (some (mN M)) → At G (d + 1) 73 53 [(0, .ref o)] [] M12 (qV Q)) : At G (d + 1) 73 45 [(0, .ref o)] [] M (qV Q) := by
  refine vcc ok73 22 [4, 13, 22, 29, 36, 53, 61, 69] ?_
  refine And.intro H.1 (And.intro H.2.1 ?_)
  replace H := H.2.2 _ rfl
  refine And.intro ((mk_mnew F O) :) ?_
  refine And.intro rfl ?_
  replace H := H _ rfl
  exact H

theorem i_X8_53 {G : GT} {d : Nat} {M : Mem} {o : Nat} (O : mK M o = 9) (F : frM M)  {Q : Mem → Prop} (H : ¬ (64 : Int32) < 0 ∧ ((64 : Int32)).toNatClampNeg ≤ 1000000 ∧ ∀ M13, M13 = mnew M 15 ((64 : Int32)).toNatClampNeg → ∀ M14, M14 = setr M13 o 9 (some (mN M)) → At G (d + 1) 73 61 [(0, .ref o)] [] M14 (qV Q)) : At G (d + 1) 73 53 [(0, .ref o)] [] M (qV Q) := by
  refine vcc ok73 26 [4, 13, 22, 29, 36, 45, 61, 69] ?_
  refine And.intro H.1 (And.intro H.2.1 ?_)
  replace H := H.2.2 _ rfl
  refine And.intro ((mk_mnew F O) :) ?_
  refine And.intro rfl ?_
  replace H := H _ rfl
  exact H

theorem i_X8_61 {G : GT} {d : Nat} {M : Mem} {o : Nat} (O : mK M o = 9) (F : frM M)  {Q : Mem → Prop} (H : ¬ (64 : Int32) < 0 ∧ ((64 : Int32)).toNatClampNeg ≤ 1000000 ∧ ∀ M15, M15 = mnew M 16 ((64 : Int32)).toNatClampNeg → ∀ M16, M16 = setr M15 o 10 (some (mN M)) → At G (d + 1) 73 69 [] [] M16 (qV Q)) : At G (d + 1) 73 61 [(0, .ref o)] [] M (qV Q) := by
  refine vcc ok73 30 [4, 13, 22, 29, 36, 45, 53, 69] ?_
  refine And.intro H.1 (And.intro H.2.1 ?_)
  replace H := H.2.2 _ rfl
  refine And.intro ((mk_mnew F O) :) ?_
  refine And.intro rfl ?_
  replace H := H _ rfl
  exact At.keep [] H

theorem i_X8_69 {G : GT} {d : Nat} {M : Mem} {o : Nat} (O : mK M o = 9) (F : frM M)  {Q : Mem → Prop} (H : Q M) : At G (d + 1) 73 69 [] [] M (qV Q) := by
  refine vcc ok73 34 [4, 13, 22, 29, 36, 45, 53, 61] ?_
  exact ⟨rfl, H⟩

theorem i_X9 {G : GT} {d : Nat} {M : Mem} {o : Nat} (O : mK M o = 10) (F : frM M)  {Q : Mem → Prop} (H : At G (d + 1) 87 4 [(0, .ref o)] [] M (qV Q)) : CV G (d + 1) 87 [.ref o] M Q := by
  refine Cl.ofM (Nat.le_of_ble_eq_true rfl) rfl ?_
  refine vcc ok87 0 [4, 13] ?_
  refine And.intro (Nat.le_of_ble_eq_true rfl) ?_
  exact H

theorem i_X9_4 {G : GT} {d : Nat} {M : Mem} {o : Nat} (O : mK M o = 10) (F : frM M)  {Q : Mem → Prop} (H : ¬ (400 : Int32) < 0 ∧ ((400 : Int32)).toNatClampNeg ≤ 1000000 ∧ ∀ M1, M1 = mnew M 15 ((400 : Int32)).toNatClampNeg → ∀ M2, M2 = setr M1 o 0 (some (mN M)) → At G (d + 1) 87 13 [] [] M2 (qV Q)) : At G (d + 1) 87 4 [(0, .ref o)] [] M (qV Q) := by
  refine vcc ok87 2 [13] ?_
  refine And.intro H.1 (And.intro H.2.1 ?_)
  replace H := H.2.2 _ rfl
  refine And.intro ((mk_mnew F O) :) ?_
  refine And.intro rfl ?_
  replace H := H _ rfl
  exact At.keep [] H

theorem i_X9_13 {G : GT} {d : Nat} {M : Mem} {o : Nat} (O : mK M o = 10) (F : frM M)  {Q : Mem → Prop} (H : Q M) : At G (d + 1) 87 13 [] [] M (qV Q) := by
  refine vcc ok87 6 [4] ?_
  exact ⟨rfl, H⟩

theorem i_X10 {G : GT} {d : Nat} {M : Mem} {o : Nat} (O : mK M o = 11) (F : frM M)  {Q : Mem → Prop} (H : At G (d + 1) 98 4 [(0, .ref o)] [] M (qV Q)) : CV G (d + 1) 98 [.ref o] M Q := by
  refine Cl.ofM (Nat.le_of_ble_eq_true rfl) rfl ?_
  refine vcc ok98 0 [4, 12, 20, 29, 34, 39, 48] ?_
  refine And.intro (Nat.le_of_ble_eq_true rfl) ?_
  exact H

theorem i_X10_4 {G : GT} {d : Nat} {M : Mem} {o : Nat} (O : mK M o = 11) (F : frM M)  {Q : Mem → Prop} (H : ¬ (64 : Int32) < 0 ∧ ((64 : Int32)).toNatClampNeg ≤ 1000000 ∧ ∀ M1, M1 = mnew M 16 ((64 : Int32)).toNatClampNeg → ∀ M2, M2 = setr M1 o 0 (some (mN M)) → At G (d + 1) 98 12 [(0, .ref o)] [] M2 (qV Q)) : At G (d + 1) 98 4 [(0, .ref o)] [] M (qV Q) := by
  refine vcc ok98 2 [12, 20, 29, 34, 39, 48] ?_
  refine And.intro H.1 (And.intro H.2.1 ?_)
  replace H := H.2.2 _ rfl
  refine And.intro ((mk_mnew F O) :) ?_
  refine And.intro rfl ?_
  replace H := H _ rfl
  exact H

theorem i_X10_12 {G : GT} {d : Nat} {M : Mem} {o : Nat} (O : mK M o = 11) (F : frM M)  {Q : Mem → Prop} (H : ¬ (64 : Int32) < 0 ∧ ((64 : Int32)).toNatClampNeg ≤ 1000000 ∧ ∀ M3, M3 = mnew M 15 ((64 : Int32)).toNatClampNeg → ∀ M4, M4 = setr M3 o 1 (some (mN M)) → At G (d + 1) 98 20 [(0, .ref o)] [] M4 (qV Q)) : At G (d + 1) 98 12 [(0, .ref o)] [] M (qV Q) := by
  refine vcc ok98 6 [4, 20, 29, 34, 39, 48] ?_
  refine And.intro H.1 (And.intro H.2.1 ?_)
  replace H := H.2.2 _ rfl
  refine And.intro ((mk_mnew F O) :) ?_
  refine And.intro rfl ?_
  replace H := H _ rfl
  exact H

theorem i_X10_20 {G : GT} {d : Nat} {M : Mem} {o : Nat} (O : mK M o = 11) (F : frM M)  {Q : Mem → Prop} (H : ¬ (400 : Int32) < 0 ∧ ((400 : Int32)).toNatClampNeg ≤ 1000000 ∧ ∀ M5, M5 = mnew M 15 ((400 : Int32)).toNatClampNeg → ∀ M6, M6 = setr M5 o 2 (some (mN M)) → At G (d + 1) 98 29 [(0, .ref o)] [] M6 (qV Q)) : At G (d + 1) 98 20 [(0, .ref o)] [] M (qV Q) := by
  refine vcc ok98 10 [4, 12, 29, 34, 39, 48] ?_
  refine And.intro H.1 (And.intro H.2.1 ?_)
  replace H := H.2.2 _ rfl
  refine And.intro ((mk_mnew F O) :) ?_
  refine And.intro rfl ?_
  replace H := H _ rfl
  exact H

theorem i_X10_29 {G : GT} {d : Nat} {M : Mem} {o : Nat} (O : mK M o = 11) (F : frM M)  {Q : Mem → Prop} (H : ∀ M7, M7 = seti M o 4 (-1 : Int32) → At G (d + 1) 98 34 [(0, .ref o)] [] M7 (qV Q)) : At G (d + 1) 98 29 [(0, .ref o)] [] M (qV Q) := by
  refine vcc ok98 14 [4, 12, 20, 34, 39, 48] ?_
  refine And.intro O ?_
  refine And.intro (Or.inl rfl) (And.intro (fun h => absurd h (by decide)) ?_)
  replace H := H _ rfl
  exact H

theorem i_X10_34 {G : GT} {d : Nat} {M : Mem} {o : Nat} (O : mK M o = 11) (F : frM M)  {Q : Mem → Prop} (H : ∀ M8, M8 = seti M o 5 (-1 : Int32) → At G (d + 1) 98 39 [(0, .ref o)] [] M8 (qV Q)) : At G (d + 1) 98 34 [(0, .ref o)] [] M (qV Q) := by
  refine vcc ok98 17 [4, 12, 20, 29, 39, 48] ?_
  refine And.intro O ?_
  refine And.intro (Or.inl rfl) (And.intro (fun h => absurd h (by decide)) ?_)
  replace H := H _ rfl
  exact H

theorem i_X10_39 {G : GT} {d : Nat} {M : Mem} {o : Nat} (O : mK M o = 11) (F : frM M)  {Q : Mem → Prop} (H : ¬ (64 : Int32) < 0 ∧ ((64 : Int32)).toNatClampNeg ≤ 1000000 ∧ ∀ M9, M9 = mnew M 19 ((64 : Int32)).toNatClampNeg → ∀ M10, M10 = setr M9 o 7 (some (mN M)) → At G (d + 1) 98 48 [] [] M10 (qV Q)) : At G (d + 1) 98 39 [(0, .ref o)] [] M (qV Q) := by
  refine vcc ok98 20 [4, 12, 20, 29, 34, 48] ?_
  refine And.intro H.1 (And.intro H.2.1 ?_)
  replace H := H.2.2 _ rfl
  refine And.intro ((mk_mnew F O) :) ?_
  refine And.intro rfl ?_
  replace H := H _ rfl
  exact At.keep [] H

theorem i_X10_48 {G : GT} {d : Nat} {M : Mem} {o : Nat} (O : mK M o = 11) (F : frM M)  {Q : Mem → Prop} (H : Q M) : At G (d + 1) 98 48 [] [] M (qV Q) := by
  refine vcc ok98 24 [4, 12, 20, 29, 34, 39] ?_
  exact ⟨rfl, H⟩

theorem i_X11 {G : GT} {d : Nat} {M : Mem} {o : Nat} (O : mK M o = 12) (F : frM M)  {Q : Mem → Prop} (H : At G (d + 1) 108 4 [(0, .ref o)] [] M (qV Q)) : CV G (d + 1) 108 [.ref o] M Q := by
  refine Cl.ofM (Nat.le_of_ble_eq_true rfl) rfl ?_
  refine vcc ok108 0 [4, 15, 26, 34, 42, 50, 61, 76, 87, 98, 109, 120, 131, 136] ?_
  refine And.intro (Nat.le_of_ble_eq_true rfl) ?_
  exact H

theorem i_X11_4 {G : GT} {d : Nat} {M : Mem} {o : Nat} (O : mK M o = 12) (F : frM M)  {Q : Mem → Prop} (H : ∀ M1, M1 = mnew M 10 4 → CV G d 87 [.ref (mN M)] M1 (fun M2 => (mK M2 o = 12 ∧ frM M2) ∧ (∀ M3, M3 = setr M2 o 0 (some (mN M)) → At G (d + 1) 108 15 [(0, .ref o)] [] M3 (qV Q)))) : At G (d + 1) 108 4 [(0, .ref o)] [] M (qV Q) := by
  refine vcc ok108 2 [15, 26, 34, 42, 50, 61, 76, 87, 98, 109, 120, 131, 136] ?_
  replace H := H _ rfl
  refine And.intro (Nat.le_of_ble_eq_true rfl) ?_
  refine And.intro (Nat.le_of_ble_eq_true rfl) ?_
  refine Cl.mono H (fun r M2 h => ?_)
  obtain ⟨rfl, H⟩ := h
  obtain ⟨⟨O, F⟩, H⟩ := H
  refine And.intro O ?_
  refine And.intro rfl ?_
  replace H := H _ rfl
  exact H

theorem i_X11_15 {G : GT} {d : Nat} {M : Mem} {o : Nat} (O : mK M o = 12) (F : frM M)  {Q : Mem → Prop} (H : ∀ M4, M4 = mnew M 9 11 → CV G d 73 [.ref (mN M)] M4 (fun M5 => (mK M5 o = 12 ∧ frM M5) ∧ (∀ M6, M6 = setr M5 o 1 (some (mN M)) → At G (d + 1) 108 26 [(0, .ref o)] [] M6 (qV Q)))) : At G (d + 1) 108 15 [(0, .ref o)] [] M (qV Q) := by
  refine vcc ok108 7 [4, 26, 34, 42, 50, 61, 76, 87, 98, 109, 120, 131, 136] ?_
  replace H := H _ rfl
  refine And.intro (Nat.le_of_ble_eq_true rfl) ?_
  refine And.intro (Nat.le_of_ble_eq_true rfl) ?_
  refine Cl.mono H (fun r M5 h => ?_)
  obtain ⟨rfl, H⟩ := h
  obtain ⟨⟨O, F⟩, H⟩ := H
  refine And.intro O ?_
  refine And.intro rfl ?_
  replace H := H _ rfl
  exact H

theorem i_X11_26 {G : GT} {d : Nat} {M : Mem} {o : Nat} (O : mK M o = 12) (F : frM M)  {Q : Mem → Prop} (H : ¬ (4 : Int32) < 0 ∧ ((4 : Int32)).toNatClampNeg ≤ 1000000 ∧ ∀ M7, M7 = mnew M 20 ((4 : Int32)).toNatClampNeg → ∀ M8, M8 = setr M7 o 2 (some (mN M)) → At G (d + 1) 108 34 [(0, .ref o)] [] M8 (qV Q)) : At G (d + 1) 108 26 [(0, .ref o)] [] M (qV Q) := by
  refine vcc ok108 12 [4, 15, 34, 42, 50, 61, 76, 87, 98, 109, 120, 131, 136] ?_
  refine And.intro H.1 (And.intro H.2.1 ?_)
  replace H := H.2.2 _ rfl
  refine And.intro ((mk_mnew F O) :) ?_
  refine And.intro rfl ?_
  replace H := H _ rfl
  exact H

theorem i_X11_34 {G : GT} {d : Nat} {M : Mem} {o : Nat} (O : mK M o = 12) (F : frM M)  {Q : Mem → Prop} (H : ¬ (4 : Int32) < 0 ∧ ((4 : Int32)).toNatClampNeg ≤ 1000000 ∧ ∀ M9, M9 = mnew M 18 ((4 : Int32)).toNatClampNeg → ∀ M10, M10 = setr M9 o 3 (some (mN M)) → At G (d + 1) 108 42 [(0, .ref o)] [] M10 (qV Q)) : At G (d + 1) 108 34 [(0, .ref o)] [] M (qV Q) := by
  refine vcc ok108 16 [4, 15, 26, 42, 50, 61, 76, 87, 98, 109, 120, 131, 136] ?_
  refine And.intro H.1 (And.intro H.2.1 ?_)
  replace H := H.2.2 _ rfl
  refine And.intro ((mk_mnew F O) :) ?_
  refine And.intro rfl ?_
  replace H := H _ rfl
  exact H

theorem i_X11_42 {G : GT} {d : Nat} {M : Mem} {o : Nat} (O : mK M o = 12) (F : frM M)  {Q : Mem → Prop} (H : ¬ (4 : Int32) < 0 ∧ ((4 : Int32)).toNatClampNeg ≤ 1000000 ∧ ∀ M11, M11 = mnew M 21 ((4 : Int32)).toNatClampNeg → ∀ M12, M12 = setr M11 o 4 (some (mN M)) → At G (d + 1) 108 50 [(0, .ref o)] [] M12 (qV Q)) : At G (d + 1) 108 42 [(0, .ref o)] [] M (qV Q) := by
  refine vcc ok108 20 [4, 15, 26, 34, 50, 61, 76, 87, 98, 109, 120, 131, 136] ?_
  refine And.intro H.1 (And.intro H.2.1 ?_)
  replace H := H.2.2 _ rfl
  refine And.intro ((mk_mnew F O) :) ?_
  refine And.intro rfl ?_
  replace H := H _ rfl
  exact H

theorem i_X11_50 {G : GT} {d : Nat} {M : Mem} {o : Nat} (O : mK M o = 12) (F : frM M)  {Q : Mem → Prop} (H : ∀ M13, M13 = mnew M 7 4 → CV G d 58 [.ref (mN M)] M13 (fun M14 => (mK M14 o = 12 ∧ frM M14) ∧ (∀ M15, M15 = setr M14 o 5 (some (mN M)) → At G (d + 1) 108 61 [(0, .ref o)] [] M15 (qV Q)))) : At G (d + 1) 108 50 [(0, .ref o)] [] M (qV Q) := by
  refine vcc ok108 24 [4, 15, 26, 34, 42, 61, 76, 87, 98, 109, 120, 131, 136] ?_
  replace H := H _ rfl
  refine And.intro (Nat.le_of_ble_eq_true rfl) ?_
  refine And.intro (Nat.le_of_ble_eq_true rfl) ?_
  refine Cl.mono H (fun r M14 h => ?_)
  obtain ⟨rfl, H⟩ := h
  obtain ⟨⟨O, F⟩, H⟩ := H
  refine And.intro O ?_
  refine And.intro rfl ?_
  replace H := H _ rfl
  exact H

theorem i_X11_61 {G : GT} {d : Nat} {M : Mem} {o : Nat} (O : mK M o = 12) (F : frM M)  {Q : Mem → Prop} (H : ∀ M16, M16 = mnew M 4 3 → (∀ r17, vr M16 o 0 = some r17 → CV G d 30 [.ref (mN M), .ref r17] M16 (fun M18 => (mK M18 o = 12 ∧ frM M18) ∧ (∀ M19, M19 = setr M18 o 6 (some (mN M)) → At G (d + 1) 108 76 [(0, .ref o)] [] M19 (qV Q)))) ∧ (vr M16 o 0 = none → CV G d 30 [.ref (mN M), .null] M16 (fun M20 => (mK M20 o = 12 ∧ frM M20) ∧ (∀ M21, M21 = setr M20 o 6 (some (mN M)) → At G (d + 1) 108 76 [(0, .ref o)] [] M21 (qV Q))))) : At G (d + 1) 108 61 [(0, .ref o)] [] M (qV Q) := by
  refine vcc ok108 29 [4, 15, 26, 34, 42, 50, 76, 87, 98, 109, 120, 131, 136] ?_
  replace H := H _ rfl
  refine And.intro ((mk_mnew F O) :) ?_
  refine wRef_i (fun r17 hr => ?_) (fun hr => ?_)
  · replace H := H.1 _ hr
    refine And.intro (Nat.le_of_ble_eq_true rfl) ?_
    refine And.intro (Nat.le_of_ble_eq_true rfl) ?_
    refine Cl.mono H (fun r M18 h => ?_)
    obtain ⟨rfl, H⟩ := h
    obtain ⟨⟨O, F⟩, H⟩ := H
    refine And.intro O ?_
    refine And.intro rfl ?_
    replace H := H _ rfl
    exact H
  · replace H := H.2 hr
    refine And.intro (Nat.le_of_ble_eq_true rfl) ?_
    refine And.intro (Nat.le_of_ble_eq_true rfl) ?_
    refine Cl.mono H (fun r M20 h => ?_)
    obtain ⟨rfl, H⟩ := h
    obtain ⟨⟨O, F⟩, H⟩ := H
    refine And.intro O ?_
    refine And.intro rfl ?_
    replace H := H _ rfl
    exact H

theorem i_X11_76 {G : GT} {d : Nat} {M : Mem} {o : Nat} (O : mK M o = 12) (F : frM M)  {Q : Mem → Prop} (H : ∀ M22, M22 = mnew M 1 11 → CV G d 0 [.ref (mN M)] M22 (fun M23 => (mK M23 o = 12 ∧ frM M23) ∧ (∀ M24, M24 = setr M23 o 7 (some (mN M)) → At G (d + 1) 108 87 [(0, .ref o)] [] M24 (qV Q)))) : At G (d + 1) 108 76 [(0, .ref o)] [] M (qV Q) := by
  refine vcc ok108 36 [4, 15, 26, 34, 42, 50, 61, 87, 98, 109, 120, 131, 136] ?_
  replace H := H _ rfl
  refine And.intro (Nat.le_of_ble_eq_true rfl) ?_
  refine And.intro (Nat.le_of_ble_eq_true rfl) ?_
  refine Cl.mono H (fun r M23 h => ?_)
  obtain ⟨rfl, H⟩ := h
  obtain ⟨⟨O, F⟩, H⟩ := H
  refine And.intro O ?_
  refine And.intro rfl ?_
  replace H := H _ rfl
  exact H

theorem i_X11_87 {G : GT} {d : Nat} {M : Mem} {o : Nat} (O : mK M o = 12) (F : frM M)  {Q : Mem → Prop} (H : ∀ M25, M25 = mnew M 5 6 → CV G d 39 [.ref (mN M)] M25 (fun M26 => (mK M26 o = 12 ∧ frM M26) ∧ (∀ M27, M27 = setr M26 o 8 (some (mN M)) → At G (d + 1) 108 98 [(0, .ref o)] [] M27 (qV Q)))) : At G (d + 1) 108 87 [(0, .ref o)] [] M (qV Q) := by
  refine vcc ok108 41 [4, 15, 26, 34, 42, 50, 61, 76, 98, 109, 120, 131, 136] ?_
  replace H := H _ rfl
  refine And.intro (Nat.le_of_ble_eq_true rfl) ?_
  refine And.intro (Nat.le_of_ble_eq_true rfl) ?_
  refine Cl.mono H (fun r M26 h => ?_)
  obtain ⟨rfl, H⟩ := h
  obtain ⟨⟨O, F⟩, H⟩ := H
  refine And.intro O ?_
  refine And.intro rfl ?_
  replace H := H _ rfl
  exact H

theorem i_X11_98 {G : GT} {d : Nat} {M : Mem} {o : Nat} (O : mK M o = 12) (F : frM M)  {Q : Mem → Prop} (H : ∀ M28, M28 = mnew M 5 6 → CV G d 39 [.ref (mN M)] M28 (fun M29 => (mK M29 o = 12 ∧ frM M29) ∧ (∀ M30, M30 = setr M29 o 9 (some (mN M)) → At G (d + 1) 108 109 [(0, .ref o)] [] M30 (qV Q)))) : At G (d + 1) 108 98 [(0, .ref o)] [] M (qV Q) := by
  refine vcc ok108 46 [4, 15, 26, 34, 42, 50, 61, 76, 87, 109, 120, 131, 136] ?_
  replace H := H _ rfl
  refine And.intro (Nat.le_of_ble_eq_true rfl) ?_
  refine And.intro (Nat.le_of_ble_eq_true rfl) ?_
  refine Cl.mono H (fun r M29 h => ?_)
  obtain ⟨rfl, H⟩ := h
  obtain ⟨⟨O, F⟩, H⟩ := H
  refine And.intro O ?_
  refine And.intro rfl ?_
  replace H := H _ rfl
  exact H

theorem i_X11_109 {G : GT} {d : Nat} {M : Mem} {o : Nat} (O : mK M o = 12) (F : frM M)  {Q : Mem → Prop} (H : ∀ M31, M31 = mnew M 2 6 → CV G d 14 [.ref (mN M)] M31 (fun M32 => (mK M32 o = 12 ∧ frM M32) ∧ (∀ M33, M33 = setr M32 o 10 (some (mN M)) → At G (d + 1) 108 120 [(0, .ref o)] [] M33 (qV Q)))) : At G (d + 1) 108 109 [(0, .ref o)] [] M (qV Q) := by
  refine vcc ok108 51 [4, 15, 26, 34, 42, 50, 61, 76, 87, 98, 120, 131, 136] ?_
  replace H := H _ rfl
  refine And.intro (Nat.le_of_ble_eq_true rfl) ?_
  refine And.intro (Nat.le_of_ble_eq_true rfl) ?_
  refine Cl.mono H (fun r M32 h => ?_)
  obtain ⟨rfl, H⟩ := h
  obtain ⟨⟨O, F⟩, H⟩ := H
  refine And.intro O ?_
  refine And.intro rfl ?_
  replace H := H _ rfl
  exact H

theorem i_X11_120 {G : GT} {d : Nat} {M : Mem} {o : Nat} (O : mK M o = 12) (F : frM M)  {Q : Mem → Prop} (H : ∀ M34, M34 = mnew M 8 9 → CV G d 66 [.ref (mN M)] M34 (fun M35 => (mK M35 o = 12 ∧ frM M35) ∧ (∀ M36, M36 = setr M35 o 11 (some (mN M)) → At G (d + 1) 108 131 [(0, .ref o)] [] M36 (qV Q)))) : At G (d + 1) 108 120 [(0, .ref o)] [] M (qV Q) := by
  refine vcc ok108 56 [4, 15, 26, 34, 42, 50, 61, 76, 87, 98, 109, 131, 136] ?_
  replace H := H _ rfl
  refine And.intro (Nat.le_of_ble_eq_true rfl) ?_
  refine And.intro (Nat.le_of_ble_eq_true rfl) ?_
  refine Cl.mono H (fun r M35 h => ?_)
  obtain ⟨rfl, H⟩ := h
  obtain ⟨⟨O, F⟩, H⟩ := H
  refine And.intro O ?_
  refine And.intro rfl ?_
  replace H := H _ rfl
  exact H

theorem i_X11_131 {G : GT} {d : Nat} {M : Mem} {o : Nat} (O : mK M o = 12) (F : frM M)  {Q : Mem → Prop} (H : ∀ M37, M37 = seti M o 14 (-1 : Int32) → At G (d + 1) 108 136 [] [] M37 (qV Q)) : At G (d + 1) 108 131 [(0, .ref o)] [] M (qV Q) := by
  refine vcc ok108 61 [4, 15, 26, 34, 42, 50, 61, 76, 87, 98, 109, 120, 136] ?_
  refine And.intro O ?_
  refine And.intro (Or.inl rfl) (And.intro (fun h => absurd h (by decide)) ?_)
  replace H := H _ rfl
  exact At.keep [] H

theorem i_X11_136 {G : GT} {d : Nat} {M : Mem} {o : Nat} (O : mK M o = 12) (F : frM M)  {Q : Mem → Prop} (H : Q M) : At G (d + 1) 108 136 [] [] M (qV Q) := by
  refine vcc ok108 64 [4, 15, 26, 34, 42, 50, 61, 76, 87, 98, 109, 120, 131] ?_
  exact ⟨rfl, H⟩

theorem i_X12 {G : GT} {d : Nat} {M : Mem} {o : Nat} (O : mK M o = 13) (F : frM M)  {Q : Mem → Prop} (H : At G (d + 1) 154 4 [(0, .ref o)] [] M (qV Q)) : CV G (d + 1) 154 [.ref o] M Q := by
  refine Cl.ofM (Nat.le_of_ble_eq_true rfl) rfl ?_
  refine vcc ok154 0 [4, 11, 20, 29, 36, 43, 51, 59, 67, 75, 83, 91, 100, 106, 115, 124, 133, 140, 148, 156, 164, 173, 181, 190, 198, 206, 214, 222, 231, 240, 249, 258, 266, 275, 284, 293, 302, 311, 320, 329, 338, 346, 355, 363, 371, 380, 387] ?_
  refine And.intro (Nat.le_of_ble_eq_true rfl) ?_
  exact H

theorem i_X12_4 {G : GT} {d : Nat} {M : Mem} {o : Nat} (O : mK M o = 13) (F : frM M)  {Q : Mem → Prop} (H : ¬ (3 : Int32) < 0 ∧ ((3 : Int32)).toNatClampNeg ≤ 1000000 ∧ ∀ M1, M1 = mnew M 15 ((3 : Int32)).toNatClampNeg → ∀ M2, M2 = setr M1 o 1 (some (mN M)) → At G (d + 1) 154 11 [(0, .ref o)] [] M2 (qV Q)) : At G (d + 1) 154 4 [(0, .ref o)] [] M (qV Q) := by
  refine vcc ok154 2 [11, 20, 29, 36, 43, 51, 59, 67, 75, 83, 91, 100, 106, 115, 124, 133, 140, 148, 156, 164, 173, 181, 190, 198, 206, 214, 222, 231, 240, 249, 258, 266, 275, 284, 293, 302, 311, 320, 329, 338, 346, 355, 363, 371, 380, 387] ?_
  refine And.intro H.1 (And.intro H.2.1 ?_)
  replace H := H.2.2 _ rfl
  refine And.intro ((mk_mnew F O) :) ?_
  refine And.intro rfl ?_
  replace H := H _ rfl
  exact H

theorem i_X12_11 {G : GT} {d : Nat} {M : Mem} {o : Nat} (O : mK M o = 13) (F : frM M)  {Q : Mem → Prop} (H : ¬ (200 : Int32) < 0 ∧ ((200 : Int32)).toNatClampNeg ≤ 1000000 ∧ ∀ M3, M3 = mnew M 15 ((200 : Int32)).toNatClampNeg → ∀ M4, M4 = setr M3 o 2 (some (mN M)) → At G (d + 1) 154 20 [(0, .ref o)] [] M4 (qV Q)) : At G (d + 1) 154 11 [(0, .ref o)] [] M (qV Q) := by
  refine vcc ok154 6 [4, 20, 29, 36, 43, 51, 59, 67, 75, 83, 91, 100, 106, 115, 124, 133, 140, 148, 156, 164, 173, 181, 190, 198, 206, 214, 222, 231, 240, 249, 258, 266, 275, 284, 293, 302, 311, 320, 329, 338, 346, 355, 363, 371, 380, 387] ?_
  refine And.intro H.1 (And.intro H.2.1 ?_)
  replace H := H.2.2 _ rfl
  refine And.intro ((mk_mnew F O) :) ?_
  refine And.intro rfl ?_
  replace H := H _ rfl
  exact H

theorem i_X12_20 {G : GT} {d : Nat} {M : Mem} {o : Nat} (O : mK M o = 13) (F : frM M)  {Q : Mem → Prop} (H : ¬ (200 : Int32) < 0 ∧ ((200 : Int32)).toNatClampNeg ≤ 1000000 ∧ ∀ M5, M5 = mnew M 15 ((200 : Int32)).toNatClampNeg → ∀ M6, M6 = setr M5 o 3 (some (mN M)) → At G (d + 1) 154 29 [(0, .ref o)] [] M6 (qV Q)) : At G (d + 1) 154 20 [(0, .ref o)] [] M (qV Q) := by
  refine vcc ok154 10 [4, 11, 29, 36, 43, 51, 59, 67, 75, 83, 91, 100, 106, 115, 124, 133, 140, 148, 156, 164, 173, 181, 190, 198, 206, 214, 222, 231, 240, 249, 258, 266, 275, 284, 293, 302, 311, 320, 329, 338, 346, 355, 363, 371, 380, 387] ?_
  refine And.intro H.1 (And.intro H.2.1 ?_)
  replace H := H.2.2 _ rfl
  refine And.intro ((mk_mnew F O) :) ?_
  refine And.intro rfl ?_
  replace H := H _ rfl
  exact H

theorem i_X12_29 {G : GT} {d : Nat} {M : Mem} {o : Nat} (O : mK M o = 13) (F : frM M)  {Q : Mem → Prop} (H : ¬ (4 : Int32) < 0 ∧ ((4 : Int32)).toNatClampNeg ≤ 1000000 ∧ ∀ M7, M7 = mnew M 15 ((4 : Int32)).toNatClampNeg → ∀ M8, M8 = setr M7 o 4 (some (mN M)) → At G (d + 1) 154 36 [(0, .ref o)] [] M8 (qV Q)) : At G (d + 1) 154 29 [(0, .ref o)] [] M (qV Q) := by
  refine vcc ok154 14 [4, 11, 20, 36, 43, 51, 59, 67, 75, 83, 91, 100, 106, 115, 124, 133, 140, 148, 156, 164, 173, 181, 190, 198, 206, 214, 222, 231, 240, 249, 258, 266, 275, 284, 293, 302, 311, 320, 329, 338, 346, 355, 363, 371, 380, 387] ?_
  refine And.intro H.1 (And.intro H.2.1 ?_)
  replace H := H.2.2 _ rfl
  refine And.intro ((mk_mnew F O) :) ?_
  refine And.intro rfl ?_
  replace H := H _ rfl
  exact H

theorem i_X12_36 {G : GT} {d : Nat} {M : Mem} {o : Nat} (O : mK M o = 13) (F : frM M)  {Q : Mem → Prop} (H : ¬ (4 : Int32) < 0 ∧ ((4 : Int32)).toNatClampNeg ≤ 1000000 ∧ ∀ M9, M9 = mnew M 15 ((4 : Int32)).toNatClampNeg → ∀ M10, M10 = setr M9 o 5 (some (mN M)) → At G (d + 1) 154 43 [(0, .ref o)] [] M10 (qV Q)) : At G (d + 1) 154 36 [(0, .ref o)] [] M (qV Q) := by
  refine vcc ok154 18 [4, 11, 20, 29, 43, 51, 59, 67, 75, 83, 91, 100, 106, 115, 124, 133, 140, 148, 156, 164, 173, 181, 190, 198, 206, 214, 222, 231, 240, 249, 258, 266, 275, 284, 293, 302, 311, 320, 329, 338, 346, 355, 363, 371, 380, 387] ?_
  refine And.intro H.1 (And.intro H.2.1 ?_)
  replace H := H.2.2 _ rfl
  refine And.intro ((mk_mnew F O) :) ?_
  refine And.intro rfl ?_
  replace H := H _ rfl
  exact H

theorem i_X12_43 {G : GT} {d : Nat} {M : Mem} {o : Nat} (O : mK M o = 13) (F : frM M)  {Q : Mem → Prop} (H : ¬ (7 : Int32) < 0 ∧ ((7 : Int32)).toNatClampNeg ≤ 1000000 ∧ ∀ M11, M11 = mnew M 15 ((7 : Int32)).toNatClampNeg → ∀ M12, M12 = setr M11 o 6 (some (mN M)) → At G (d + 1) 154 51 [(0, .ref o)] [] M12 (qV Q)) : At G (d + 1) 154 43 [(0, .ref o)] [] M (qV Q) := by
  refine vcc ok154 22 [4, 11, 20, 29, 36, 51, 59, 67, 75, 83, 91, 100, 106, 115, 124, 133, 140, 148, 156, 164, 173, 181, 190, 198, 206, 214, 222, 231, 240, 249, 258, 266, 275, 284, 293, 302, 311, 320, 329, 338, 346, 355, 363, 371, 380, 387] ?_
  refine And.intro H.1 (And.intro H.2.1 ?_)
  replace H := H.2.2 _ rfl
  refine And.intro ((mk_mnew F O) :) ?_
  refine And.intro rfl ?_
  replace H := H _ rfl
  exact H

theorem i_X12_51 {G : GT} {d : Nat} {M : Mem} {o : Nat} (O : mK M o = 13) (F : frM M)  {Q : Mem → Prop} (H : ¬ (64 : Int32) < 0 ∧ ((64 : Int32)).toNatClampNeg ≤ 1000000 ∧ ∀ M13, M13 = mnew M 15 ((64 : Int32)).toNatClampNeg → ∀ M14, M14 = setr M13 o 7 (some (mN M)) → At G (d + 1) 154 59 [(0, .ref o)] [] M14 (qV Q)) : At G (d + 1) 154 51 [(0, .ref o)] [] M (qV Q) := by
  refine vcc ok154 26 [4, 11, 20, 29, 36, 43, 59, 67, 75, 83, 91, 100, 106, 115, 124, 133, 140, 148, 156, 164, 173, 181, 190, 198, 206, 214, 222, 231, 240, 249, 258, 266, 275, 284, 293, 302, 311, 320, 329, 338, 346, 355, 363, 371, 380, 387] ?_
  refine And.intro H.1 (And.intro H.2.1 ?_)
  replace H := H.2.2 _ rfl
  refine And.intro ((mk_mnew F O) :) ?_
  refine And.intro rfl ?_
  replace H := H _ rfl
  exact H

theorem i_X12_59 {G : GT} {d : Nat} {M : Mem} {o : Nat} (O : mK M o = 13) (F : frM M)  {Q : Mem → Prop} (H : ¬ (64 : Int32) < 0 ∧ ((64 : Int32)).toNatClampNeg ≤ 1000000 ∧ ∀ M15, M15 = mnew M 15 ((64 : Int32)).toNatClampNeg → ∀ M16, M16 = setr M15 o 8 (some (mN M)) → At G (d + 1) 154 67 [(0, .ref o)] [] M16 (qV Q)) : At G (d + 1) 154 59 [(0, .ref o)] [] M (qV Q) := by
  refine vcc ok154 30 [4, 11, 20, 29, 36, 43, 51, 67, 75, 83, 91, 100, 106, 115, 124, 133, 140, 148, 156, 164, 173, 181, 190, 198, 206, 214, 222, 231, 240, 249, 258, 266, 275, 284, 293, 302, 311, 320, 329, 338, 346, 355, 363, 371, 380, 387] ?_
  refine And.intro H.1 (And.intro H.2.1 ?_)
  replace H := H.2.2 _ rfl
  refine And.intro ((mk_mnew F O) :) ?_
  refine And.intro rfl ?_
  replace H := H _ rfl
  exact H

theorem i_X12_67 {G : GT} {d : Nat} {M : Mem} {o : Nat} (O : mK M o = 13) (F : frM M)  {Q : Mem → Prop} (H : ¬ (64 : Int32) < 0 ∧ ((64 : Int32)).toNatClampNeg ≤ 1000000 ∧ ∀ M17, M17 = mnew M 15 ((64 : Int32)).toNatClampNeg → ∀ M18, M18 = setr M17 o 9 (some (mN M)) → At G (d + 1) 154 75 [(0, .ref o)] [] M18 (qV Q)) : At G (d + 1) 154 67 [(0, .ref o)] [] M (qV Q) := by
  refine vcc ok154 34 [4, 11, 20, 29, 36, 43, 51, 59, 75, 83, 91, 100, 106, 115, 124, 133, 140, 148, 156, 164, 173, 181, 190, 198, 206, 214, 222, 231, 240, 249, 258, 266, 275, 284, 293, 302, 311, 320, 329, 338, 346, 355, 363, 371, 380, 387] ?_
  refine And.intro H.1 (And.intro H.2.1 ?_)
  replace H := H.2.2 _ rfl
  refine And.intro ((mk_mnew F O) :) ?_
  refine And.intro rfl ?_
  replace H := H _ rfl
  exact H

theorem i_X12_75 {G : GT} {d : Nat} {M : Mem} {o : Nat} (O : mK M o = 13) (F : frM M)  {Q : Mem → Prop} (H : ¬ (64 : Int32) < 0 ∧ ((64 : Int32)).toNatClampNeg ≤ 1000000 ∧ ∀ M19, M19 = mnew M 15 ((64 : Int32)).toNatClampNeg → ∀ M20, M20 = setr M19 o 10 (some (mN M)) → At G (d + 1) 154 83 [(0, .ref o)] [] M20 (qV Q)) : At G (d + 1) 154 75 [(0, .ref o)] [] M (qV Q) := by
  refine vcc ok154 38 [4, 11, 20, 29, 36, 43, 51, 59, 67, 83, 91, 100, 106, 115, 124, 133, 140, 148, 156, 164, 173, 181, 190, 198, 206, 214, 222, 231, 240, 249, 258, 266, 275, 284, 293, 302, 311, 320, 329, 338, 346, 355, 363, 371, 380, 387] ?_
  refine And.intro H.1 (And.intro H.2.1 ?_)
  replace H := H.2.2 _ rfl
  refine And.intro ((mk_mnew F O) :) ?_
  refine And.intro rfl ?_
  replace H := H _ rfl
  exact H

theorem i_X12_83 {G : GT} {d : Nat} {M : Mem} {o : Nat} (O : mK M o = 13) (F : frM M)  {Q : Mem → Prop} (H : ¬ (64 : Int32) < 0 ∧ ((64 : Int32)).toNatClampNeg ≤ 1000000 ∧ ∀ M21, M21 = mnew M 15 ((64 : Int32)).toNatClampNeg → ∀ M22, M22 = setr M21 o 11 (some (mN M)) → At G (d + 1) 154 91 [(0, .ref o)] [] M22 (qV Q)) : At G (d + 1) 154 83 [(0, .ref o)] [] M (qV Q) := by
  refine vcc ok154 42 [4, 11, 20, 29, 36, 43, 51, 59, 67, 75, 91, 100, 106, 115, 124, 133, 140, 148, 156, 164, 173, 181, 190, 198, 206, 214, 222, 231, 240, 249, 258, 266, 275, 284, 293, 302, 311, 320, 329, 338, 346, 355, 363, 371, 380, 387] ?_
  refine And.intro H.1 (And.intro H.2.1 ?_)
  replace H := H.2.2 _ rfl
  refine And.intro ((mk_mnew F O) :) ?_
  refine And.intro rfl ?_
  replace H := H _ rfl
  exact H

theorem i_X12_91 {G : GT} {d : Nat} {M : Mem} {o : Nat} (O : mK M o = 13) (F : frM M)  {Q : Mem → Prop} (H : ¬ (1280 : Int32) < 0 ∧ ((1280 : Int32)).toNatClampNeg ≤ 1000000 ∧ ∀ M23, M23 = mnew M 15 ((1280 : Int32)).toNatClampNeg → ∀ M24, M24 = setr M23 o 12 (some (mN M)) → At G (d + 1) 154 100 [(0, .ref o)] [] M24 (qV Q)) : At G (d + 1) 154 91 [(0, .ref o)] [] M (qV Q) := by
  refine vcc ok154 46 [4, 11, 20, 29, 36, 43, 51, 59, 67, 75, 83, 100, 106, 115, 124, 133, 140, 148, 156, 164, 173, 181, 190, 198, 206, 214, 222, 231, 240, 249, 258, 266, 275, 284, 293, 302, 311, 320, 329, 338, 346, 355, 363, 371, 380, 387] ?_
  refine And.intro H.1 (And.intro H.2.1 ?_)
  replace H := H.2.2 _ rfl
  refine And.intro ((mk_mnew F O) :) ?_
  refine And.intro rfl ?_
  replace H := H _ rfl
  exact H

theorem i_X12_100 {G : GT} {d : Nat} {M : Mem} {o : Nat} (O : mK M o = 13) (F : frM M)  {Q : Mem → Prop} (H : ∀ M25, M25 = seti M o 22 (7 : Int32) → At G (d + 1) 154 106 [(0, .ref o)] [] M25 (qV Q)) : At G (d + 1) 154 100 [(0, .ref o)] [] M (qV Q) := by
  refine vcc ok154 50 [4, 11, 20, 29, 36, 43, 51, 59, 67, 75, 83, 91, 106, 115, 124, 133, 140, 148, 156, 164, 173, 181, 190, 198, 206, 214, 222, 231, 240, 249, 258, 266, 275, 284, 293, 302, 311, 320, 329, 338, 346, 355, 363, 371, 380, 387] ?_
  refine And.intro O ?_
  refine And.intro (Or.inl rfl) (And.intro (fun h => absurd h (by decide)) ?_)
  replace H := H _ rfl
  exact H

theorem i_X12_106 {G : GT} {d : Nat} {M : Mem} {o : Nat} (O : mK M o = 13) (F : frM M)  {Q : Mem → Prop} (H : ¬ (400 : Int32) < 0 ∧ ((400 : Int32)).toNatClampNeg ≤ 1000000 ∧ ∀ M26, M26 = mnew M 14 ((400 : Int32)).toNatClampNeg → ∀ M27, M27 = setr M26 o 23 (some (mN M)) → At G (d + 1) 154 115 [(0, .ref o)] [] M27 (qV Q)) : At G (d + 1) 154 106 [(0, .ref o)] [] M (qV Q) := by
  refine vcc ok154 53 [4, 11, 20, 29, 36, 43, 51, 59, 67, 75, 83, 91, 100, 115, 124, 133, 140, 148, 156, 164, 173, 181, 190, 198, 206, 214, 222, 231, 240, 249, 258, 266, 275, 284, 293, 302, 311, 320, 329, 338, 346, 355, 363, 371, 380, 387] ?_
  refine And.intro H.1 (And.intro H.2.1 ?_)
  replace H := H.2.2 _ rfl
  refine And.intro ((mk_mnew F O) :) ?_
  refine And.intro rfl ?_
  replace H := H _ rfl
  exact H

theorem i_X12_115 {G : GT} {d : Nat} {M : Mem} {o : Nat} (O : mK M o = 13) (F : frM M)  {Q : Mem → Prop} (H : ¬ (1200 : Int32) < 0 ∧ ((1200 : Int32)).toNatClampNeg ≤ 1000000 ∧ ∀ M28, M28 = mnew M 15 ((1200 : Int32)).toNatClampNeg → ∀ M29, M29 = setr M28 o 24 (some (mN M)) → At G (d + 1) 154 124 [(0, .ref o)] [] M29 (qV Q)) : At G (d + 1) 154 115 [(0, .ref o)] [] M (qV Q) := by
  refine vcc ok154 57 [4, 11, 20, 29, 36, 43, 51, 59, 67, 75, 83, 91, 100, 106, 124, 133, 140, 148, 156, 164, 173, 181, 190, 198, 206, 214, 222, 231, 240, 249, 258, 266, 275, 284, 293, 302, 311, 320, 329, 338, 346, 355, 363, 371, 380, 387] ?_
  refine And.intro H.1 (And.intro H.2.1 ?_)
  replace H := H.2.2 _ rfl
  refine And.intro ((mk_mnew F O) :) ?_
  refine And.intro rfl ?_
  replace H := H _ rfl
  exact H

theorem i_X12_124 {G : GT} {d : Nat} {M : Mem} {o : Nat} (O : mK M o = 13) (F : frM M)  {Q : Mem → Prop} (H : ¬ (1200 : Int32) < 0 ∧ ((1200 : Int32)).toNatClampNeg ≤ 1000000 ∧ ∀ M30, M30 = mnew M 15 ((1200 : Int32)).toNatClampNeg → ∀ M31, M31 = setr M30 o 25 (some (mN M)) → At G (d + 1) 154 133 [(0, .ref o)] [] M31 (qV Q)) : At G (d + 1) 154 124 [(0, .ref o)] [] M (qV Q) := by
  refine vcc ok154 61 [4, 11, 20, 29, 36, 43, 51, 59, 67, 75, 83, 91, 100, 106, 115, 133, 140, 148, 156, 164, 173, 181, 190, 198, 206, 214, 222, 231, 240, 249, 258, 266, 275, 284, 293, 302, 311, 320, 329, 338, 346, 355, 363, 371, 380, 387] ?_
  refine And.intro H.1 (And.intro H.2.1 ?_)
  replace H := H.2.2 _ rfl
  refine And.intro ((mk_mnew F O) :) ?_
  refine And.intro rfl ?_
  replace H := H _ rfl
  exact H

theorem i_X12_133 {G : GT} {d : Nat} {M : Mem} {o : Nat} (O : mK M o = 13) (F : frM M)  {Q : Mem → Prop} (H : ¬ (4 : Int32) < 0 ∧ ((4 : Int32)).toNatClampNeg ≤ 1000000 ∧ ∀ M32, M32 = mnew M 15 ((4 : Int32)).toNatClampNeg → ∀ M33, M33 = setr M32 o 26 (some (mN M)) → At G (d + 1) 154 140 [(0, .ref o)] [] M33 (qV Q)) : At G (d + 1) 154 133 [(0, .ref o)] [] M (qV Q) := by
  refine vcc ok154 65 [4, 11, 20, 29, 36, 43, 51, 59, 67, 75, 83, 91, 100, 106, 115, 124, 140, 148, 156, 164, 173, 181, 190, 198, 206, 214, 222, 231, 240, 249, 258, 266, 275, 284, 293, 302, 311, 320, 329, 338, 346, 355, 363, 371, 380, 387] ?_
  refine And.intro H.1 (And.intro H.2.1 ?_)
  replace H := H.2.2 _ rfl
  refine And.intro ((mk_mnew F O) :) ?_
  refine And.intro rfl ?_
  replace H := H _ rfl
  exact H

theorem i_X12_140 {G : GT} {d : Nat} {M : Mem} {o : Nat} (O : mK M o = 13) (F : frM M)  {Q : Mem → Prop} (H : ¬ (48 : Int32) < 0 ∧ ((48 : Int32)).toNatClampNeg ≤ 1000000 ∧ ∀ M34, M34 = mnew M 15 ((48 : Int32)).toNatClampNeg → ∀ M35, M35 = setr M34 o 27 (some (mN M)) → At G (d + 1) 154 148 [(0, .ref o)] [] M35 (qV Q)) : At G (d + 1) 154 140 [(0, .ref o)] [] M (qV Q) := by
  refine vcc ok154 69 [4, 11, 20, 29, 36, 43, 51, 59, 67, 75, 83, 91, 100, 106, 115, 124, 133, 148, 156, 164, 173, 181, 190, 198, 206, 214, 222, 231, 240, 249, 258, 266, 275, 284, 293, 302, 311, 320, 329, 338, 346, 355, 363, 371, 380, 387] ?_
  refine And.intro H.1 (And.intro H.2.1 ?_)
  replace H := H.2.2 _ rfl
  refine And.intro ((mk_mnew F O) :) ?_
  refine And.intro rfl ?_
  replace H := H _ rfl
  exact H

theorem i_X12_148 {G : GT} {d : Nat} {M : Mem} {o : Nat} (O : mK M o = 13) (F : frM M)  {Q : Mem → Prop} (H : ¬ (48 : Int32) < 0 ∧ ((48 : Int32)).toNatClampNeg ≤ 1000000 ∧ ∀ M36, M36 = mnew M 15 ((48 : Int32)).toNatClampNeg → ∀ M37, M37 = setr M36 o 28 (some (mN M)) → At G (d + 1) 154 156 [(0, .ref o)] [] M37 (qV Q)) : At G (d + 1) 154 148 [(0, .ref o)] [] M (qV Q) := by
  refine vcc ok154 73 [4, 11, 20, 29, 36, 43, 51, 59, 67, 75, 83, 91, 100, 106, 115, 124, 133, 140, 156, 164, 173, 181, 190, 198, 206, 214, 222, 231, 240, 249, 258, 266, 275, 284, 293, 302, 311, 320, 329, 338, 346, 355, 363, 371, 380, 387] ?_
  refine And.intro H.1 (And.intro H.2.1 ?_)
  replace H := H.2.2 _ rfl
  refine And.intro ((mk_mnew F O) :) ?_
  refine And.intro rfl ?_
  replace H := H _ rfl
  exact H

theorem i_X12_156 {G : GT} {d : Nat} {M : Mem} {o : Nat} (O : mK M o = 13) (F : frM M)  {Q : Mem → Prop} (H : ¬ (48 : Int32) < 0 ∧ ((48 : Int32)).toNatClampNeg ≤ 1000000 ∧ ∀ M38, M38 = mnew M 15 ((48 : Int32)).toNatClampNeg → ∀ M39, M39 = setr M38 o 29 (some (mN M)) → At G (d + 1) 154 164 [(0, .ref o)] [] M39 (qV Q)) : At G (d + 1) 154 156 [(0, .ref o)] [] M (qV Q) := by
  refine vcc ok154 77 [4, 11, 20, 29, 36, 43, 51, 59, 67, 75, 83, 91, 100, 106, 115, 124, 133, 140, 148, 164, 173, 181, 190, 198, 206, 214, 222, 231, 240, 249, 258, 266, 275, 284, 293, 302, 311, 320, 329, 338, 346, 355, 363, 371, 380, 387] ?_
  refine And.intro H.1 (And.intro H.2.1 ?_)
  replace H := H.2.2 _ rfl
  refine And.intro ((mk_mnew F O) :) ?_
  refine And.intro rfl ?_
  replace H := H _ rfl
  exact H

theorem i_X12_164 {G : GT} {d : Nat} {M : Mem} {o : Nat} (O : mK M o = 13) (F : frM M)  {Q : Mem → Prop} (H : ¬ (402 : Int32) < 0 ∧ ((402 : Int32)).toNatClampNeg ≤ 1000000 ∧ ∀ M40, M40 = mnew M 15 ((402 : Int32)).toNatClampNeg → ∀ M41, M41 = setr M40 o 30 (some (mN M)) → At G (d + 1) 154 173 [(0, .ref o)] [] M41 (qV Q)) : At G (d + 1) 154 164 [(0, .ref o)] [] M (qV Q) := by
  refine vcc ok154 81 [4, 11, 20, 29, 36, 43, 51, 59, 67, 75, 83, 91, 100, 106, 115, 124, 133, 140, 148, 156, 173, 181, 190, 198, 206, 214, 222, 231, 240, 249, 258, 266, 275, 284, 293, 302, 311, 320, 329, 338, 346, 355, 363, 371, 380, 387] ?_
  refine And.intro H.1 (And.intro H.2.1 ?_)
  replace H := H.2.2 _ rfl
  refine And.intro ((mk_mnew F O) :) ?_
  refine And.intro rfl ?_
  replace H := H _ rfl
  exact H

theorem i_X12_173 {G : GT} {d : Nat} {M : Mem} {o : Nat} (O : mK M o = 13) (F : frM M)  {Q : Mem → Prop} (H : ¬ (7 : Int32) < 0 ∧ ((7 : Int32)).toNatClampNeg ≤ 1000000 ∧ ∀ M42, M42 = mnew M 16 ((7 : Int32)).toNatClampNeg → ∀ M43, M43 = setr M42 o 31 (some (mN M)) → At G (d + 1) 154 181 [(0, .ref o)] [] M43 (qV Q)) : At G (d + 1) 154 173 [(0, .ref o)] [] M (qV Q) := by
  refine vcc ok154 85 [4, 11, 20, 29, 36, 43, 51, 59, 67, 75, 83, 91, 100, 106, 115, 124, 133, 140, 148, 156, 164, 181, 190, 198, 206, 214, 222, 231, 240, 249, 258, 266, 275, 284, 293, 302, 311, 320, 329, 338, 346, 355, 363, 371, 380, 387] ?_
  refine And.intro H.1 (And.intro H.2.1 ?_)
  replace H := H.2.2 _ rfl
  refine And.intro ((mk_mnew F O) :) ?_
  refine And.intro rfl ?_
  replace H := H _ rfl
  exact H

theorem i_X12_181 {G : GT} {d : Nat} {M : Mem} {o : Nat} (O : mK M o = 13) (F : frM M)  {Q : Mem → Prop} (H : ¬ (300 : Int32) < 0 ∧ ((300 : Int32)).toNatClampNeg ≤ 1000000 ∧ ∀ M44, M44 = mnew M 16 ((300 : Int32)).toNatClampNeg → ∀ M45, M45 = setr M44 o 32 (some (mN M)) → At G (d + 1) 154 190 [(0, .ref o)] [] M45 (qV Q)) : At G (d + 1) 154 181 [(0, .ref o)] [] M (qV Q) := by
  refine vcc ok154 89 [4, 11, 20, 29, 36, 43, 51, 59, 67, 75, 83, 91, 100, 106, 115, 124, 133, 140, 148, 156, 164, 173, 190, 198, 206, 214, 222, 231, 240, 249, 258, 266, 275, 284, 293, 302, 311, 320, 329, 338, 346, 355, 363, 371, 380, 387] ?_
  refine And.intro H.1 (And.intro H.2.1 ?_)
  replace H := H.2.2 _ rfl
  refine And.intro ((mk_mnew F O) :) ?_
  refine And.intro rfl ?_
  replace H := H _ rfl
  exact H

theorem i_X12_190 {G : GT} {d : Nat} {M : Mem} {o : Nat} (O : mK M o = 13) (F : frM M)  {Q : Mem → Prop} (H : ¬ (64 : Int32) < 0 ∧ ((64 : Int32)).toNatClampNeg ≤ 1000000 ∧ ∀ M46, M46 = mnew M 16 ((64 : Int32)).toNatClampNeg → ∀ M47, M47 = setr M46 o 33 (some (mN M)) → At G (d + 1) 154 198 [(0, .ref o)] [] M47 (qV Q)) : At G (d + 1) 154 190 [(0, .ref o)] [] M (qV Q) := by
  refine vcc ok154 93 [4, 11, 20, 29, 36, 43, 51, 59, 67, 75, 83, 91, 100, 106, 115, 124, 133, 140, 148, 156, 164, 173, 181, 198, 206, 214, 222, 231, 240, 249, 258, 266, 275, 284, 293, 302, 311, 320, 329, 338, 346, 355, 363, 371, 380, 387] ?_
  refine And.intro H.1 (And.intro H.2.1 ?_)
  replace H := H.2.2 _ rfl
  refine And.intro ((mk_mnew F O) :) ?_
  refine And.intro rfl ?_
  replace H := H _ rfl
  exact H

theorem i_X12_198 {G : GT} {d : Nat} {M : Mem} {o : Nat} (O : mK M o = 13) (F : frM M)  {Q : Mem → Prop} (H : ¬ (64 : Int32) < 0 ∧ ((64 : Int32)).toNatClampNeg ≤ 1000000 ∧ ∀ M48, M48 = mnew M 15 ((64 : Int32)).toNatClampNeg → ∀ M49, M49 = setr M48 o 34 (some (mN M)) → At G (d + 1) 154 206 [(0, .ref o)] [] M49 (qV Q)) : At G (d + 1) 154 198 [(0, .ref o)] [] M (qV Q) := by
  refine vcc ok154 97 [4, 11, 20, 29, 36, 43, 51, 59, 67, 75, 83, 91, 100, 106, 115, 124, 133, 140, 148, 156, 164, 173, 181, 190, 206, 214, 222, 231, 240, 249, 258, 266, 275, 284, 293, 302, 311, 320, 329, 338, 346, 355, 363, 371, 380, 387] ?_
  refine And.intro H.1 (And.intro H.2.1 ?_)
  replace H := H.2.2 _ rfl
  refine And.intro ((mk_mnew F O) :) ?_
  refine And.intro rfl ?_
  replace H := H _ rfl
  exact H

theorem i_X12_206 {G : GT} {d : Nat} {M : Mem} {o : Nat} (O : mK M o = 13) (F : frM M)  {Q : Mem → Prop} (H : ¬ (64 : Int32) < 0 ∧ ((64 : Int32)).toNatClampNeg ≤ 1000000 ∧ ∀ M50, M50 = mnew M 17 ((64 : Int32)).toNatClampNeg → ∀ M51, M51 = setr M50 o 35 (some (mN M)) → At G (d + 1) 154 214 [(0, .ref o)] [] M51 (qV Q)) : At G (d + 1) 154 206 [(0, .ref o)] [] M (qV Q) := by
  refine vcc ok154 101 [4, 11, 20, 29, 36, 43, 51, 59, 67, 75, 83, 91, 100, 106, 115, 124, 133, 140, 148, 156, 164, 173, 181, 190, 198, 214, 222, 231, 240, 249, 258, 266, 275, 284, 293, 302, 311, 320, 329, 338, 346, 355, 363, 371, 380, 387] ?_
  refine And.intro H.1 (And.intro H.2.1 ?_)
  replace H := H.2.2 _ rfl
  refine And.intro ((mk_mnew F O) :) ?_
  refine And.intro rfl ?_
  replace H := H _ rfl
  exact H

theorem i_X12_214 {G : GT} {d : Nat} {M : Mem} {o : Nat} (O : mK M o = 13) (F : frM M)  {Q : Mem → Prop} (H : ¬ (64 : Int32) < 0 ∧ ((64 : Int32)).toNatClampNeg ≤ 1000000 ∧ ∀ M52, M52 = mnew M 17 ((64 : Int32)).toNatClampNeg → ∀ M53, M53 = setr M52 o 36 (some (mN M)) → At G (d + 1) 154 222 [(0, .ref o)] [] M53 (qV Q)) : At G (d + 1) 154 214 [(0, .ref o)] [] M (qV Q) := by
  refine vcc ok154 105 [4, 11, 20, 29, 36, 43, 51, 59, 67, 75, 83, 91, 100, 106, 115, 124, 133, 140, 148, 156, 164, 173, 181, 190, 198, 206, 222, 231, 240, 249, 258, 266, 275, 284, 293, 302, 311, 320, 329, 338, 346, 355, 363, 371, 380, 387] ?_
  refine And.intro H.1 (And.intro H.2.1 ?_)
  replace H := H.2.2 _ rfl
  refine And.intro ((mk_mnew F O) :) ?_
  refine And.intro rfl ?_
  replace H := H _ rfl
  exact H

theorem i_X12_222 {G : GT} {d : Nat} {M : Mem} {o : Nat} (O : mK M o = 13) (F : frM M)  {Q : Mem → Prop} (H : ¬ (401 : Int32) < 0 ∧ ((401 : Int32)).toNatClampNeg ≤ 1000000 ∧ ∀ M54, M54 = mnew M 15 ((401 : Int32)).toNatClampNeg → ∀ M55, M55 = setr M54 o 37 (some (mN M)) → At G (d + 1) 154 231 [(0, .ref o)] [] M55 (qV Q)) : At G (d + 1) 154 222 [(0, .ref o)] [] M (qV Q) := by
  refine vcc ok154 109 [4, 11, 20, 29, 36, 43, 51, 59, 67, 75, 83, 91, 100, 106, 115, 124, 133, 140, 148, 156, 164, 173, 181, 190, 198, 206, 214, 231, 240, 249, 258, 266, 275, 284, 293, 302, 311, 320, 329, 338, 346, 355, 363, 371, 380, 387] ?_
  refine And.intro H.1 (And.intro H.2.1 ?_)
  replace H := H.2.2 _ rfl
  refine And.intro ((mk_mnew F O) :) ?_
  refine And.intro rfl ?_
  replace H := H _ rfl
  exact H

theorem i_X12_231 {G : GT} {d : Nat} {M : Mem} {o : Nat} (O : mK M o = 13) (F : frM M)  {Q : Mem → Prop} (H : ¬ (401 : Int32) < 0 ∧ ((401 : Int32)).toNatClampNeg ≤ 1000000 ∧ ∀ M56, M56 = mnew M 15 ((401 : Int32)).toNatClampNeg → ∀ M57, M57 = setr M56 o 38 (some (mN M)) → At G (d + 1) 154 240 [(0, .ref o)] [] M57 (qV Q)) : At G (d + 1) 154 231 [(0, .ref o)] [] M (qV Q) := by
  refine vcc ok154 113 [4, 11, 20, 29, 36, 43, 51, 59, 67, 75, 83, 91, 100, 106, 115, 124, 133, 140, 148, 156, 164, 173, 181, 190, 198, 206, 214, 222, 240, 249, 258, 266, 275, 284, 293, 302, 311, 320, 329, 338, 346, 355, 363, 371, 380, 387] ?_
  refine And.intro H.1 (And.intro H.2.1 ?_)
  replace H := H.2.2 _ rfl
  refine And.intro ((mk_mnew F O) :) ?_
  refine And.intro rfl ?_
  replace H := H _ rfl
  exact H

theorem i_X12_240 {G : GT} {d : Nat} {M : Mem} {o : Nat} (O : mK M o = 13) (F : frM M)  {Q : Mem → Prop} (H : ¬ (200 : Int32) < 0 ∧ ((200 : Int32)).toNatClampNeg ≤ 1000000 ∧ ∀ M58, M58 = mnew M 15 ((200 : Int32)).toNatClampNeg → ∀ M59, M59 = setr M58 o 39 (some (mN M)) → At G (d + 1) 154 249 [(0, .ref o)] [] M59 (qV Q)) : At G (d + 1) 154 240 [(0, .ref o)] [] M (qV Q) := by
  refine vcc ok154 117 [4, 11, 20, 29, 36, 43, 51, 59, 67, 75, 83, 91, 100, 106, 115, 124, 133, 140, 148, 156, 164, 173, 181, 190, 198, 206, 214, 222, 231, 249, 258, 266, 275, 284, 293, 302, 311, 320, 329, 338, 346, 355, 363, 371, 380, 387] ?_
  refine And.intro H.1 (And.intro H.2.1 ?_)
  replace H := H.2.2 _ rfl
  refine And.intro ((mk_mnew F O) :) ?_
  refine And.intro rfl ?_
  replace H := H _ rfl
  exact H

theorem i_X12_249 {G : GT} {d : Nat} {M : Mem} {o : Nat} (O : mK M o = 13) (F : frM M)  {Q : Mem → Prop} (H : ¬ (2000 : Int32) < 0 ∧ ((2000 : Int32)).toNatClampNeg ≤ 1000000 ∧ ∀ M60, M60 = mnew M 15 ((2000 : Int32)).toNatClampNeg → ∀ M61, M61 = setr M60 o 40 (some (mN M)) → At G (d + 1) 154 258 [(0, .ref o)] [] M61 (qV Q)) : At G (d + 1) 154 249 [(0, .ref o)] [] M (qV Q) := by
  refine vcc ok154 121 [4, 11, 20, 29, 36, 43, 51, 59, 67, 75, 83, 91, 100, 106, 115, 124, 133, 140, 148, 156, 164, 173, 181, 190, 198, 206, 214, 222, 231, 240, 258, 266, 275, 284, 293, 302, 311, 320, 329, 338, 346, 355, 363, 371, 380, 387] ?_
  refine And.intro H.1 (And.intro H.2.1 ?_)
  replace H := H.2.2 _ rfl
  refine And.intro ((mk_mnew F O) :) ?_
  refine And.intro rfl ?_
  replace H := H _ rfl
  exact H

theorem i_X12_258 {G : GT} {d : Nat} {M : Mem} {o : Nat} (O : mK M o = 13) (F : frM M)  {Q : Mem → Prop} (H : ¬ (64 : Int32) < 0 ∧ ((64 : Int32)).toNatClampNeg ≤ 1000000 ∧ ∀ M62, M62 = mnew M 17 ((64 : Int32)).toNatClampNeg → ∀ M63, M63 = setr M62 o 41 (some (mN M)) → At G (d + 1) 154 266 [(0, .ref o)] [] M63 (qV Q)) : At G (d + 1) 154 258 [(0, .ref o)] [] M (qV Q) := by
  refine vcc ok154 125 [4, 11, 20, 29, 36, 43, 51, 59, 67, 75, 83, 91, 100, 106, 115, 124, 133, 140, 148, 156, 164, 173, 181, 190, 198, 206, 214, 222, 231, 240, 249, 266, 275, 284, 293, 302, 311, 320, 329, 338, 346, 355, 363, 371, 380, 387] ?_
  refine And.intro H.1 (And.intro H.2.1 ?_)
  replace H := H.2.2 _ rfl
  refine And.intro ((mk_mnew F O) :) ?_
  refine And.intro rfl ?_
  replace H := H _ rfl
  exact H

theorem i_X12_266 {G : GT} {d : Nat} {M : Mem} {o : Nat} (O : mK M o = 13) (F : frM M)  {Q : Mem → Prop} (H : ¬ (200 : Int32) < 0 ∧ ((200 : Int32)).toNatClampNeg ≤ 1000000 ∧ ∀ M64, M64 = mnew M 17 ((200 : Int32)).toNatClampNeg → ∀ M65, M65 = setr M64 o 42 (some (mN M)) → At G (d + 1) 154 275 [(0, .ref o)] [] M65 (qV Q)) : At G (d + 1) 154 266 [(0, .ref o)] [] M (qV Q) := by
  refine vcc ok154 129 [4, 11, 20, 29, 36, 43, 51, 59, 67, 75, 83, 91, 100, 106, 115, 124, 133, 140, 148, 156, 164, 173, 181, 190, 198, 206, 214, 222, 231, 240, 249, 258, 275, 284, 293, 302, 311, 320, 329, 338, 346, 355, 363, 371, 380, 387] ?_
  refine And.intro H.1 (And.intro H.2.1 ?_)
  replace H := H.2.2 _ rfl
  refine And.intro ((mk_mnew F O) :) ?_
  refine And.intro rfl ?_
  replace H := H _ rfl
  exact H

theorem i_X12_275 {G : GT} {d : Nat} {M : Mem} {o : Nat} (O : mK M o = 13) (F : frM M)  {Q : Mem → Prop} (H : ¬ (400 : Int32) < 0 ∧ ((400 : Int32)).toNatClampNeg ≤ 1000000 ∧ ∀ M66, M66 = mnew M 15 ((400 : Int32)).toNatClampNeg → ∀ M67, M67 = setr M66 o 45 (some (mN M)) → At G (d + 1) 154 284 [(0, .ref o)] [] M67 (qV Q)) : At G (d + 1) 154 275 [(0, .ref o)] [] M (qV Q) := by
  refine vcc ok154 133 [4, 11, 20, 29, 36, 43, 51, 59, 67, 75, 83, 91, 100, 106, 115, 124, 133, 140, 148, 156, 164, 173, 181, 190, 198, 206, 214, 222, 231, 240, 249, 258, 266, 284, 293, 302, 311, 320, 329, 338, 346, 355, 363, 371, 380, 387] ?_
  refine And.intro H.1 (And.intro H.2.1 ?_)
  replace H := H.2.2 _ rfl
  refine And.intro ((mk_mnew F O) :) ?_
  refine And.intro rfl ?_
  replace H := H _ rfl
  exact H

theorem i_X12_284 {G : GT} {d : Nat} {M : Mem} {o : Nat} (O : mK M o = 13) (F : frM M)  {Q : Mem → Prop} (H : ¬ (401 : Int32) < 0 ∧ ((401 : Int32)).toNatClampNeg ≤ 1000000 ∧ ∀ M68, M68 = mnew M 15 ((401 : Int32)).toNatClampNeg → ∀ M69, M69 = setr M68 o 46 (some (mN M)) → At G (d + 1) 154 293 [(0, .ref o)] [] M69 (qV Q)) : At G (d + 1) 154 284 [(0, .ref o)] [] M (qV Q) := by
  refine vcc ok154 137 [4, 11, 20, 29, 36, 43, 51, 59, 67, 75, 83, 91, 100, 106, 115, 124, 133, 140, 148, 156, 164, 173, 181, 190, 198, 206, 214, 222, 231, 240, 249, 258, 266, 275, 293, 302, 311, 320, 329, 338, 346, 355, 363, 371, 380, 387] ?_
  refine And.intro H.1 (And.intro H.2.1 ?_)
  replace H := H.2.2 _ rfl
  refine And.intro ((mk_mnew F O) :) ?_
  refine And.intro rfl ?_
  replace H := H _ rfl
  exact H

theorem i_X12_293 {G : GT} {d : Nat} {M : Mem} {o : Nat} (O : mK M o = 13) (F : frM M)  {Q : Mem → Prop} (H : ¬ (401 : Int32) < 0 ∧ ((401 : Int32)).toNatClampNeg ≤ 1000000 ∧ ∀ M70, M70 = mnew M 15 ((401 : Int32)).toNatClampNeg → ∀ M71, M71 = setr M70 o 47 (some (mN M)) → At G (d + 1) 154 302 [(0, .ref o)] [] M71 (qV Q)) : At G (d + 1) 154 293 [(0, .ref o)] [] M (qV Q) := by
  refine vcc ok154 141 [4, 11, 20, 29, 36, 43, 51, 59, 67, 75, 83, 91, 100, 106, 115, 124, 133, 140, 148, 156, 164, 173, 181, 190, 198, 206, 214, 222, 231, 240, 249, 258, 266, 275, 284, 302, 311, 320, 329, 338, 346, 355, 363, 371, 380, 387] ?_
  refine And.intro H.1 (And.intro H.2.1 ?_)
  replace H := H.2.2 _ rfl
  refine And.intro ((mk_mnew F O) :) ?_
  refine And.intro rfl ?_
  replace H := H _ rfl
  exact H

theorem i_X12_302 {G : GT} {d : Nat} {M : Mem} {o : Nat} (O : mK M o = 13) (F : frM M)  {Q : Mem → Prop} (H : ¬ (401 : Int32) < 0 ∧ ((401 : Int32)).toNatClampNeg ≤ 1000000 ∧ ∀ M72, M72 = mnew M 15 ((401 : Int32)).toNatClampNeg → ∀ M73, M73 = setr M72 o 48 (some (mN M)) → At G (d + 1) 154 311 [(0, .ref o)] [] M73 (qV Q)) : At G (d + 1) 154 302 [(0, .ref o)] [] M (qV Q) := by
  refine vcc ok154 145 [4, 11, 20, 29, 36, 43, 51, 59, 67, 75, 83, 91, 100, 106, 115, 124, 133, 140, 148, 156, 164, 173, 181, 190, 198, 206, 214, 222, 231, 240, 249, 258, 266, 275, 284, 293, 311, 320, 329, 338, 346, 355, 363, 371, 380, 387] ?_
  refine And.intro H.1 (And.intro H.2.1 ?_)
  replace H := H.2.2 _ rfl
  refine And.intro ((mk_mnew F O) :) ?_
  refine And.intro rfl ?_
  replace H := H _ rfl
  exact H

theorem i_X12_311 {G : GT} {d : Nat} {M : Mem} {o : Nat} (O : mK M o = 13) (F : frM M)  {Q : Mem → Prop} (H : ¬ (401 : Int32) < 0 ∧ ((401 : Int32)).toNatClampNeg ≤ 1000000 ∧ ∀ M74, M74 = mnew M 15 ((401 : Int32)).toNatClampNeg → ∀ M75, M75 = setr M74 o 49 (some (mN M)) → At G (d + 1) 154 320 [(0, .ref o)] [] M75 (qV Q)) : At G (d + 1) 154 311 [(0, .ref o)] [] M (qV Q) := by
  refine vcc ok154 149 [4, 11, 20, 29, 36, 43, 51, 59, 67, 75, 83, 91, 100, 106, 115, 124, 133, 140, 148, 156, 164, 173, 181, 190, 198, 206, 214, 222, 231, 240, 249, 258, 266, 275, 284, 293, 302, 320, 329, 338, 346, 355, 363, 371, 380, 387] ?_
  refine And.intro H.1 (And.intro H.2.1 ?_)
  replace H := H.2.2 _ rfl
  refine And.intro ((mk_mnew F O) :) ?_
  refine And.intro rfl ?_
  replace H := H _ rfl
  exact H

theorem i_X12_320 {G : GT} {d : Nat} {M : Mem} {o : Nat} (O : mK M o = 13) (F : frM M)  {Q : Mem → Prop} (H : ¬ (400 : Int32) < 0 ∧ ((400 : Int32)).toNatClampNeg ≤ 1000000 ∧ ∀ M76, M76 = mnew M 15 ((400 : Int32)).toNatClampNeg → ∀ M77, M77 = setr M76 o 50 (some (mN M)) → At G (d + 1) 154 329 [(0, .ref o)] [] M77 (qV Q)) : At G (d + 1) 154 320 [(0, .ref o)] [] M (qV Q) := by
  refine vcc ok154 153 [4, 11, 20, 29, 36, 43, 51, 59, 67, 75, 83, 91, 100, 106, 115, 124, 133, 140, 148, 156, 164, 173, 181, 190, 198, 206, 214, 222, 231, 240, 249, 258, 266, 275, 284, 293, 302, 311, 329, 338, 346, 355, 363, 371, 380, 387] ?_
  refine And.intro H.1 (And.intro H.2.1 ?_)
  replace H := H.2.2 _ rfl
  refine And.intro ((mk_mnew F O) :) ?_
  refine And.intro rfl ?_
  replace H := H _ rfl
  exact H

theorem i_X12_329 {G : GT} {d : Nat} {M : Mem} {o : Nat} (O : mK M o = 13) (F : frM M)  {Q : Mem → Prop} (H : ¬ (401 : Int32) < 0 ∧ ((401 : Int32)).toNatClampNeg ≤ 1000000 ∧ ∀ M78, M78 = mnew M 17 ((401 : Int32)).toNatClampNeg → ∀ M79, M79 = setr M78 o 53 (some (mN M)) → At G (d + 1) 154 338 [(0, .ref o)] [] M79 (qV Q)) : At G (d + 1) 154 329 [(0, .ref o)] [] M (qV Q) := by
  refine vcc ok154 157 [4, 11, 20, 29, 36, 43, 51, 59, 67, 75, 83, 91, 100, 106, 115, 124, 133, 140, 148, 156, 164, 173, 181, 190, 198, 206, 214, 222, 231, 240, 249, 258, 266, 275, 284, 293, 302, 311, 320, 338, 346, 355, 363, 371, 380, 387] ?_
  refine And.intro H.1 (And.intro H.2.1 ?_)
  replace H := H.2.2 _ rfl
  refine And.intro ((mk_mnew F O) :) ?_
  refine And.intro rfl ?_
  replace H := H _ rfl
  exact H

theorem i_X12_338 {G : GT} {d : Nat} {M : Mem} {o : Nat} (O : mK M o = 13) (F : frM M)  {Q : Mem → Prop} (H : ¬ (40401 : Int32) < 0 ∧ ((40401 : Int32)).toNatClampNeg ≤ 1000000 ∧ ∀ M80, M80 = mnew M 15 ((40401 : Int32)).toNatClampNeg → ∀ M81, M81 = setr M80 o 55 (some (mN M)) → At G (d + 1) 154 346 [(0, .ref o)] [] M81 (qV Q)) : At G (d + 1) 154 338 [(0, .ref o)] [] M (qV Q) := by
  refine vcc ok154 161 [4, 11, 20, 29, 36, 43, 51, 59, 67, 75, 83, 91, 100, 106, 115, 124, 133, 140, 148, 156, 164, 173, 181, 190, 198, 206, 214, 222, 231, 240, 249, 258, 266, 275, 284, 293, 302, 311, 320, 329, 346, 355, 363, 371, 380, 387] ?_
  refine And.intro H.1 (And.intro H.2.1 ?_)
  replace H := H.2.2 _ rfl
  refine And.intro ((mk_mnew F O) :) ?_
  refine And.intro rfl ?_
  replace H := H _ rfl
  exact H

theorem i_X12_346 {G : GT} {d : Nat} {M : Mem} {o : Nat} (O : mK M o = 13) (F : frM M)  {Q : Mem → Prop} (H : ¬ (200 : Int32) < 0 ∧ ((200 : Int32)).toNatClampNeg ≤ 1000000 ∧ ∀ M82, M82 = mnew M 15 ((200 : Int32)).toNatClampNeg → ∀ M83, M83 = setr M82 o 56 (some (mN M)) → At G (d + 1) 154 355 [(0, .ref o)] [] M83 (qV Q)) : At G (d + 1) 154 346 [(0, .ref o)] [] M (qV Q) := by
  refine vcc ok154 165 [4, 11, 20, 29, 36, 43, 51, 59, 67, 75, 83, 91, 100, 106, 115, 124, 133, 140, 148, 156, 164, 173, 181, 190, 198, 206, 214, 222, 231, 240, 249, 258, 266, 275, 284, 293, 302, 311, 320, 329, 338, 355, 363, 371, 380, 387] ?_
  refine And.intro H.1 (And.intro H.2.1 ?_)
  replace H := H.2.2 _ rfl
  refine And.intro ((mk_mnew F O) :) ?_
  refine And.intro rfl ?_
  replace H := H _ rfl
  exact H

theorem i_X12_355 {G : GT} {d : Nat} {M : Mem} {o : Nat} (O : mK M o = 13) (F : frM M)  {Q : Mem → Prop} (H : ¬ (12 : Int32) < 0 ∧ ((12 : Int32)).toNatClampNeg ≤ 1000000 ∧ ∀ M84, M84 = mnew M 15 ((12 : Int32)).toNatClampNeg → ∀ M85, M85 = setr M84 o 62 (some (mN M)) → At G (d + 1) 154 363 [(0, .ref o)] [] M85 (qV Q)) : At G (d + 1) 154 355 [(0, .ref o)] [] M (qV Q) := by
  refine vcc ok154 169 [4, 11, 20, 29, 36, 43, 51, 59, 67, 75, 83, 91, 100, 106, 115, 124, 133, 140, 148, 156, 164, 173, 181, 190, 198, 206, 214, 222, 231, 240, 249, 258, 266, 275, 284, 293, 302, 311, 320, 329, 338, 346, 363, 371, 380, 387] ?_
  refine And.intro H.1 (And.intro H.2.1 ?_)
  replace H := H.2.2 _ rfl
  refine And.intro ((mk_mnew F O) :) ?_
  refine And.intro rfl ?_
  replace H := H _ rfl
  exact H

theorem i_X12_363 {G : GT} {d : Nat} {M : Mem} {o : Nat} (O : mK M o = 13) (F : frM M)  {Q : Mem → Prop} (H : ¬ (12 : Int32) < 0 ∧ ((12 : Int32)).toNatClampNeg ≤ 1000000 ∧ ∀ M86, M86 = mnew M 15 ((12 : Int32)).toNatClampNeg → ∀ M87, M87 = setr M86 o 63 (some (mN M)) → At G (d + 1) 154 371 [(0, .ref o)] [] M87 (qV Q)) : At G (d + 1) 154 363 [(0, .ref o)] [] M (qV Q) := by
  refine vcc ok154 173 [4, 11, 20, 29, 36, 43, 51, 59, 67, 75, 83, 91, 100, 106, 115, 124, 133, 140, 148, 156, 164, 173, 181, 190, 198, 206, 214, 222, 231, 240, 249, 258, 266, 275, 284, 293, 302, 311, 320, 329, 338, 346, 355, 371, 380, 387] ?_
  refine And.intro H.1 (And.intro H.2.1 ?_)
  replace H := H.2.2 _ rfl
  refine And.intro ((mk_mnew F O) :) ?_
  refine And.intro rfl ?_
  replace H := H _ rfl
  exact H

theorem i_X12_371 {G : GT} {d : Nat} {M : Mem} {o : Nat} (O : mK M o = 13) (F : frM M)  {Q : Mem → Prop} (H : ¬ (8400 : Int32) < 0 ∧ ((8400 : Int32)).toNatClampNeg ≤ 1000000 ∧ ∀ M88, M88 = mnew M 15 ((8400 : Int32)).toNatClampNeg → ∀ M89, M89 = setr M88 o 64 (some (mN M)) → At G (d + 1) 154 380 [(0, .ref o)] [] M89 (qV Q)) : At G (d + 1) 154 371 [(0, .ref o)] [] M (qV Q) := by
  refine vcc ok154 177 [4, 11, 20, 29, 36, 43, 51, 59, 67, 75, 83, 91, 100, 106, 115, 124, 133, 140, 148, 156, 164, 173, 181, 190, 198, 206, 214, 222, 231, 240, 249, 258, 266, 275, 284, 293, 302, 311, 320, 329, 338, 346, 355, 363, 380, 387] ?_
  refine And.intro H.1 (And.intro H.2.1 ?_)
  replace H := H.2.2 _ rfl
  refine And.intro ((mk_mnew F O) :) ?_
  refine And.intro rfl ?_
  replace H := H _ rfl
  exact H

theorem i_X12_380 {G : GT} {d : Nat} {M : Mem} {o : Nat} (O : mK M o = 13) (F : frM M)  {Q : Mem → Prop} (H : ¬ (4 : Int32) < 0 ∧ ((4 : Int32)).toNatClampNeg ≤ 1000000 ∧ ∀ M90, M90 = mnew M 17 ((4 : Int32)).toNatClampNeg → ∀ M91, M91 = setr M90 o 65 (some (mN M)) → At G (d + 1) 154 387 [] [] M91 (qV Q)) : At G (d + 1) 154 380 [(0, .ref o)] [] M (qV Q) := by
  refine vcc ok154 181 [4, 11, 20, 29, 36, 43, 51, 59, 67, 75, 83, 91, 100, 106, 115, 124, 133, 140, 148, 156, 164, 173, 181, 190, 198, 206, 214, 222, 231, 240, 249, 258, 266, 275, 284, 293, 302, 311, 320, 329, 338, 346, 355, 363, 371, 387] ?_
  refine And.intro H.1 (And.intro H.2.1 ?_)
  replace H := H.2.2 _ rfl
  refine And.intro ((mk_mnew F O) :) ?_
  refine And.intro rfl ?_
  replace H := H _ rfl
  exact At.keep [] H

theorem i_X12_387 {G : GT} {d : Nat} {M : Mem} {o : Nat} (O : mK M o = 13) (F : frM M)  {Q : Mem → Prop} (H : Q M) : At G (d + 1) 154 387 [] [] M (qV Q) := by
  refine vcc ok154 185 [4, 11, 20, 29, 36, 43, 51, 59, 67, 75, 83, 91, 100, 106, 115, 124, 133, 140, 148, 156, 164, 173, 181, 190, 198, 206, 214, 222, 231, 240, 249, 258, 266, 275, 284, 293, 302, 311, 320, 329, 338, 346, 355, 363, 371, 380] ?_
  exact ⟨rfl, H⟩
