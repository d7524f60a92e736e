/-! THE CLASS, block by block: by program (wip/tools/clsall.py) -/
theorem c_X11_unlikePages {G : GT} {d : Nat} {M : Mem} {x : Nat} (X : XAt M x) {a1 : Nat} {a2 : Int32} {a3 : Int32} {Q : Int32 → Mem → Prop} (H : CV G d 40 [.ref (x + 36), .ref ((x + 3) + 1), .int (vi M (x + 3) 1), .int a2] M (fun M1 => XAt M1 x ∧ (mK M1 a1 = 11 ∧ ((∀ r2, vr M1 a1 2 = some r2 → mK M1 a1 = 11 ∧ (CV G d 40 [.ref (x + 41), .ref r2, .int (vi M1 a1 3), .int a2] M1 (fun M3 => XAt M3 x ∧ (CI G d 45 [.ref (x + 36), .ref (x + 41), .int a3] M3 (fun v5 M4 => XAt M4 x ∧ (Q v5 M4)))))) ∧ (vr M1 a1 2 = none → mK M1 a1 = 11 ∧ (CV G d 40 [.ref (x + 41), .null, .int (vi M1 a1 3), .int a2] M1 (fun M6 => XAt M6 x ∧ (CI G d 45 [.ref (x + 36), .ref (x + 41), .int a3] M6 (fun v8 M7 => XAt M7 x ∧ (Q v8 M7)))))))))) : CI G (d + 1) 144 [.ref x, .ref a1, .int a2, .int a3] M Q := by
  refine Cl.ofM (Nat.le_of_ble_eq_true rfl) rfl ?_
  refine vcc ok144 0 [] ?_
  refine And.intro X.1.1 ?_
  refine Or.inl ⟨_, (ob11_r8 X.1), ?_⟩
  refine And.intro X.1.1 ?_
  refine Or.inl ⟨_, (ob11_r1 X.1), ?_⟩
  refine And.intro X.2.2.1.1 ?_
  refine Or.inl ⟨_, (ob8_r0 X.2.2.1), ?_⟩
  refine And.intro X.1.1 ?_
  refine Or.inl ⟨_, (ob11_r1 X.1), ?_⟩
  refine And.intro X.2.2.1.1 ?_
  refine And.intro (Nat.le_of_ble_eq_true rfl) ?_
  refine And.intro (Nat.le_of_ble_eq_true rfl) (And.intro X.2.2.2.2.2.2.1.1 ?_)
  refine Cl.mono H (fun r M1 h => ?_)
  obtain ⟨rfl, H⟩ := h
  obtain ⟨X, H⟩ := H
  refine And.intro X.1.1 ?_
  refine Or.inl ⟨_, (ob11_r9 X.1), ?_⟩
  refine And.intro H.1 ?_
  replace H := H.2
  rcases hr : vr M1 a1 2 with _ | r2
  · refine Or.inr ⟨hr, ?_⟩
    replace H := H.2 hr
    refine And.intro H.1 ?_
    replace H := H.2
    refine And.intro (Nat.le_of_ble_eq_true rfl) ?_
    refine And.intro (Nat.le_of_ble_eq_true rfl) (And.intro X.2.2.2.2.2.2.2.1.1 ?_)
    refine Cl.mono H (fun r M6 h => ?_)
    obtain ⟨rfl, H⟩ := h
    obtain ⟨X, H⟩ := H
    refine And.intro X.1.1 ?_
    refine Or.inl ⟨_, (ob11_r8 X.1), ?_⟩
    refine And.intro X.1.1 ?_
    refine Or.inl ⟨_, (ob11_r9 X.1), ?_⟩
    refine And.intro (Nat.le_of_ble_eq_true rfl) ?_
    refine And.intro (Nat.le_of_ble_eq_true rfl) (And.intro X.2.2.2.2.2.2.1.1 ?_)
    refine Cl.mono H (fun r M7 h => ?_)
    obtain ⟨v8, rfl, H⟩ := h
    obtain ⟨X, H⟩ := H
    exact ⟨fun h => absurd h (by decide), _, rfl, H⟩
  · refine Or.inl ⟨_, hr, ?_⟩
    replace H := H.1 _ hr
    refine And.intro H.1 ?_
    replace H := H.2
    refine And.intro (Nat.le_of_ble_eq_true rfl) ?_
    refine And.intro (Nat.le_of_ble_eq_true rfl) (And.intro X.2.2.2.2.2.2.2.1.1 ?_)
    refine Cl.mono H (fun r M3 h => ?_)
    obtain ⟨rfl, H⟩ := h
    obtain ⟨X, H⟩ := H
    refine And.intro X.1.1 ?_
    refine Or.inl ⟨_, (ob11_r8 X.1), ?_⟩
    refine And.intro X.1.1 ?_
    refine Or.inl ⟨_, (ob11_r9 X.1), ?_⟩
    refine And.intro (Nat.le_of_ble_eq_true rfl) ?_
    refine And.intro (Nat.le_of_ble_eq_true rfl) (And.intro X.2.2.2.2.2.2.1.1 ?_)
    refine Cl.mono H (fun r M4 h => ?_)
    obtain ⟨v5, rfl, H⟩ := h
    obtain ⟨X, H⟩ := H
    exact ⟨fun h => absurd h (by decide), _, rfl, H⟩

theorem c_X11_findEdit {G : GT} {d : Nat} {M : Mem} {x : Nat} (X : XAt M x)  {Q : Mem → Prop} (H : ((vi M (x + 46) 0) = (vi M x 13) → Q M) ∧ (¬ (vi M (x + 46) 0) = (vi M x 13) → CV G d 15 [.ref (x + 46), .ref (x + 3)] M (fun M1 => XAt M1 x ∧ (∀ M2, M2 = seti M1 (x + 46) 0 (vi M1 x 13) → Q M2)))) : CV G (d + 1) 145 [.ref x] M Q := by
  refine Cl.ofM (Nat.le_of_ble_eq_true rfl) rfl ?_
  refine vcc ok145 0 [] ?_
  refine And.intro X.1.1 ?_
  refine Or.inl ⟨_, (ob11_r10 X.1), ?_⟩
  refine And.intro X.2.2.2.2.2.2.2.2.1.1 ?_
  refine And.intro X.1.1 ?_
  refine And.intro (fun c => ?_) (fun c => ?_)
  · replace H := H.1 c
    exact ⟨rfl, H⟩
  · replace H := H.2 c
    refine And.intro X.1.1 ?_
    refine Or.inl ⟨_, (ob11_r10 X.1), ?_⟩
    refine And.intro X.1.1 ?_
    refine Or.inl ⟨_, (ob11_r1 X.1), ?_⟩
    refine And.intro (Nat.le_of_ble_eq_true rfl) ?_
    refine And.intro (Nat.le_of_ble_eq_true rfl) (And.intro X.2.2.2.2.2.2.2.2.1.1 ?_)
    refine Cl.mono H (fun r M1 h => ?_)
    obtain ⟨rfl, H⟩ := h
    obtain ⟨X, H⟩ := H
    refine And.intro X.1.1 ?_
    refine Or.inl ⟨_, (ob11_r10 X.1), ?_⟩
    refine And.intro X.1.1 ?_
    refine And.intro X.2.2.2.2.2.2.2.2.1.1 ?_
    refine And.intro (Or.inl rfl) (And.intro (fun h => absurd h (by decide)) ?_)
    replace H := H _ rfl
    exact ⟨rfl, H⟩

theorem c_X11_isWidth {G : GT} {d : Nat} {M : Mem}  {a1 : Int32} {Q : Int32 → Mem → Prop} (H : (a1 < (5 : Int32) → ((0 : Int32) = 0 ∨ (0 : Int32) = 1) ∧ Q (0 : Int32) M) ∧ (¬ a1 < (5 : Int32) → ((60 : Int32) < a1 → ((0 : Int32) = 0 ∨ (0 : Int32) = 1) ∧ Q (0 : Int32) M) ∧ (¬ (60 : Int32) < a1 → ((1 : Int32) = 0 ∨ (1 : Int32) = 1) ∧ Q (1 : Int32) M))) : CI G (d + 1) 146 [.int a1] M Q := by
  refine Cl.ofM (Nat.le_of_ble_eq_true rfl) rfl ?_
  refine vcc ok146 0 [] ?_
  refine And.intro (fun c => ?_) (fun c => ?_)
  · replace H := H.1 c
    exact ⟨fun _ => H.1, _, rfl, H.2⟩
  · replace H := H.2 c
    refine And.intro (fun c => ?_) (fun c => ?_)
    · replace H := H.1 c
      exact ⟨fun _ => H.1, _, rfl, H.2⟩
    · replace H := H.2 c
      exact ⟨fun _ => H.1, _, rfl, H.2⟩

theorem c_X11_slotOf {G : GT} {d : Nat} {M : Mem}  {a1 : Int32} {a2 : Int32} {Q : Int32 → Mem → Prop} (H : Q ((a1 * (16 : Int32)) + a2) M) : CI G (d + 1) 147 [.int a1, .int a2] M Q := by
  refine Cl.ofM (Nat.le_of_ble_eq_true rfl) rfl ?_
  refine vcc ok147 0 [] ?_
  exact ⟨fun h => absurd h (by decide), _, rfl, H⟩

theorem c_X11_isByte {G : GT} {d : Nat} {M : Mem}  {a1 : Int32} {Q : Int32 → Mem → Prop} (H : (a1 < (32 : Int32) → ((0 : Int32) = 0 ∨ (0 : Int32) = 1) ∧ Q (0 : Int32) M) ∧ (¬ a1 < (32 : Int32) → ((126 : Int32) < a1 → ((0 : Int32) = 0 ∨ (0 : Int32) = 1) ∧ Q (0 : Int32) M) ∧ (¬ (126 : Int32) < a1 → ((1 : Int32) = 0 ∨ (1 : Int32) = 1) ∧ Q (1 : Int32) M))) : CI G (d + 1) 148 [.int a1] M Q := by
  refine Cl.ofM (Nat.le_of_ble_eq_true rfl) rfl ?_
  refine vcc ok148 0 [] ?_
  refine And.intro (fun c => ?_) (fun c => ?_)
  · replace H := H.1 c
    exact ⟨fun _ => H.1, _, rfl, H.2⟩
  · replace H := H.2 c
    refine And.intro (fun c => ?_) (fun c => ?_)
    · replace H := H.1 c
      exact ⟨fun _ => H.1, _, rfl, H.2⟩
    · replace H := H.2 c
      exact ⟨fun _ => H.1, _, rfl, H.2⟩

theorem c_X11_isSmall {G : GT} {d : Nat} {M : Mem}  {a1 : Int32} {Q : Int32 → Mem → Prop} (H : (a1 < (97 : Int32) → ((0 : Int32) = 0 ∨ (0 : Int32) = 1) ∧ Q (0 : Int32) M) ∧ (¬ a1 < (97 : Int32) → ((122 : Int32) < a1 → ((0 : Int32) = 0 ∨ (0 : Int32) = 1) ∧ Q (0 : Int32) M) ∧ (¬ (122 : Int32) < a1 → ((1 : Int32) = 0 ∨ (1 : Int32) = 1) ∧ Q (1 : Int32) M))) : CI G (d + 1) 149 [.int a1] M Q := by
  refine Cl.ofM (Nat.le_of_ble_eq_true rfl) rfl ?_
  refine vcc ok149 0 [] ?_
  refine And.intro (fun c => ?_) (fun c => ?_)
  · replace H := H.1 c
    exact ⟨fun _ => H.1, _, rfl, H.2⟩
  · replace H := H.2 c
    refine And.intro (fun c => ?_) (fun c => ?_)
    · replace H := H.1 c
      exact ⟨fun _ => H.1, _, rfl, H.2⟩
    · replace H := H.2 c
      exact ⟨fun _ => H.1, _, rfl, H.2⟩

theorem c_X11_isCapital {G : GT} {d : Nat} {M : Mem}  {a1 : Int32} {Q : Int32 → Mem → Prop} (H : (a1 < (65 : Int32) → ((0 : Int32) = 0 ∨ (0 : Int32) = 1) ∧ Q (0 : Int32) M) ∧ (¬ a1 < (65 : Int32) → ((90 : Int32) < a1 → ((0 : Int32) = 0 ∨ (0 : Int32) = 1) ∧ Q (0 : Int32) M) ∧ (¬ (90 : Int32) < a1 → ((1 : Int32) = 0 ∨ (1 : Int32) = 1) ∧ Q (1 : Int32) M))) : CI G (d + 1) 150 [.int a1] M Q := by
  refine Cl.ofM (Nat.le_of_ble_eq_true rfl) rfl ?_
  refine vcc ok150 0 [] ?_
  refine And.intro (fun c => ?_) (fun c => ?_)
  · replace H := H.1 c
    exact ⟨fun _ => H.1, _, rfl, H.2⟩
  · replace H := H.2 c
    refine And.intro (fun c => ?_) (fun c => ?_)
    · replace H := H.1 c
      exact ⟨fun _ => H.1, _, rfl, H.2⟩
    · replace H := H.2 c
      exact ⟨fun _ => H.1, _, rfl, H.2⟩

theorem c_X11_isDigit {G : GT} {d : Nat} {M : Mem}  {a1 : Int32} {Q : Int32 → Mem → Prop} (H : (a1 < (48 : Int32) → ((0 : Int32) = 0 ∨ (0 : Int32) = 1) ∧ Q (0 : Int32) M) ∧ (¬ a1 < (48 : Int32) → ((57 : Int32) < a1 → ((0 : Int32) = 0 ∨ (0 : Int32) = 1) ∧ Q (0 : Int32) M) ∧ (¬ (57 : Int32) < a1 → ((1 : Int32) = 0 ∨ (1 : Int32) = 1) ∧ Q (1 : Int32) M))) : CI G (d + 1) 151 [.int a1] M Q := by
  refine Cl.ofM (Nat.le_of_ble_eq_true rfl) rfl ?_
  refine vcc ok151 0 [] ?_
  refine And.intro (fun c => ?_) (fun c => ?_)
  · replace H := H.1 c
    exact ⟨fun _ => H.1, _, rfl, H.2⟩
  · replace H := H.2 c
    refine And.intro (fun c => ?_) (fun c => ?_)
    · replace H := H.1 c
      exact ⟨fun _ => H.1, _, rfl, H.2⟩
    · replace H := H.2 c
      exact ⟨fun _ => H.1, _, rfl, H.2⟩

theorem c_X11_twinOf {G : GT} {d : Nat} {M : Mem}  {a1 : Int32} {Q : Int32 → Mem → Prop} (H : CI G d 149 [.int a1] M (fun v2 M1 => (v2 = 0 → CI G d 150 [.int a1] M1 (fun v4 M3 => (v4 = 0 → Q (-1 : Int32) M3) ∧ (¬ v4 = 0 → Q (a1 + (32 : Int32)) M3))) ∧ (¬ v2 = 0 → Q (a1 - (32 : Int32)) M1))) : CI G (d + 1) 152 [.int a1] M Q := by
  refine Cl.ofM (Nat.le_of_ble_eq_true rfl) rfl ?_
  refine vcc ok152 0 [] ?_
  refine And.intro (Nat.le_of_ble_eq_true rfl) ?_
  refine And.intro (Nat.le_of_ble_eq_true rfl) ?_
  refine Cl.mono H (fun r M1 h => ?_)
  obtain ⟨v2, rfl, H⟩ := h
  refine And.intro (fun c => ?_) (fun c => ?_)
  · replace H := H.1 c
    refine And.intro (Nat.le_of_ble_eq_true rfl) ?_
    refine And.intro (Nat.le_of_ble_eq_true rfl) ?_
    refine Cl.mono H (fun r M3 h => ?_)
    obtain ⟨v4, rfl, H⟩ := h
    refine And.intro (fun c => ?_) (fun c => ?_)
    · replace H := H.1 c
      exact ⟨fun h => absurd h (by decide), _, rfl, H⟩
    · replace H := H.2 c
      exact ⟨fun h => absurd h (by decide), _, rfl, H⟩
  · replace H := H.2 c
    exact ⟨fun h => absurd h (by decide), _, rfl, H⟩

theorem c_X11_partOf {G : GT} {d : Nat} {M : Mem}  {a1 : Int32} {a2 : Int32} {a3 : Int32} {Q : Int32 → Mem → Prop} (H : (¬ a2 = 0 → At G (d + 1) 153 15 [(0, .int a1), (1, .int a2), (2, .int a3), (3, .int a2), (4, .int a1), (5, .int (0 : Int32))] [] M (qI Q)) ∧ (a2 = 0 → Q (-2 : Int32) M)) : CI G (d + 1) 153 [.int a1, .int a2, .int a3] M Q := by
  refine Cl.ofM (Nat.le_of_ble_eq_true rfl) rfl ?_
  refine vcc ok153 0 [15] ?_
  refine And.intro (fun c => ?_) (fun c => ?_)
  · replace H := H.1 c
    exact H
  · replace H := H.2 c
    exact ⟨fun h => absurd h (by decide), _, rfl, H⟩

theorem c_X11_partOf_15 {G : GT} {d : Nat} {M : Mem}  {l0 : Int32} {l1 : Int32} {l2 : Int32} {l3 : Int32} {l4 : Int32} {l5 : Int32} {Q : Int32 → Mem → Prop} (H : ((64 : Int32) ≤ l5 → (¬ l3 = 0 → (¬ l2 = 0 → ¬ l3 = 0 ∧ (Q (l1 / l3) M)) ∧ (l2 = 0 → ¬ l3 = 0 ∧ (Q (l0 / l3) M))) ∧ (l3 = 0 → Q (-2 : Int32) M)) ∧ (¬ (64 : Int32) ≤ l5 → (l4 = 0 → (¬ l3 = 0 → (¬ l2 = 0 → ¬ l3 = 0 ∧ (Q (l1 / l3) M)) ∧ (l2 = 0 → ¬ l3 = 0 ∧ (Q (l0 / l3) M))) ∧ (l3 = 0 → Q (-2 : Int32) M)) ∧ (¬ l4 = 0 → ¬ l4 = 0 ∧ (At G (d + 1) 153 15 [(0, .int l0), (1, .int l1), (2, .int l2), (3, .int l4), (4, .int (l3 - l3 / l4 * l4)), (5, .int (l5 + (1 : Int32)))] [] M (qI Q))))) : At G (d + 1) 153 15 [(0, .int l0), (1, .int l1), (2, .int l2), (3, .int l3), (4, .int l4), (5, .int l5)] [] M (qI Q) := by
  refine vcc ok153 10 [] ?_
  refine And.intro (fun c => ?_) (fun c => ?_)
  · replace H := H.1 c
    refine And.intro (fun c => ?_) (fun c => ?_)
    · replace H := H.1 c
      refine And.intro (fun c => ?_) (fun c => ?_)
      · replace H := H.1 c
        refine And.intro H.1 ?_
        replace H := H.2
        exact ⟨fun h => absurd h (by decide), _, rfl, H⟩
      · replace H := H.2 c
        refine And.intro H.1 ?_
        replace H := H.2
        exact ⟨fun h => absurd h (by decide), _, rfl, H⟩
    · replace H := H.2 c
      exact ⟨fun h => absurd h (by decide), _, rfl, H⟩
  · replace H := H.2 c
    refine And.intro (fun c => ?_) (fun c => ?_)
    · replace H := H.1 c
      refine And.intro (fun c => ?_) (fun c => ?_)
      · replace H := H.1 c
        refine And.intro (fun c => ?_) (fun c => ?_)
        · replace H := H.1 c
          refine And.intro H.1 ?_
          replace H := H.2
          exact ⟨fun h => absurd h (by decide), _, rfl, H⟩
        · replace H := H.2 c
          refine And.intro H.1 ?_
          replace H := H.2
          exact ⟨fun h => absurd h (by decide), _, rfl, H⟩
      · replace H := H.2 c
        exact ⟨fun h => absurd h (by decide), _, rfl, H⟩
    · replace H := H.2 c
      refine And.intro H.1 ?_
      replace H := H.2
      exact At.keep [0, 1, 2, 3, 4, 5] H

theorem c_J7_fill_53178 {G : GT} {d : Nat} {M : Mem} {a1 : Nat} {a2 : Int32} {Q : Mem → Prop} (H : (14 ≤ mK M a1 ∧ mK M a1 ≤ 21) ∧ (At G (d + 1) 272 5 [(0, .ref a1), (1, .int a2), (2, .int (0 : Int32)), (3, .int (nI (mA M a1)))] [] M (qV Q))) : CV G (d + 1) 272 [.ref a1, .int a2] M Q := by
  refine Cl.ofM (Nat.le_of_ble_eq_true rfl) rfl ?_
  refine vcc ok272 0 [5] ?_
  refine Or.inl ⟨H.1, ?_⟩
  replace H := H.2
  exact H

theorem c_J7_fill_53178_5 {G : GT} {d : Nat} {M : Mem} {a1 : Nat} {l1 : Int32} {l2 : Int32} {l3 : Int32} {Q : Mem → Prop} (H : (l3 ≤ l2 → Q M) ∧ (¬ l3 ≤ l2 → mK M a1 = 15 ∧ vp_in l2 (mA M a1) ∧ (∀ M1, M1 = seti M a1 (l2).toNatClampNeg l1 → At G (d + 1) 272 5 [(0, .ref a1), (1, .int l1), (2, .int (l2 + (1 : Int32))), (3, .int l3)] [] M1 (qV Q)))) : At G (d + 1) 272 5 [(0, .ref a1), (1, .int l1), (2, .int l2), (3, .int l3)] [] M (qV Q) := by
  refine vcc ok272 5 [] ?_
  refine And.intro (fun c => ?_) (fun c => ?_)
  · replace H := H.1 c
    exact ⟨rfl, H⟩
  · replace H := H.2 c
    refine ⟨H.1, H.2.1, ?_⟩
    replace H := H.2.2
    replace H := H _ rfl
    exact H

theorem c_J6_bitCount_0f7a4 {G : GT} {d : Nat} {M : Mem}  {a1 : Int32} {Q : Int32 → Mem → Prop} (H : Q ((((((((a1 - ((((a1).toUInt32 >>> (((1 : Int32)).toUInt32 &&& Int32.toUInt32 31)).toInt32) &&& (1431655765 : Int32))) &&& (858993459 : Int32)) + (((((a1 - ((((a1).toUInt32 >>> (((1 : Int32)).toUInt32 &&& Int32.toUInt32 31)).toInt32) &&& (1431655765 : Int32)))).toUInt32 >>> (((2 : Int32)).toUInt32 &&& Int32.toUInt32 31)).toInt32) &&& (858993459 : Int32))) + ((((((a1 - ((((a1).toUInt32 >>> (((1 : Int32)).toUInt32 &&& Int32.toUInt32 31)).toInt32) &&& (1431655765 : Int32))) &&& (858993459 : Int32)) + (((((a1 - ((((a1).toUInt32 >>> (((1 : Int32)).toUInt32 &&& Int32.toUInt32 31)).toInt32) &&& (1431655765 : Int32)))).toUInt32 >>> (((2 : Int32)).toUInt32 &&& Int32.toUInt32 31)).toInt32) &&& (858993459 : Int32)))).toUInt32 >>> (((4 : Int32)).toUInt32 &&& Int32.toUInt32 31)).toInt32)) &&& (252645135 : Int32)) + ((((((((a1 - ((((a1).toUInt32 >>> (((1 : Int32)).toUInt32 &&& Int32.toUInt32 31)).toInt32) &&& (1431655765 : Int32))) &&& (858993459 : Int32)) + (((((a1 - ((((a1).toUInt32 >>> (((1 : Int32)).toUInt32 &&& Int32.toUInt32 31)).toInt32) &&& (1431655765 : Int32)))).toUInt32 >>> (((2 : Int32)).toUInt32 &&& Int32.toUInt32 31)).toInt32) &&& (858993459 : Int32))) + ((((((a1 - ((((a1).toUInt32 >>> (((1 : Int32)).toUInt32 &&& Int32.toUInt32 31)).toInt32) &&& (1431655765 : Int32))) &&& (858993459 : Int32)) + (((((a1 - ((((a1).toUInt32 >>> (((1 : Int32)).toUInt32 &&& Int32.toUInt32 31)).toInt32) &&& (1431655765 : Int32)))).toUInt32 >>> (((2 : Int32)).toUInt32 &&& Int32.toUInt32 31)).toInt32) &&& (858993459 : Int32)))).toUInt32 >>> (((4 : Int32)).toUInt32 &&& Int32.toUInt32 31)).toInt32)) &&& (252645135 : Int32))).toUInt32 >>> (((8 : Int32)).toUInt32 &&& Int32.toUInt32 31)).toInt32)) + (((((((((a1 - ((((a1).toUInt32 >>> (((1 : Int32)).toUInt32 &&& Int32.toUInt32 31)).toInt32) &&& (1431655765 : Int32))) &&& (858993459 : Int32)) + (((((a1 - ((((a1).toUInt32 >>> (((1 : Int32)).toUInt32 &&& Int32.toUInt32 31)).toInt32) &&& (1431655765 : Int32)))).toUInt32 >>> (((2 : Int32)).toUInt32 &&& Int32.toUInt32 31)).toInt32) &&& (858993459 : Int32))) + ((((((a1 - ((((a1).toUInt32 >>> (((1 : Int32)).toUInt32 &&& Int32.toUInt32 31)).toInt32) &&& (1431655765 : Int32))) &&& (858993459 : Int32)) + (((((a1 - ((((a1).toUInt32 >>> (((1 : Int32)).toUInt32 &&& Int32.toUInt32 31)).toInt32) &&& (1431655765 : Int32)))).toUInt32 >>> (((2 : Int32)).toUInt32 &&& Int32.toUInt32 31)).toInt32) &&& (858993459 : Int32)))).toUInt32 >>> (((4 : Int32)).toUInt32 &&& Int32.toUInt32 31)).toInt32)) &&& (252645135 : Int32)) + ((((((((a1 - ((((a1).toUInt32 >>> (((1 : Int32)).toUInt32 &&& Int32.toUInt32 31)).toInt32) &&& (1431655765 : Int32))) &&& (858993459 : Int32)) + (((((a1 - ((((a1).toUInt32 >>> (((1 : Int32)).toUInt32 &&& Int32.toUInt32 31)).toInt32) &&& (1431655765 : Int32)))).toUInt32 >>> (((2 : Int32)).toUInt32 &&& Int32.toUInt32 31)).toInt32) &&& (858993459 : Int32))) + ((((((a1 - ((((a1).toUInt32 >>> (((1 : Int32)).toUInt32 &&& Int32.toUInt32 31)).toInt32) &&& (1431655765 : Int32))) &&& (858993459 : Int32)) + (((((a1 - ((((a1).toUInt32 >>> (((1 : Int32)).toUInt32 &&& Int32.toUInt32 31)).toInt32) &&& (1431655765 : Int32)))).toUInt32 >>> (((2 : Int32)).toUInt32 &&& Int32.toUInt32 31)).toInt32) &&& (858993459 : Int32)))).toUInt32 >>> (((4 : Int32)).toUInt32 &&& Int32.toUInt32 31)).toInt32)) &&& (252645135 : Int32))).toUInt32 >>> (((8 : Int32)).toUInt32 &&& Int32.toUInt32 31)).toInt32))).toUInt32 >>> (((16 : Int32)).toUInt32 &&& Int32.toUInt32 31)).toInt32)) &&& (63 : Int32)) M) : CI G (d + 1) 274 [.int a1] M Q := by
  refine Cl.ofM (Nat.le_of_ble_eq_true rfl) rfl ?_
  refine vcc ok274 0 [] ?_
  exact ⟨fun h => absurd h (by decide), _, rfl, H⟩
