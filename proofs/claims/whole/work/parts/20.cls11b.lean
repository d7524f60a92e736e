/-! THE CLASS, block by block: by program (wip/tools/clsall.py) -/
theorem c_X11_lines {G : GT} {d : Nat} {M : Mem} {x : Nat} (X : XAt M x) {a1 : Int32} {a2 : Int32} {Q : Int32 → Mem → Prop} (H : CI G d 143 [.ref x, .int a1, .int a2] M (fun v2 M1 => XAt M1 x ∧ ((v2 = 0 → Q (-1 : Int32) M1) ∧ (¬ v2 = 0 → Q (vi M1 (x + 36) 0) M1)))) : CI G (d + 1) 128 [.ref x, .int a1, .int a2] M Q := by
  refine Cl.ofM (Nat.le_of_ble_eq_true rfl) rfl ?_
  refine vcc ok128 0 [] ?_
  refine And.intro (Nat.le_of_ble_eq_true rfl) ?_
  refine And.intro (Nat.le_of_ble_eq_true rfl) (And.intro X.1.1 ?_)
  refine Cl.mono H (fun r M1 h => ?_)
  obtain ⟨v2, rfl, H⟩ := h
  obtain ⟨X, H⟩ := H
  refine And.intro (fun c => ?_) (fun c => ?_)
  · replace H := H.1 c
    exact ⟨fun h => absurd h (by decide), _, rfl, H⟩
  · replace H := H.2 c
    refine And.intro X.1.1 ?_
    refine Or.inl ⟨_, (ob11_r8 X.1), ?_⟩
    refine And.intro X.2.2.2.2.2.2.1.1 ?_
    exact ⟨fun h => absurd h (by decide), _, rfl, H⟩

theorem c_X11_line {G : GT} {d : Nat} {M : Mem} {x : Nat} (X : XAt M x) {a1 : Int32} {a2 : Int32} {a3 : Int32} {a4 : Int32} {Q : Int32 → Mem → Prop} (H : CI G d 143 [.ref x, .int a1, .int a2] M (fun v2 M1 => XAt M1 x ∧ ((v2 = 0 → Q (-1 : Int32) M1) ∧ (¬ v2 = 0 → (a3 < 0 → Q (-1 : Int32) M1) ∧ (¬ a3 < 0 → (a3 < (vi M1 (x + 36) 0) → (¬ a4 = 0 → (¬ a4 = (1 : Int32) → Q (-1 : Int32) M1) ∧ (a4 = (1 : Int32) → vp_in a3 400 ∧ (Q (vi M1 ((x + 36) + 2) (a3).toNatClampNeg) M1))) ∧ (a4 = 0 → vp_in a3 400 ∧ (Q (vi M1 ((x + 36) + 1) (a3).toNatClampNeg) M1))) ∧ (¬ a3 < (vi M1 (x + 36) 0) → Q (-1 : Int32) M1)))))) : CI G (d + 1) 129 [.ref x, .int a1, .int a2, .int a3, .int a4] M Q := by
  refine Cl.ofM (Nat.le_of_ble_eq_true rfl) rfl ?_
  refine vcc ok129 0 [] ?_
  refine And.intro (Nat.le_of_ble_eq_true rfl) ?_
  refine And.intro (Nat.le_of_ble_eq_true rfl) (And.intro X.1.1 ?_)
  refine Cl.mono H (fun r M1 h => ?_)
  obtain ⟨v2, rfl, H⟩ := h
  obtain ⟨X, H⟩ := H
  refine And.intro (fun c => ?_) (fun c => ?_)
  · replace H := H.1 c
    exact ⟨fun h => absurd h (by decide), _, rfl, H⟩
  · replace H := H.2 c
    refine And.intro (fun c => ?_) (fun c => ?_)
    · replace H := H.1 c
      exact ⟨fun h => absurd h (by decide), _, rfl, H⟩
    · replace H := H.2 c
      refine And.intro X.1.1 ?_
      refine Or.inl ⟨_, (ob11_r8 X.1), ?_⟩
      refine And.intro X.2.2.2.2.2.2.1.1 ?_
      refine And.intro (fun c => ?_) (fun c => ?_)
      · replace H := H.1 c
        refine And.intro (fun c => ?_) (fun c => ?_)
        · replace H := H.1 c
          refine And.intro (fun c => ?_) (fun c => ?_)
          · replace H := H.1 c
            exact ⟨fun h => absurd h (by decide), _, rfl, H⟩
          · replace H := H.2 c
            refine And.intro X.1.1 ?_
            refine Or.inl ⟨_, (ob11_r8 X.1), ?_⟩
            refine And.intro X.2.2.2.2.2.2.1.1 ?_
            refine Or.inl ⟨_, (ob4_r2 X.2.2.2.2.2.2.1), ?_⟩
            refine Or.inl ⟨(ob4_k2 X.2.2.2.2.2.2.1), vp_cst (ob4_l2 X.2.2.2.2.2.2.1) H.1, ?_⟩
            replace H := H.2
            exact ⟨fun h => absurd h (by decide), _, rfl, H⟩
        · replace H := H.2 c
          refine And.intro X.1.1 ?_
          refine Or.inl ⟨_, (ob11_r8 X.1), ?_⟩
          refine And.intro X.2.2.2.2.2.2.1.1 ?_
          refine Or.inl ⟨_, (ob4_r1 X.2.2.2.2.2.2.1), ?_⟩
          refine Or.inl ⟨(ob4_k1 X.2.2.2.2.2.2.1), vp_cst (ob4_l1 X.2.2.2.2.2.2.1) H.1, ?_⟩
          replace H := H.2
          exact ⟨fun h => absurd h (by decide), _, rfl, H⟩
      · replace H := H.2 c
        exact ⟨fun h => absurd h (by decide), _, rfl, H⟩

theorem c_X11_changed {G : GT} {d : Nat} {M : Mem} {x : Nat} (X : XAt M x) {a1 : Int32} {a2 : Int32} {Q : Int32 → Mem → Prop} (H : CR G d 142 [.ref x, .int a1] M (fun o7 M1 => XAt M1 x ∧ ((∀ r2, o7 = some r2 → CI G d 146 [.int a2] M1 (fun v4 M3 => XAt M3 x ∧ ((¬ v4 = 0 → CI G d 144 [.ref x, .ref r2, .int a2, .int (1 : Int32)] M3 (fun v6 M5 => XAt M5 x ∧ (Q v6 M5))) ∧ (v4 = 0 → Q (-1 : Int32) M3)))) ∧ (o7 = none → Q (-1 : Int32) M1)))) : CI G (d + 1) 130 [.ref x, .int a1, .int a2] M Q := by
  refine Cl.ofM (Nat.le_of_ble_eq_true rfl) rfl ?_
  refine vcc ok130 0 [] ?_
  refine And.intro (Nat.le_of_ble_eq_true rfl) ?_
  refine And.intro (Nat.le_of_ble_eq_true rfl) (And.intro X.1.1 ?_)
  refine Cl.mono H (fun r M1 h => ?_)
  obtain ⟨o7, rfl, H⟩ := h
  obtain ⟨X, H⟩ := H
  rcases o7 with _ | r2
  · replace H := H.2 rfl
    exact ⟨fun h => absurd h (by decide), _, rfl, H⟩
  · replace H := H.1 _ rfl
    refine And.intro (Nat.le_of_ble_eq_true rfl) ?_
    refine And.intro (Nat.le_of_ble_eq_true rfl) ?_
    refine Cl.mono H (fun r M3 h => ?_)
    obtain ⟨v4, rfl, H⟩ := h
    obtain ⟨X, H⟩ := H
    refine And.intro (fun c => ?_) (fun c => ?_)
    · replace H := H.1 c
      refine And.intro (Nat.le_of_ble_eq_true rfl) ?_
      refine And.intro (Nat.le_of_ble_eq_true rfl) (And.intro X.1.1 ?_)
      refine Cl.mono H (fun r M5 h => ?_)
      obtain ⟨v6, rfl, H⟩ := h
      obtain ⟨X, H⟩ := H
      exact ⟨fun h => absurd h (by decide), _, rfl, H⟩
    · replace H := H.2 c
      exact ⟨fun h => absurd h (by decide), _, rfl, H⟩

theorem c_X11_run {G : GT} {d : Nat} {M : Mem} {x : Nat} (X : XAt M x) {a1 : Int32} {a2 : Int32} {a3 : Int32} {Q : Int32 → Mem → Prop} (H : CR G d 142 [.ref x, .int a1] M (fun o7 M1 => XAt M1 x ∧ ((∀ r2, o7 = some r2 → CI G d 146 [.int a2] M1 (fun v4 M3 => XAt M3 x ∧ ((v4 = 0 → Q (-1 : Int32) M3) ∧ (¬ v4 = 0 → (a3 < (1 : Int32) → Q (-1 : Int32) M3) ∧ (¬ a3 < (1 : Int32) → (a3 ≤ (60 : Int32) → CI G d 144 [.ref x, .ref r2, .int a2, .int a3] M3 (fun v6 M5 => XAt M5 x ∧ (Q v6 M5))) ∧ (¬ a3 ≤ (60 : Int32) → Q (-1 : Int32) M3)))))) ∧ (o7 = none → Q (-1 : Int32) M1)))) : CI G (d + 1) 131 [.ref x, .int a1, .int a2, .int a3] M Q := by
  refine Cl.ofM (Nat.le_of_ble_eq_true rfl) rfl ?_
  refine vcc ok131 0 [] ?_
  refine And.intro (Nat.le_of_ble_eq_true rfl) ?_
  refine And.intro (Nat.le_of_ble_eq_true rfl) (And.intro X.1.1 ?_)
  refine Cl.mono H (fun r M1 h => ?_)
  obtain ⟨o7, rfl, H⟩ := h
  obtain ⟨X, H⟩ := H
  rcases o7 with _ | r2
  · replace H := H.2 rfl
    exact ⟨fun h => absurd h (by decide), _, rfl, H⟩
  · replace H := H.1 _ rfl
    refine And.intro (Nat.le_of_ble_eq_true rfl) ?_
    refine And.intro (Nat.le_of_ble_eq_true rfl) ?_
    refine Cl.mono H (fun r M3 h => ?_)
    obtain ⟨v4, rfl, H⟩ := h
    obtain ⟨X, H⟩ := H
    refine And.intro (fun c => ?_) (fun c => ?_)
    · replace H := H.1 c
      exact ⟨fun h => absurd h (by decide), _, rfl, H⟩
    · replace H := H.2 c
      refine And.intro (fun c => ?_) (fun c => ?_)
      · replace H := H.1 c
        exact ⟨fun h => absurd h (by decide), _, rfl, H⟩
      · replace H := H.2 c
        refine And.intro (fun c => ?_) (fun c => ?_)
        · replace H := H.1 c
          refine And.intro (Nat.le_of_ble_eq_true rfl) ?_
          refine And.intro (Nat.le_of_ble_eq_true rfl) (And.intro X.1.1 ?_)
          refine Cl.mono H (fun r M5 h => ?_)
          obtain ⟨v6, rfl, H⟩ := h
          obtain ⟨X, H⟩ := H
          exact ⟨fun h => absurd h (by decide), _, rfl, H⟩
        · replace H := H.2 c
          exact ⟨fun h => absurd h (by decide), _, rfl, H⟩

theorem c_X11_costs {G : GT} {d : Nat} {M : Mem} {x : Nat} (X : XAt M x) {a1 : Int32} {a2 : Int32} {Q : Int32 → Mem → Prop} (H : CR G d 142 [.ref x, .int a1] M (fun o9 M1 => XAt M1 x ∧ ((∀ r2, o9 = some r2 → CI G d 146 [.int a2] M1 (fun v4 M3 => XAt M3 x ∧ ((¬ v4 = 0 → mK M3 r2 = 11 ∧ CI G d 106 [.ref r2, .ref (x + 3)] M3 (fun v6 M5 => XAt M5 x ∧ (vp_in (6 : Int32) 7 ∧ (CI G d 144 [.ref x, .ref r2, .int a2, .int (1 : Int32)] M5 (fun v8 M7 => XAt M7 x ∧ (Q (v6 + ((vi M5 ((x + 3) + 6) ((6 : Int32)).toNatClampNeg) * v8)) M7)))))) ∧ (v4 = 0 → Q (-1 : Int32) M3)))) ∧ (o9 = none → Q (-1 : Int32) M1)))) : CI G (d + 1) 132 [.ref x, .int a1, .int a2] M Q := by
  refine Cl.ofM (Nat.le_of_ble_eq_true rfl) rfl ?_
  refine vcc ok132 0 [] ?_
  refine And.intro (Nat.le_of_ble_eq_true rfl) ?_
  refine And.intro (Nat.le_of_ble_eq_true rfl) (And.intro X.1.1 ?_)
  refine Cl.mono H (fun r M1 h => ?_)
  obtain ⟨o9, rfl, H⟩ := h
  obtain ⟨X, H⟩ := H
  rcases o9 with _ | r2
  · replace H := H.2 rfl
    exact ⟨fun h => absurd h (by decide), _, rfl, H⟩
  · replace H := H.1 _ rfl
    refine And.intro (Nat.le_of_ble_eq_true rfl) ?_
    refine And.intro (Nat.le_of_ble_eq_true rfl) ?_
    refine Cl.mono H (fun r M3 h => ?_)
    obtain ⟨v4, rfl, H⟩ := h
    obtain ⟨X, H⟩ := H
    refine And.intro (fun c => ?_) (fun c => ?_)
    · replace H := H.1 c
      refine And.intro X.1.1 ?_
      refine Or.inl ⟨_, (ob11_r1 X.1), ?_⟩
      refine And.intro (Nat.le_of_ble_eq_true rfl) ?_
      refine And.intro (Nat.le_of_ble_eq_true rfl) (And.intro H.1 ?_)
      replace H := H.2
      refine Cl.mono H (fun r M5 h => ?_)
      obtain ⟨v6, rfl, H⟩ := h
      obtain ⟨X, H⟩ := H
      refine And.intro X.1.1 ?_
      refine Or.inl ⟨_, (ob11_r1 X.1), ?_⟩
      refine And.intro X.2.2.1.1 ?_
      refine Or.inl ⟨_, (ob8_r8 X.2.2.1), ?_⟩
      refine Or.inl ⟨(ob8_k8 X.2.2.1), vp_cst (ob8_l8 X.2.2.1) H.1, ?_⟩
      replace H := H.2
      refine And.intro (Nat.le_of_ble_eq_true rfl) ?_
      refine And.intro (Nat.le_of_ble_eq_true rfl) (And.intro X.1.1 ?_)
      refine Cl.mono H (fun r M7 h => ?_)
      obtain ⟨v8, rfl, H⟩ := h
      obtain ⟨X, H⟩ := H
      exact ⟨fun h => absurd h (by decide), _, rfl, H⟩
    · replace H := H.2 c
      exact ⟨fun h => absurd h (by decide), _, rfl, H⟩

theorem c_X11_edit {G : GT} {d : Nat} {M : Mem} {x : Nat} (X : XAt M x) {a1 : Int32} {Q : Int32 → Mem → Prop} (H : CV G d 145 [.ref x] M (fun M1 => XAt M1 x ∧ ((¬ a1 = (-1 : Int32) → (¬ a1 = (-2 : Int32) → (a1 < 0 → Q (-1 : Int32) M1) ∧ (¬ a1 < 0 → ((vi M1 (x + 46) 2) ≤ a1 → Q (-1 : Int32) M1) ∧ (¬ (vi M1 (x + 46) 2) ≤ a1 → vp_in a1 400 ∧ (Q (vi M1 ((x + 46) + 1) (a1).toNatClampNeg) M1)))) ∧ (a1 = (-2 : Int32) → Q (vi M1 (x + 46) 2) M1)) ∧ (a1 = (-1 : Int32) → Q (vi M1 (x + 46) 1) M1)))) : CI G (d + 1) 133 [.ref x, .int a1] M Q := by
  refine Cl.ofM (Nat.le_of_ble_eq_true rfl) rfl ?_
  refine vcc ok133 0 [] ?_
  refine And.intro (Nat.le_of_ble_eq_true rfl) ?_
  refine And.intro (Nat.le_of_ble_eq_true rfl) (And.intro X.1.1 ?_)
  refine Cl.mono H (fun r M1 h => ?_)
  obtain ⟨rfl, H⟩ := h
  obtain ⟨X, H⟩ := H
  refine And.intro (fun c => ?_) (fun c => ?_)
  · replace H := H.1 c
    refine And.intro (fun c => ?_) (fun c => ?_)
    · replace H := H.1 c
      refine And.intro (fun c => ?_) (fun c => ?_)
      · replace H := H.1 c
        exact ⟨fun h => absurd h (by decide), _, rfl, H⟩
      · replace H := H.2 c
        refine And.intro X.1.1 ?_
        refine Or.inl ⟨_, (ob11_r10 X.1), ?_⟩
        refine And.intro X.2.2.2.2.2.2.2.2.1.1 ?_
        refine And.intro (fun c => ?_) (fun c => ?_)
        · replace H := H.1 c
          exact ⟨fun h => absurd h (by decide), _, rfl, H⟩
        · replace H := H.2 c
          refine And.intro X.1.1 ?_
          refine Or.inl ⟨_, (ob11_r10 X.1), ?_⟩
          refine And.intro X.2.2.2.2.2.2.2.2.1.1 ?_
          refine Or.inl ⟨_, (ob1_r3 X.2.2.2.2.2.2.2.2.1), ?_⟩
          refine Or.inl ⟨(ob1_k3 X.2.2.2.2.2.2.2.2.1), vp_cst (ob1_l3 X.2.2.2.2.2.2.2.2.1) H.1, ?_⟩
          replace H := H.2
          exact ⟨fun h => absurd h (by decide), _, rfl, H⟩
    · replace H := H.2 c
      refine And.intro X.1.1 ?_
      refine Or.inl ⟨_, (ob11_r10 X.1), ?_⟩
      refine And.intro X.2.2.2.2.2.2.2.2.1.1 ?_
      exact ⟨fun h => absurd h (by decide), _, rfl, H⟩
  · replace H := H.2 c
    refine And.intro X.1.1 ?_
    refine Or.inl ⟨_, (ob11_r10 X.1), ?_⟩
    refine And.intro X.2.2.2.2.2.2.2.2.1.1 ?_
    exact ⟨fun h => absurd h (by decide), _, rfl, H⟩

theorem c_X11_moved {G : GT} {d : Nat} {M : Mem} {x : Nat} (X : XAt M x) {a1 : Int32} {Q : Int32 → Mem → Prop} (H : (a1 < 0 → Q (-1 : Int32) M) ∧ (¬ a1 < 0 → ((3 : Int32) < a1 → Q (-1 : Int32) M) ∧ (¬ (3 : Int32) < a1 → ((vi M (x + 3) 1) ≤ (24 : Int32) → ((vi M (x + 50) 0) = (vi M x 13) → ((a1).toInt < 1 ∨ 3 < (a1).toInt → Q (vi M (x + 50) 1) M) ∧ ((a1).toInt = 1 → Q (vi M (x + 50) 2) M) ∧ ((a1).toInt = 2 → Q (vi M (x + 50) 3) M) ∧ ((a1).toInt = 3 → Q (vi M (x + 50) 4) M) ∧ True) ∧ (¬ (vi M (x + 50) 0) = (vi M x 13) → CV G d 145 [.ref x] M (fun M1 => XAt M1 x ∧ (CV G d 67 [.ref (x + 50), .ref (x + 3), .int (vi M1 (x + 46) 1)] M1 (fun M2 => XAt M2 x ∧ (∀ M3, M3 = seti M2 (x + 50) 0 (vi M2 x 13) → ((a1).toInt < 1 ∨ 3 < (a1).toInt → Q (vi M3 (x + 50) 1) M3) ∧ ((a1).toInt = 1 → Q (vi M3 (x + 50) 2) M3) ∧ ((a1).toInt = 2 → Q (vi M3 (x + 50) 3) M3) ∧ ((a1).toInt = 3 → Q (vi M3 (x + 50) 4) M3) ∧ True)))))) ∧ (¬ (vi M (x + 3) 1) ≤ (24 : Int32) → Q (-1 : Int32) M)))) : CI G (d + 1) 134 [.ref x, .int a1] M Q := by
  refine Cl.ofM (Nat.le_of_ble_eq_true rfl) rfl ?_
  refine vcc ok134 0 [] ?_
  refine And.intro (fun c => ?_) (fun c => ?_)
  · replace H := H.1 c
    exact ⟨fun h => absurd h (by decide), _, rfl, H⟩
  · replace H := H.2 c
    refine And.intro (fun c => ?_) (fun c => ?_)
    · replace H := H.1 c
      exact ⟨fun h => absurd h (by decide), _, rfl, H⟩
    · replace H := H.2 c
      refine And.intro X.1.1 ?_
      refine Or.inl ⟨_, (ob11_r1 X.1), ?_⟩
      refine And.intro X.2.2.1.1 ?_
      refine And.intro (fun c => ?_) (fun c => ?_)
      · replace H := H.1 c
        refine And.intro X.1.1 ?_
        refine Or.inl ⟨_, (ob11_r11 X.1), ?_⟩
        refine And.intro X.2.2.2.2.2.2.2.2.2.1 ?_
        refine And.intro X.1.1 ?_
        refine And.intro (fun c => ?_) (fun c => ?_)
        · replace H := H.1 c
          refine And.intro (fun c => ?_) ?_
          · replace H := H.1 c
            refine And.intro X.1.1 ?_
            refine Or.inl ⟨_, (ob11_r11 X.1), ?_⟩
            refine And.intro X.2.2.2.2.2.2.2.2.2.1 ?_
            exact ⟨fun h => absurd h (by decide), _, rfl, H⟩
          replace H := H.2
          refine And.intro (fun c => ?_) ?_
          · replace H := H.1 c
            refine And.intro X.1.1 ?_
            refine Or.inl ⟨_, (ob11_r11 X.1), ?_⟩
            refine And.intro X.2.2.2.2.2.2.2.2.2.1 ?_
            exact ⟨fun h => absurd h (by decide), _, rfl, H⟩
          replace H := H.2
          refine And.intro (fun c => ?_) ?_
          · replace H := H.1 c
            refine And.intro X.1.1 ?_
            refine Or.inl ⟨_, (ob11_r11 X.1), ?_⟩
            refine And.intro X.2.2.2.2.2.2.2.2.2.1 ?_
            exact ⟨fun h => absurd h (by decide), _, rfl, H⟩
          replace H := H.2
          refine And.intro (fun c => ?_) ?_
          · replace H := H.1 c
            refine And.intro X.1.1 ?_
            refine Or.inl ⟨_, (ob11_r11 X.1), ?_⟩
            refine And.intro X.2.2.2.2.2.2.2.2.2.1 ?_
            exact ⟨fun h => absurd h (by decide), _, rfl, H⟩
          replace H := H.2
          exact trivial
        · replace H := H.2 c
          refine And.intro (Nat.le_of_ble_eq_true rfl) ?_
          refine And.intro (Nat.le_of_ble_eq_true rfl) (And.intro X.1.1 ?_)
          refine Cl.mono H (fun r M1 h => ?_)
          obtain ⟨rfl, H⟩ := h
          obtain ⟨X, H⟩ := H
          refine And.intro X.1.1 ?_
          refine Or.inl ⟨_, (ob11_r11 X.1), ?_⟩
          refine And.intro X.1.1 ?_
          refine Or.inl ⟨_, (ob11_r1 X.1), ?_⟩
          refine And.intro X.1.1 ?_
          refine Or.inl ⟨_, (ob11_r10 X.1), ?_⟩
          refine And.intro X.2.2.2.2.2.2.2.2.1.1 ?_
          refine And.intro (Nat.le_of_ble_eq_true rfl) ?_
          refine And.intro (Nat.le_of_ble_eq_true rfl) (And.intro X.2.2.2.2.2.2.2.2.2.1 ?_)
          refine Cl.mono H (fun r M2 h => ?_)
          obtain ⟨rfl, H⟩ := h
          obtain ⟨X, H⟩ := H
          refine And.intro X.1.1 ?_
          refine Or.inl ⟨_, (ob11_r11 X.1), ?_⟩
          refine And.intro X.1.1 ?_
          refine And.intro X.2.2.2.2.2.2.2.2.2.1 ?_
          refine And.intro (Or.inl rfl) (And.intro (fun h => absurd h (by decide)) ?_)
          replace H := H _ rfl
          refine And.intro (fun c => ?_) ?_
          · replace H := H.1 c
            refine And.intro X.1.1 ?_
            refine Or.inl ⟨_, (ob11_r11 X.1), ?_⟩
            refine And.intro X.2.2.2.2.2.2.2.2.2.1 ?_
            exact ⟨fun h => absurd h (by decide), _, rfl, H⟩
          replace H := H.2
          refine And.intro (fun c => ?_) ?_
          · replace H := H.1 c
            refine And.intro X.1.1 ?_
            refine Or.inl ⟨_, (ob11_r11 X.1), ?_⟩
            refine And.intro X.2.2.2.2.2.2.2.2.2.1 ?_
            exact ⟨fun h => absurd h (by decide), _, rfl, H⟩
          replace H := H.2
          refine And.intro (fun c => ?_) ?_
          · replace H := H.1 c
            refine And.intro X.1.1 ?_
            refine Or.inl ⟨_, (ob11_r11 X.1), ?_⟩
            refine And.intro X.2.2.2.2.2.2.2.2.2.1 ?_
            exact ⟨fun h => absurd h (by decide), _, rfl, H⟩
          replace H := H.2
          refine And.intro (fun c => ?_) ?_
          · replace H := H.1 c
            refine And.intro X.1.1 ?_
            refine Or.inl ⟨_, (ob11_r11 X.1), ?_⟩
            refine And.intro X.2.2.2.2.2.2.2.2.2.1 ?_
            exact ⟨fun h => absurd h (by decide), _, rfl, H⟩
          replace H := H.2
          exact trivial
      · replace H := H.2 c
        exact ⟨fun h => absurd h (by decide), _, rfl, H⟩

theorem c_X11_fewest {G : GT} {d : Nat} {M : Mem} {x : Nat} (X : XAt M x)  {Q : Int32 → Mem → Prop} (H : CI G d 81 [.ref (x + 3)] M (fun v2 M1 => XAt M1 x ∧ ((v2 ≤ (12 : Int32) → ((vi M1 x 14) = (vi M1 x 13) → Q (vi M1 x 15) M1) ∧ (¬ (vi M1 x 14) = (vi M1 x 13) → CI G d 10 [.ref (x + 25), .ref (x + 3)] M1 (fun v4 M3 => XAt M3 x ∧ (∀ M5, M5 = seti M3 x 15 v4 → ∀ M6, M6 = seti M5 x 14 (vi M5 x 13) → Q (vi M6 x 15) M6)))) ∧ (¬ v2 ≤ (12 : Int32) → Q (-1 : Int32) M1)))) : CI G (d + 1) 135 [.ref x] M Q := by
  refine Cl.ofM (Nat.le_of_ble_eq_true rfl) rfl ?_
  refine vcc ok135 0 [] ?_
  refine And.intro X.1.1 ?_
  refine Or.inl ⟨_, (ob11_r1 X.1), ?_⟩
  refine And.intro (Nat.le_of_ble_eq_true rfl) ?_
  refine And.intro (Nat.le_of_ble_eq_true rfl) (And.intro X.2.2.1.1 ?_)
  refine Cl.mono H (fun r M1 h => ?_)
  obtain ⟨v2, rfl, H⟩ := h
  obtain ⟨X, H⟩ := H
  refine And.intro (fun c => ?_) (fun c => ?_)
  · replace H := H.1 c
    refine And.intro X.1.1 ?_
    refine And.intro X.1.1 ?_
    refine And.intro (fun c => ?_) (fun c => ?_)
    · replace H := H.1 c
      refine And.intro X.1.1 ?_
      exact ⟨fun h => absurd h (by decide), _, rfl, H⟩
    · replace H := H.2 c
      refine And.intro X.1.1 ?_
      refine Or.inl ⟨_, (ob11_r7 X.1), ?_⟩
      refine And.intro X.1.1 ?_
      refine Or.inl ⟨_, (ob11_r1 X.1), ?_⟩
      refine And.intro (Nat.le_of_ble_eq_true rfl) ?_
      refine And.intro (Nat.le_of_ble_eq_true rfl) (And.intro X.2.2.2.2.2.1.1 ?_)
      refine Cl.mono H (fun r M3 h => ?_)
      obtain ⟨v4, rfl, H⟩ := h
      obtain ⟨X, H⟩ := H
      refine And.intro X.1.1 ?_
      refine And.intro (Or.inl rfl) (And.intro (fun h => absurd h (by decide)) ?_)
      replace H := H _ rfl
      refine And.intro X.1.1 ?_
      refine And.intro X.1.1 ?_
      refine And.intro (Or.inl rfl) (And.intro (fun h => absurd h (by decide)) ?_)
      replace H := H _ rfl
      refine And.intro X.1.1 ?_
      exact ⟨fun h => absurd h (by decide), _, rfl, H⟩
  · replace H := H.2 c
    exact ⟨fun h => absurd h (by decide), _, rfl, H⟩

theorem c_X11_unseen {G : GT} {d : Nat} {M : Mem} {x : Nat} (X : XAt M x) {a1 : Int32} {a2 : Int32} {a3 : Int32} {a4 : Int32} {Q : Int32 → Mem → Prop} (H : CI G d 77 [.ref (x + 3), .int a1] M (fun v2 M1 => XAt M1 x ∧ ((v2 = 0 → Q (-1 : Int32) M1) ∧ (¬ v2 = 0 → CI G d 77 [.ref (x + 3), .int a2] M1 (fun v4 M3 => XAt M3 x ∧ ((v4 = 0 → Q (-1 : Int32) M3) ∧ (¬ v4 = 0 → (¬ a1 = a2 → (a3 < 0 → Q (-1 : Int32) M3) ∧ (¬ a3 < 0 → ((6 : Int32) < a3 → Q (-1 : Int32) M3) ∧ (¬ (6 : Int32) < a3 → (a4 < 0 → Q (-1 : Int32) M3) ∧ (¬ a4 < 0 → (a4 ≤ (1 : Int32) → CI G d 84 [.ref (x + 3), .int a1, .int a2, .int a3, .int (0 : Int32)] M3 (fun v6 M5 => XAt M5 x ∧ (CI G d 84 [.ref (x + 3), .int a2, .int a1, .int a3, .int (0 : Int32)] M5 (fun v8 M7 => XAt M7 x ∧ (CI G d 84 [.ref (x + 3), .int a1, .int a2, .int a3, .int (1 : Int32)] M7 (fun v10 M9 => XAt M9 x ∧ (CI G d 153 [.int (v6 * v8), .int v10, .int a4] M9 (fun v12 M11 => XAt M11 x ∧ (Q v12 M11))))))))) ∧ (¬ a4 ≤ (1 : Int32) → Q (-1 : Int32) M3))))) ∧ (a1 = a2 → Q (-1 : Int32) M3)))))))) : CI G (d + 1) 136 [.ref x, .int a1, .int a2, .int a3, .int a4] M Q := by
  refine Cl.ofM (Nat.le_of_ble_eq_true rfl) rfl ?_
  refine vcc ok136 0 [] ?_
  refine And.intro X.1.1 ?_
  refine Or.inl ⟨_, (ob11_r1 X.1), ?_⟩
  refine And.intro (Nat.le_of_ble_eq_true rfl) ?_
  refine And.intro (Nat.le_of_ble_eq_true rfl) (And.intro X.2.2.1.1 ?_)
  refine Cl.mono H (fun r M1 h => ?_)
  obtain ⟨v2, rfl, H⟩ := h
  obtain ⟨X, H⟩ := H
  refine And.intro (fun c => ?_) (fun c => ?_)
  · replace H := H.1 c
    exact ⟨fun h => absurd h (by decide), _, rfl, H⟩
  · replace H := H.2 c
    refine And.intro X.1.1 ?_
    refine Or.inl ⟨_, (ob11_r1 X.1), ?_⟩
    refine And.intro (Nat.le_of_ble_eq_true rfl) ?_
    refine And.intro (Nat.le_of_ble_eq_true rfl) (And.intro X.2.2.1.1 ?_)
    refine Cl.mono H (fun r M3 h => ?_)
    obtain ⟨v4, rfl, H⟩ := h
    obtain ⟨X, H⟩ := H
    refine And.intro (fun c => ?_) (fun c => ?_)
    · replace H := H.1 c
      exact ⟨fun h => absurd h (by decide), _, rfl, H⟩
    · replace H := H.2 c
      refine And.intro (fun c => ?_) (fun c => ?_)
      · replace H := H.1 c
        refine And.intro (fun c => ?_) (fun c => ?_)
        · replace H := H.1 c
          exact ⟨fun h => absurd h (by decide), _, rfl, H⟩
        · replace H := H.2 c
          refine And.intro (fun c => ?_) (fun c => ?_)
          · replace H := H.1 c
            exact ⟨fun h => absurd h (by decide), _, rfl, H⟩
          · replace H := H.2 c
            refine And.intro (fun c => ?_) (fun c => ?_)
            · replace H := H.1 c
              exact ⟨fun h => absurd h (by decide), _, rfl, H⟩
            · replace H := H.2 c
              refine And.intro (fun c => ?_) (fun c => ?_)
              · replace H := H.1 c
                refine And.intro X.1.1 ?_
                refine Or.inl ⟨_, (ob11_r1 X.1), ?_⟩
                refine And.intro (Nat.le_of_ble_eq_true rfl) ?_
                refine And.intro (Nat.le_of_ble_eq_true rfl) (And.intro X.2.2.1.1 ?_)
                refine Cl.mono H (fun r M5 h => ?_)
                obtain ⟨v6, rfl, H⟩ := h
                obtain ⟨X, H⟩ := H
                refine And.intro X.1.1 ?_
                refine Or.inl ⟨_, (ob11_r1 X.1), ?_⟩
                refine And.intro (Nat.le_of_ble_eq_true rfl) ?_
                refine And.intro (Nat.le_of_ble_eq_true rfl) (And.intro X.2.2.1.1 ?_)
                refine Cl.mono H (fun r M7 h => ?_)
                obtain ⟨v8, rfl, H⟩ := h
                obtain ⟨X, H⟩ := H
                refine And.intro X.1.1 ?_
                refine Or.inl ⟨_, (ob11_r1 X.1), ?_⟩
                refine And.intro (Nat.le_of_ble_eq_true rfl) ?_
                refine And.intro (Nat.le_of_ble_eq_true rfl) (And.intro X.2.2.1.1 ?_)
                refine Cl.mono H (fun r M9 h => ?_)
                obtain ⟨v10, rfl, H⟩ := h
                obtain ⟨X, H⟩ := H
                refine And.intro (Nat.le_of_ble_eq_true rfl) ?_
                refine And.intro (Nat.le_of_ble_eq_true rfl) ?_
                refine Cl.mono H (fun r M11 h => ?_)
                obtain ⟨v12, rfl, H⟩ := h
                obtain ⟨X, H⟩ := H
                exact ⟨fun h => absurd h (by decide), _, rfl, H⟩
              · replace H := H.2 c
                exact ⟨fun h => absurd h (by decide), _, rfl, H⟩
      · replace H := H.2 c
        exact ⟨fun h => absurd h (by decide), _, rfl, H⟩

theorem c_X11_rate {G : GT} {d : Nat} {M : Mem} {x : Nat} (X : XAt M x) {a1 : Int32} {a2 : Int32} {Q : Int32 → Mem → Prop} (H : CI G d 77 [.ref (x + 3), .int a1] M (fun v2 M1 => XAt M1 x ∧ ((v2 = 0 → Q (-1 : Int32) M1) ∧ (¬ v2 = 0 → (a2 < 0 → Q (-1 : Int32) M1) ∧ (¬ a2 < 0 → (a2 ≤ (1 : Int32) → CI G d 85 [.ref (x + 3), .int a1, .int (1 : Int32)] M1 (fun v4 M3 => XAt M3 x ∧ (CI G d 85 [.ref (x + 3), .int a1, .int (0 : Int32)] M3 (fun v6 M5 => XAt M5 x ∧ (CI G d 153 [.int v4, .int v6, .int a2] M5 (fun v8 M7 => XAt M7 x ∧ (Q v8 M7))))))) ∧ (¬ a2 ≤ (1 : Int32) → Q (-1 : Int32) M1)))))) : CI G (d + 1) 137 [.ref x, .int a1, .int a2] M Q := by
  refine Cl.ofM (Nat.le_of_ble_eq_true rfl) rfl ?_
  refine vcc ok137 0 [] ?_
  refine And.intro X.1.1 ?_
  refine Or.inl ⟨_, (ob11_r1 X.1), ?_⟩
  refine And.intro (Nat.le_of_ble_eq_true rfl) ?_
  refine And.intro (Nat.le_of_ble_eq_true rfl) (And.intro X.2.2.1.1 ?_)
  refine Cl.mono H (fun r M1 h => ?_)
  obtain ⟨v2, rfl, H⟩ := h
  obtain ⟨X, H⟩ := H
  refine And.intro (fun c => ?_) (fun c => ?_)
  · replace H := H.1 c
    exact ⟨fun h => absurd h (by decide), _, rfl, H⟩
  · replace H := H.2 c
    refine And.intro (fun c => ?_) (fun c => ?_)
    · replace H := H.1 c
      exact ⟨fun h => absurd h (by decide), _, rfl, H⟩
    · replace H := H.2 c
      refine And.intro (fun c => ?_) (fun c => ?_)
      · replace H := H.1 c
        refine And.intro X.1.1 ?_
        refine Or.inl ⟨_, (ob11_r1 X.1), ?_⟩
        refine And.intro (Nat.le_of_ble_eq_true rfl) ?_
        refine And.intro (Nat.le_of_ble_eq_true rfl) (And.intro X.2.2.1.1 ?_)
        refine Cl.mono H (fun r M3 h => ?_)
        obtain ⟨v4, rfl, H⟩ := h
        obtain ⟨X, H⟩ := H
        refine And.intro X.1.1 ?_
        refine Or.inl ⟨_, (ob11_r1 X.1), ?_⟩
        refine And.intro (Nat.le_of_ble_eq_true rfl) ?_
        refine And.intro (Nat.le_of_ble_eq_true rfl) (And.intro X.2.2.1.1 ?_)
        refine Cl.mono H (fun r M5 h => ?_)
        obtain ⟨v6, rfl, H⟩ := h
        obtain ⟨X, H⟩ := H
        refine And.intro (Nat.le_of_ble_eq_true rfl) ?_
        refine And.intro (Nat.le_of_ble_eq_true rfl) ?_
        refine Cl.mono H (fun r M7 h => ?_)
        obtain ⟨v8, rfl, H⟩ := h
        obtain ⟨X, H⟩ := H
        exact ⟨fun h => absurd h (by decide), _, rfl, H⟩
      · replace H := H.2 c
        exact ⟨fun h => absurd h (by decide), _, rfl, H⟩

theorem c_X11_count {G : GT} {d : Nat} {M : Mem} {x : Nat} (X : XAt M x) {a1 : Int32} {Q : Int32 → Mem → Prop} (H : ((a1).toInt < 0 ∨ 5 < (a1).toInt → (a1 ≤ (5 : Int32) → Q (-1 : Int32) M) ∧ (¬ a1 ≤ (5 : Int32) → CI G d 77 [.ref (x + 3), .int (a1 - (6 : Int32))] M (fun v2 M1 => XAt M1 x ∧ ((v2 = 0 → Q (-1 : Int32) M1) ∧ (¬ v2 = 0 → vp_in (a1 - (6 : Int32)) 4 ∧ (Q (vi M1 ((x + 3) + 4) ((a1 - (6 : Int32))).toNatClampNeg) M1)))))) ∧ ((a1).toInt = 0 → Q (vi M (x + 3) 1) M) ∧ ((a1).toInt = 1 → Q (vi M (x + 3) 3) M) ∧ ((a1).toInt = 2 → Q (vi M (x + 3) 6) M) ∧ ((a1).toInt = 3 → CI G d 81 [.ref (x + 3)] M (fun v4 M3 => XAt M3 x ∧ (Q v4 M3))) ∧ ((a1).toInt = 4 → Q (vi M x 12) M) ∧ ((a1).toInt = 5 → Q (vi M (x + 1) 1) M) ∧ True) : CI G (d + 1) 138 [.ref x, .int a1] M Q := by
  refine Cl.ofM (Nat.le_of_ble_eq_true rfl) rfl ?_
  refine vcc ok138 0 [] ?_
  refine And.intro (fun c => ?_) ?_
  · replace H := H.1 c
    refine And.intro (fun c => ?_) (fun c => ?_)
    · replace H := H.1 c
      exact ⟨fun h => absurd h (by decide), _, rfl, H⟩
    · replace H := H.2 c
      refine And.intro X.1.1 ?_
      refine Or.inl ⟨_, (ob11_r1 X.1), ?_⟩
      refine And.intro (Nat.le_of_ble_eq_true rfl) ?_
      refine And.intro (Nat.le_of_ble_eq_true rfl) (And.intro X.2.2.1.1 ?_)
      refine Cl.mono H (fun r M1 h => ?_)
      obtain ⟨v2, rfl, H⟩ := h
      obtain ⟨X, H⟩ := H
      refine And.intro (fun c => ?_) (fun c => ?_)
      · replace H := H.1 c
        exact ⟨fun h => absurd h (by decide), _, rfl, H⟩
      · replace H := H.2 c
        refine And.intro X.1.1 ?_
        refine Or.inl ⟨_, (ob11_r1 X.1), ?_⟩
        refine And.intro X.2.2.1.1 ?_
        refine Or.inl ⟨_, (ob8_r5 X.2.2.1), ?_⟩
        refine Or.inl ⟨(ob8_k5 X.2.2.1), vp_cst (ob8_l5 X.2.2.1) H.1, ?_⟩
        replace H := H.2
        exact ⟨fun h => absurd h (by decide), _, rfl, H⟩
  replace H := H.2
  refine And.intro (fun c => ?_) ?_
  · replace H := H.1 c
    refine And.intro X.1.1 ?_
    refine Or.inl ⟨_, (ob11_r1 X.1), ?_⟩
    refine And.intro X.2.2.1.1 ?_
    exact ⟨fun h => absurd h (by decide), _, rfl, H⟩
  replace H := H.2
  refine And.intro (fun c => ?_) ?_
  · replace H := H.1 c
    refine And.intro X.1.1 ?_
    refine Or.inl ⟨_, (ob11_r1 X.1), ?_⟩
    refine And.intro X.2.2.1.1 ?_
    exact ⟨fun h => absurd h (by decide), _, rfl, H⟩
  replace H := H.2
  refine And.intro (fun c => ?_) ?_
  · replace H := H.1 c
    refine And.intro X.1.1 ?_
    refine Or.inl ⟨_, (ob11_r1 X.1), ?_⟩
    refine And.intro X.2.2.1.1 ?_
    exact ⟨fun h => absurd h (by decide), _, rfl, H⟩
  replace H := H.2
  refine And.intro (fun c => ?_) ?_
  · replace H := H.1 c
    refine And.intro X.1.1 ?_
    refine Or.inl ⟨_, (ob11_r1 X.1), ?_⟩
    refine And.intro (Nat.le_of_ble_eq_true rfl) ?_
    refine And.intro (Nat.le_of_ble_eq_true rfl) (And.intro X.2.2.1.1 ?_)
    refine Cl.mono H (fun r M3 h => ?_)
    obtain ⟨v4, rfl, H⟩ := h
    obtain ⟨X, H⟩ := H
    exact ⟨fun h => absurd h (by decide), _, rfl, H⟩
  replace H := H.2
  refine And.intro (fun c => ?_) ?_
  · replace H := H.1 c
    refine And.intro X.1.1 ?_
    exact ⟨fun h => absurd h (by decide), _, rfl, H⟩
  replace H := H.2
  refine And.intro (fun c => ?_) ?_
  · replace H := H.1 c
    refine And.intro X.1.1 ?_
    refine Or.inl ⟨_, (ob11_r0 X.1), ?_⟩
    refine And.intro X.2.1.1 ?_
    exact ⟨fun h => absurd h (by decide), _, rfl, H⟩
  replace H := H.2
  exact trivial

theorem c_X11_image {G : GT} {d : Nat} {M : Mem} {x : Nat} (X : XAt M x) (F : frM M) {a1 : Int32} {Q : Int32 → Mem → Prop} (H : (a1 < 0 → Q (-1 : Int32) M) ∧ (¬ a1 < 0 → (a1 < (4 : Int32) → vp_in a1 4 ∧ ((∀ r1, (vr M (x + 12) (a1).toNatClampNeg) = some r1 → mK M r1 = 9 ∧ CV G d 74 [.ref r1, .ref (x + 3)] M (fun M2 => (XAt M2 x ∧ frM M2) ∧ (Q (vi M2 (x + 3) 1) M2))) ∧ ((vr M (x + 12) (a1).toNatClampNeg) = none → ∀ M3, M3 = mnew M 9 11 → CV G d 73 [.ref (mN M)] M3 (fun M4 => (XAt M4 x ∧ frM M4) ∧ (vp_in a1 4 ∧ (mK M4 (mN M) = elN (mK M4 (x + 12)) + 1 ∧ (∀ M5, M5 = setr M4 (x + 12) (a1).toNatClampNeg (some (mN M)) → mK M5 (mN M) = 9 ∧ CV G d 74 [.ref (mN M), .ref (x + 3)] M5 (fun M6 => (XAt M6 x ∧ frM M6) ∧ (Q (vi M6 (x + 3) 1) M6))))))))) ∧ (¬ a1 < (4 : Int32) → Q (-1 : Int32) M))) : CI G (d + 1) 139 [.ref x, .int a1] M Q := by
  refine Cl.ofM (Nat.le_of_ble_eq_true rfl) rfl ?_
  refine vcc ok139 0 [] ?_
  refine And.intro (fun c => ?_) (fun c => ?_)
  · replace H := H.1 c
    exact ⟨fun h => absurd h (by decide), _, rfl, H⟩
  · replace H := H.2 c
    refine And.intro (fun c => ?_) (fun c => ?_)
    · replace H := H.1 c
      refine And.intro X.1.1 ?_
      refine Or.inl ⟨_, (ob11_r2 X.1), ?_⟩
      refine ⟨(k18 (ob11_k2 X.1)), vp_cst (ob11_l2 X.1) H.1, ?_⟩
      replace H := H.2
      refine wRef_i (fun r1 hr => ?_) (fun hr => ?_)
      · replace H := H.1 _ hr
        refine And.intro X.1.1 ?_
        refine Or.inl ⟨_, (ob11_r1 X.1), ?_⟩
        refine And.intro (Nat.le_of_ble_eq_true rfl) ?_
        refine And.intro (Nat.le_of_ble_eq_true rfl) (And.intro H.1 ?_)
        replace H := H.2
        refine Cl.mono H (fun r M2 h => ?_)
        obtain ⟨rfl, H⟩ := h
        obtain ⟨⟨X, F⟩, H⟩ := H
        refine And.intro X.1.1 ?_
        refine Or.inl ⟨_, (ob11_r1 X.1), ?_⟩
        refine And.intro X.2.2.1.1 ?_
        exact ⟨fun h => absurd h (by decide), _, rfl, H⟩
      · replace H := H.2 hr
        replace H := H _ rfl
        refine And.intro (Nat.le_of_ble_eq_true rfl) ?_
        refine And.intro (Nat.le_of_ble_eq_true rfl) ?_
        refine Cl.mono H (fun r M4 h => ?_)
        obtain ⟨rfl, H⟩ := h
        obtain ⟨⟨X, F⟩, H⟩ := H
        refine And.intro X.1.1 ?_
        refine Or.inl ⟨_, (ob11_r2 X.1), ?_⟩
        refine ⟨(k18 (ob11_k2 X.1)), vp_cst (ob11_l2 X.1) H.1, ?_⟩
        replace H := H.2
        refine And.intro H.1 ?_
        replace H := H.2
        replace H := H _ rfl
        refine And.intro (X.1.1 :) ?_
        refine Or.inl ⟨_, (ob11_r1 (xa_setr X (k18 (ob11_k2 X.1))).1), ?_⟩
        refine And.intro (Nat.le_of_ble_eq_true rfl) ?_
        refine And.intro (Nat.le_of_ble_eq_true rfl) (And.intro H.1 ?_)
        replace H := H.2
        refine Cl.mono H (fun r M6 h => ?_)
        obtain ⟨rfl, H⟩ := h
        obtain ⟨⟨X, F⟩, H⟩ := H
        refine And.intro X.1.1 ?_
        refine Or.inl ⟨_, (ob11_r1 X.1), ?_⟩
        refine And.intro X.2.2.1.1 ?_
        exact ⟨fun h => absurd h (by decide), _, rfl, H⟩
    · replace H := H.2 c
      exact ⟨fun h => absurd h (by decide), _, rfl, H⟩

theorem c_X11_back {G : GT} {d : Nat} {M : Mem} {x : Nat} (X : XAt M x) {a1 : Int32} {Q : Int32 → Mem → Prop} (H : (a1 < 0 → Q (-1 : Int32) M) ∧ (¬ a1 < 0 → (a1 < (4 : Int32) → vp_in a1 4 ∧ ((∀ r1, (vr M (x + 12) (a1).toNatClampNeg) = some r1 → CV G d 74 [.ref (x + 3), .ref r1] M (fun M2 => XAt M2 x ∧ (∀ M3, M3 = seti M2 x 13 ((vi M2 x 13) + (1 : Int32)) → Q (vi M3 (x + 3) 1) M3))) ∧ ((vr M (x + 12) (a1).toNatClampNeg) = none → Q (-1 : Int32) M))) ∧ (¬ a1 < (4 : Int32) → Q (-1 : Int32) M))) : CI G (d + 1) 140 [.ref x, .int a1] M Q := by
  refine Cl.ofM (Nat.le_of_ble_eq_true rfl) rfl ?_
  refine vcc ok140 0 [] ?_
  refine And.intro (fun c => ?_) (fun c => ?_)
  · replace H := H.1 c
    exact ⟨fun h => absurd h (by decide), _, rfl, H⟩
  · replace H := H.2 c
    refine And.intro (fun c => ?_) (fun c => ?_)
    · replace H := H.1 c
      refine And.intro X.1.1 ?_
      refine Or.inl ⟨_, (ob11_r2 X.1), ?_⟩
      refine ⟨(k18 (ob11_k2 X.1)), vp_cst (ob11_l2 X.1) H.1, ?_⟩
      replace H := H.2
      refine wRef_i (fun r1 hr => ?_) (fun hr => ?_)
      · replace H := H.1 _ hr
        refine And.intro X.1.1 ?_
        refine Or.inl ⟨_, (ob11_r1 X.1), ?_⟩
        refine And.intro (Nat.le_of_ble_eq_true rfl) ?_
        refine And.intro (Nat.le_of_ble_eq_true rfl) (And.intro X.2.2.1.1 ?_)
        refine Cl.mono H (fun r M2 h => ?_)
        obtain ⟨rfl, H⟩ := h
        obtain ⟨X, H⟩ := H
        refine And.intro X.1.1 ?_
        refine And.intro X.1.1 ?_
        refine And.intro (Or.inl rfl) (And.intro (fun h => absurd h (by decide)) ?_)
        replace H := H _ rfl
        refine And.intro X.1.1 ?_
        refine Or.inl ⟨_, (ob11_r1 X.1), ?_⟩
        refine And.intro X.2.2.1.1 ?_
        exact ⟨fun h => absurd h (by decide), _, rfl, H⟩
      · replace H := H.2 hr
        exact ⟨fun h => absurd h (by decide), _, rfl, H⟩
    · replace H := H.2 c
      exact ⟨fun h => absurd h (by decide), _, rfl, H⟩

theorem c_X11_judged {G : GT} {d : Nat} {M : Mem} {x : Nat} (X : XAt M x) {a1 : Int32} {Q : Option Nat → Mem → Prop} (H : (a1 < 0 → Q none M) ∧ (¬ a1 < 0 → (a1 < (vi M x 12) → vp_in a1 4 ∧ ((∀ r1, (vr M (x + 14) (a1).toNatClampNeg) = some r1 → vp_in a1 4 ∧ ((∀ r2, (vr M (x + 13) (a1).toNatClampNeg) = some r2 → mK M r1 = 11 ∧ (((vi M r1 4) = (vi M x 13) → Q (some r1) M) ∧ (¬ (vi M r1 4) = (vi M x 13) → mK M r1 = 11 ∧ CV G d 99 [.ref r1, .ref (x + 3), .ref r2] M (fun M3 => XAt M3 x ∧ (mK M3 r1 = 11 ∧ (∀ M4, M4 = seti M3 r1 4 (vi M3 x 13) → Q (some r1) M4)))))) ∧ ((vr M (x + 13) (a1).toNatClampNeg) = none → Q none M))) ∧ ((vr M (x + 14) (a1).toNatClampNeg) = none → vp_in a1 4 ∧ ((∀ r5, (vr M (x + 13) (a1).toNatClampNeg) = some r5 → Q none M) ∧ ((vr M (x + 13) (a1).toNatClampNeg) = none → Q none M))))) ∧ (¬ a1 < (vi M x 12) → Q none M))) : CR G (d + 1) 141 [.ref x, .int a1] M Q := by
  refine Cl.ofM (Nat.le_of_ble_eq_true rfl) rfl ?_
  refine vcc ok141 0 [] ?_
  refine And.intro (fun c => ?_) (fun c => ?_)
  · replace H := H.1 c
    exact ⟨none, rfl, H⟩
  · replace H := H.2 c
    refine And.intro X.1.1 ?_
    refine And.intro (fun c => ?_) (fun c => ?_)
    · replace H := H.1 c
      refine And.intro X.1.1 ?_
      refine Or.inl ⟨_, (ob11_r4 X.1), ?_⟩
      refine ⟨(k18 (ob11_k4 X.1)), vp_cst (ob11_l4 X.1) H.1, ?_⟩
      replace H := H.2
      refine wRef_i (fun r1 hr => ?_) (fun hr => ?_)
      · replace H := H.1 _ hr
        refine And.intro X.1.1 ?_
        refine Or.inl ⟨_, (ob11_r3 X.1), ?_⟩
        refine ⟨(k18 (ob11_k3 X.1)), vp_cst (ob11_l3 X.1) H.1, ?_⟩
        replace H := H.2
        refine wRef_i (fun r2 hr => ?_) (fun hr => ?_)
        · replace H := H.1 _ hr
          refine And.intro H.1 ?_
          replace H := H.2
          refine And.intro X.1.1 ?_
          refine And.intro (fun c => ?_) (fun c => ?_)
          · replace H := H.1 c
            exact ⟨some _, rfl, H⟩
          · replace H := H.2 c
            refine And.intro X.1.1 ?_
            refine Or.inl ⟨_, (ob11_r1 X.1), ?_⟩
            refine And.intro (Nat.le_of_ble_eq_true rfl) ?_
            refine And.intro (Nat.le_of_ble_eq_true rfl) (And.intro H.1 ?_)
            replace H := H.2
            refine Cl.mono H (fun r M3 h => ?_)
            obtain ⟨rfl, H⟩ := h
            obtain ⟨X, H⟩ := H
            refine And.intro X.1.1 ?_
            refine And.intro H.1 ?_
            replace H := H.2
            refine And.intro (Or.inl rfl) (And.intro (fun h => absurd h (by decide)) ?_)
            replace H := H _ rfl
            exact ⟨some _, rfl, H⟩
        · replace H := H.2 hr
          exact ⟨none, rfl, H⟩
      · replace H := H.2 hr
        refine And.intro X.1.1 ?_
        refine Or.inl ⟨_, (ob11_r3 X.1), ?_⟩
        refine ⟨(k18 (ob11_k3 X.1)), vp_cst (ob11_l3 X.1) H.1, ?_⟩
        replace H := H.2
        refine wRef_i (fun r5 hr => ?_) (fun hr => ?_)
        · replace H := H.1 _ hr
          exact ⟨none, rfl, H⟩
        · replace H := H.2 hr
          exact ⟨none, rfl, H⟩
    · replace H := H.2 c
      exact ⟨none, rfl, H⟩

theorem c_X11_composed {G : GT} {d : Nat} {M : Mem} {x : Nat} (X : XAt M x) {a1 : Int32} {Q : Option Nat → Mem → Prop} (H : CR G d 141 [.ref x, .int a1] M (fun o5 M1 => XAt M1 x ∧ ((∀ r2, o5 = some r2 → mK M1 r2 = 11 ∧ (((vi M1 r2 5) = (vi M1 x 13) → Q (some r2) M1) ∧ (¬ (vi M1 r2 5) = (vi M1 x 13) → mK M1 r2 = 11 ∧ CV G d 104 [.ref r2, .ref (x + 3), .ref (x + 25)] M1 (fun M3 => XAt M3 x ∧ (mK M3 r2 = 11 ∧ (∀ M4, M4 = seti M3 r2 5 (vi M3 x 13) → Q (some r2) M4)))))) ∧ (o5 = none → Q none M1)))) : CR G (d + 1) 142 [.ref x, .int a1] M Q := by
  refine Cl.ofM (Nat.le_of_ble_eq_true rfl) rfl ?_
  refine vcc ok142 0 [] ?_
  refine And.intro (Nat.le_of_ble_eq_true rfl) ?_
  refine And.intro (Nat.le_of_ble_eq_true rfl) (And.intro X.1.1 ?_)
  refine Cl.mono H (fun r M1 h => ?_)
  obtain ⟨o5, rfl, H⟩ := h
  obtain ⟨X, H⟩ := H
  rcases o5 with _ | r2
  · replace H := H.2 rfl
    exact ⟨none, rfl, H⟩
  · replace H := H.1 _ rfl
    refine And.intro H.1 ?_
    replace H := H.2
    refine And.intro X.1.1 ?_
    refine And.intro (fun c => ?_) (fun c => ?_)
    · replace H := H.1 c
      exact ⟨some _, rfl, H⟩
    · replace H := H.2 c
      refine And.intro X.1.1 ?_
      refine Or.inl ⟨_, (ob11_r1 X.1), ?_⟩
      refine And.intro X.1.1 ?_
      refine Or.inl ⟨_, (ob11_r7 X.1), ?_⟩
      refine And.intro (Nat.le_of_ble_eq_true rfl) ?_
      refine And.intro (Nat.le_of_ble_eq_true rfl) (And.intro H.1 ?_)
      replace H := H.2
      refine Cl.mono H (fun r M3 h => ?_)
      obtain ⟨rfl, H⟩ := h
      obtain ⟨X, H⟩ := H
      refine And.intro X.1.1 ?_
      refine And.intro H.1 ?_
      replace H := H.2
      refine And.intro (Or.inl rfl) (And.intro (fun h => absurd h (by decide)) ?_)
      replace H := H _ rfl
      exact ⟨some _, rfl, H⟩

theorem c_X11_setLines {G : GT} {d : Nat} {M : Mem} {x : Nat} (X : XAt M x) {a1 : Int32} {a2 : Int32} {Q : Int32 → Mem → Prop} (H : CI G d 146 [.int a2] M (fun v2 M1 => XAt M1 x ∧ ((¬ v2 = 0 → (¬ a1 = 0 → (¬ a1 = (1 : Int32) → ((2 : Int32) ≤ a1 → CR G d 142 [.ref x, .int (a1 - (2 : Int32))] M1 (fun o8 M3 => XAt M3 x ∧ ((∀ r4, o8 = some r4 → mK M3 r4 = 11 ∧ ((∀ r5, vr M3 r4 2 = some r5 → mK M3 r4 = 11 ∧ (CV G d 40 [.ref (x + 36), .ref r5, .int (vi M3 r4 3), .int a2] M3 (fun M6 => XAt M6 x ∧ (((1 : Int32) = 0 ∨ (1 : Int32) = 1) ∧ Q (1 : Int32) M6)))) ∧ (vr M3 r4 2 = none → mK M3 r4 = 11 ∧ (CV G d 40 [.ref (x + 36), .null, .int (vi M3 r4 3), .int a2] M3 (fun M7 => XAt M7 x ∧ (((1 : Int32) = 0 ∨ (1 : Int32) = 1) ∧ Q (1 : Int32) M7)))))) ∧ (o8 = none → ((0 : Int32) = 0 ∨ (0 : Int32) = 1) ∧ Q (0 : Int32) M3)))) ∧ (¬ (2 : Int32) ≤ a1 → ((0 : Int32) = 0 ∨ (0 : Int32) = 1) ∧ Q (0 : Int32) M1)) ∧ (a1 = (1 : Int32) → CV G d 40 [.ref (x + 36), .ref ((x + 3) + 2), .int (vi M1 (x + 3) 3), .int a2] M1 (fun M9 => XAt M9 x ∧ (((1 : Int32) = 0 ∨ (1 : Int32) = 1) ∧ Q (1 : Int32) M9)))) ∧ (a1 = 0 → CV G d 40 [.ref (x + 36), .ref ((x + 3) + 1), .int (vi M1 (x + 3) 1), .int a2] M1 (fun M10 => XAt M10 x ∧ (((1 : Int32) = 0 ∨ (1 : Int32) = 1) ∧ Q (1 : Int32) M10)))) ∧ (v2 = 0 → ((0 : Int32) = 0 ∨ (0 : Int32) = 1) ∧ Q (0 : Int32) M1)))) : CI G (d + 1) 143 [.ref x, .int a1, .int a2] M Q := by
  refine Cl.ofM (Nat.le_of_ble_eq_true rfl) rfl ?_
  refine vcc ok143 0 [] ?_
  refine And.intro (Nat.le_of_ble_eq_true rfl) ?_
  refine And.intro (Nat.le_of_ble_eq_true rfl) ?_
  refine Cl.mono H (fun r M1 h => ?_)
  obtain ⟨v2, rfl, H⟩ := h
  obtain ⟨X, H⟩ := H
  refine And.intro (fun c => ?_) (fun c => ?_)
  · replace H := H.1 c
    refine And.intro (fun c => ?_) (fun c => ?_)
    · replace H := H.1 c
      refine And.intro (fun c => ?_) (fun c => ?_)
      · replace H := H.1 c
        refine And.intro (fun c => ?_) (fun c => ?_)
        · replace H := H.1 c
          refine And.intro (Nat.le_of_ble_eq_true rfl) ?_
          refine And.intro (Nat.le_of_ble_eq_true rfl) (And.intro X.1.1 ?_)
          refine Cl.mono H (fun r M3 h => ?_)
          obtain ⟨o8, rfl, H⟩ := h
          obtain ⟨X, H⟩ := H
          rcases o8 with _ | r4
          · replace H := H.2 rfl
            exact ⟨fun _ => H.1, _, rfl, H.2⟩
          · replace H := H.1 _ rfl
            refine And.intro X.1.1 ?_
            refine Or.inl ⟨_, (ob11_r8 X.1), ?_⟩
            refine And.intro H.1 ?_
            replace H := H.2
            refine wRef_i (fun r5 hr => ?_) (fun hr => ?_)
            · replace H := H.1 _ hr
              refine And.intro H.1 ?_
              replace H := H.2
              refine And.intro (Nat.le_of_ble_eq_true rfl) ?_
              refine And.intro (Nat.le_of_ble_eq_true rfl) (And.intro X.2.2.2.2.2.2.1.1 ?_)
              refine Cl.mono H (fun r M6 h => ?_)
              obtain ⟨rfl, H⟩ := h
              obtain ⟨X, H⟩ := H
              exact ⟨fun _ => H.1, _, rfl, H.2⟩
            · replace H := H.2 hr
              refine And.intro H.1 ?_
              replace H := H.2
              refine And.intro (Nat.le_of_ble_eq_true rfl) ?_
              refine And.intro (Nat.le_of_ble_eq_true rfl) (And.intro X.2.2.2.2.2.2.1.1 ?_)
              refine Cl.mono H (fun r M7 h => ?_)
              obtain ⟨rfl, H⟩ := h
              obtain ⟨X, H⟩ := H
              exact ⟨fun _ => H.1, _, rfl, H.2⟩
        · replace H := H.2 c
          exact ⟨fun _ => H.1, _, rfl, H.2⟩
      · replace H := H.2 c
        refine And.intro X.1.1 ?_
        refine Or.inl ⟨_, (ob11_r8 X.1), ?_⟩
        refine And.intro X.1.1 ?_
        refine Or.inl ⟨_, (ob11_r1 X.1), ?_⟩
        refine And.intro X.2.2.1.1 ?_
        refine Or.inl ⟨_, (ob8_r2 X.2.2.1), ?_⟩
        refine And.intro X.1.1 ?_
        refine Or.inl ⟨_, (ob11_r1 X.1), ?_⟩
        refine And.intro X.2.2.1.1 ?_
        refine And.intro (Nat.le_of_ble_eq_true rfl) ?_
        refine And.intro (Nat.le_of_ble_eq_true rfl) (And.intro X.2.2.2.2.2.2.1.1 ?_)
        refine Cl.mono H (fun r M9 h => ?_)
        obtain ⟨rfl, H⟩ := h
        obtain ⟨X, H⟩ := H
        exact ⟨fun _ => H.1, _, rfl, H.2⟩
    · replace H := H.2 c
      refine And.intro X.1.1 ?_
      refine Or.inl ⟨_, (ob11_r8 X.1), ?_⟩
      refine And.intro X.1.1 ?_
      refine Or.inl ⟨_, (ob11_r1 X.1), ?_⟩
      refine And.intro X.2.2.1.1 ?_
      refine Or.inl ⟨_, (ob8_r0 X.2.2.1), ?_⟩
      refine And.intro X.1.1 ?_
      refine Or.inl ⟨_, (ob11_r1 X.1), ?_⟩
      refine And.intro X.2.2.1.1 ?_
      refine And.intro (Nat.le_of_ble_eq_true rfl) ?_
      refine And.intro (Nat.le_of_ble_eq_true rfl) (And.intro X.2.2.2.2.2.2.1.1 ?_)
      refine Cl.mono H (fun r M10 h => ?_)
      obtain ⟨rfl, H⟩ := h
      obtain ⟨X, H⟩ := H
      exact ⟨fun _ => H.1, _, rfl, H.2⟩
  · replace H := H.2 c
    exact ⟨fun _ => H.1, _, rfl, H.2⟩

theorem c_X11_unlikePages {G : GT} {d : Nat} {M : Mem} {x : Nat} (X : XAt M x) {a1 : Nat} {a2 : Int32} {a3 : Int32} {Q : Int32 → Mem → Prop} (H : CV G d 40 [.ref (x + 36), .ref ((x + 3) + 1), .int (vi M (x + 3) 1), .int a2] M (fun M1 => XAt M1 x ∧ (mK M1 a1 = 11 ∧ ((∀ r2, vr M1 a1 2 = some r2 → mK M1 a1 = 11 ∧ (CV G d 40 [.ref (x + 41), .ref r2, .int (vi M1 a1 3), .int a2] M1 (fun M3 => XAt M3 x ∧ (CI G d 45 [.ref (x + 36), .ref (x + 41), .int a3] M3 (fun v5 M4 => XAt M4 x ∧ (Q v5 M4)))))) ∧ (vr M1 a1 2 = none → mK M1 a1 = 11 ∧ (CV G d 40 [.ref (x + 41), .null, .int (vi M1 a1 3), .int a2] M1 (fun M6 => XAt M6 x ∧ (CI G d 45 [.ref (x + 36), .ref (x + 41), .int a3] M6 (fun v8 M7 => XAt M7 x ∧ (Q v8 M7)))))))))) : CI G (d + 1) 144 [.ref x, .ref a1, .int a2, .int a3] M Q := by
  refine Cl.ofM (Nat.le_of_ble_eq_true rfl) rfl ?_
  refine vcc ok144 0 [] ?_
  refine And.intro X.1.1 ?_
  refine Or.inl ⟨_, (ob11_r8 X.1), ?_⟩
  refine And.intro X.1.1 ?_
  refine Or.inl ⟨_, (ob11_r1 X.1), ?_⟩
  refine And.intro X.2.2.1.1 ?_
  refine Or.inl ⟨_, (ob8_r0 X.2.2.1), ?_⟩
  refine And.intro X.1.1 ?_
  refine Or.inl ⟨_, (ob11_r1 X.1), ?_⟩
  refine And.intro X.2.2.1.1 ?_
  refine And.intro (Nat.le_of_ble_eq_true rfl) ?_
  refine And.intro (Nat.le_of_ble_eq_true rfl) (And.intro X.2.2.2.2.2.2.1.1 ?_)
  refine Cl.mono H (fun r M1 h => ?_)
  obtain ⟨rfl, H⟩ := h
  obtain ⟨X, H⟩ := H
  refine And.intro X.1.1 ?_
  refine Or.inl ⟨_, (ob11_r9 X.1), ?_⟩
  refine And.intro H.1 ?_
  replace H := H.2
  refine wRef_i (fun r2 hr => ?_) (fun hr => ?_)
  · replace H := H.1 _ hr
    refine And.intro H.1 ?_
    replace H := H.2
    refine And.intro (Nat.le_of_ble_eq_true rfl) ?_
    refine And.intro (Nat.le_of_ble_eq_true rfl) (And.intro X.2.2.2.2.2.2.2.1.1 ?_)
    refine Cl.mono H (fun r M3 h => ?_)
    obtain ⟨rfl, H⟩ := h
    obtain ⟨X, H⟩ := H
    refine And.intro X.1.1 ?_
    refine Or.inl ⟨_, (ob11_r8 X.1), ?_⟩
    refine And.intro X.1.1 ?_
    refine Or.inl ⟨_, (ob11_r9 X.1), ?_⟩
    refine And.intro (Nat.le_of_ble_eq_true rfl) ?_
    refine And.intro (Nat.le_of_ble_eq_true rfl) (And.intro X.2.2.2.2.2.2.1.1 ?_)
    refine Cl.mono H (fun r M4 h => ?_)
    obtain ⟨v5, rfl, H⟩ := h
    obtain ⟨X, H⟩ := H
    exact ⟨fun h => absurd h (by decide), _, rfl, H⟩
  · replace H := H.2 hr
    refine And.intro H.1 ?_
    replace H := H.2
    refine And.intro (Nat.le_of_ble_eq_true rfl) ?_
    refine And.intro (Nat.le_of_ble_eq_true rfl) (And.intro X.2.2.2.2.2.2.2.1.1 ?_)
    refine Cl.mono H (fun r M6 h => ?_)
    obtain ⟨rfl, H⟩ := h
    obtain ⟨X, H⟩ := H
    refine And.intro X.1.1 ?_
    refine Or.inl ⟨_, (ob11_r8 X.1), ?_⟩
    refine And.intro X.1.1 ?_
    refine Or.inl ⟨_, (ob11_r9 X.1), ?_⟩
    refine And.intro (Nat.le_of_ble_eq_true rfl) ?_
    refine And.intro (Nat.le_of_ble_eq_true rfl) (And.intro X.2.2.2.2.2.2.1.1 ?_)
    refine Cl.mono H (fun r M7 h => ?_)
    obtain ⟨v8, rfl, H⟩ := h
    obtain ⟨X, H⟩ := H
    exact ⟨fun h => absurd h (by decide), _, rfl, H⟩

theorem c_X11_findEdit {G : GT} {d : Nat} {M : Mem} {x : Nat} (X : XAt M x)  {Q : Mem → Prop} (H : ((vi M (x + 46) 0) = (vi M x 13) → Q M) ∧ (¬ (vi M (x + 46) 0) = (vi M x 13) → CV G d 15 [.ref (x + 46), .ref (x + 3)] M (fun M1 => XAt M1 x ∧ (∀ M2, M2 = seti M1 (x + 46) 0 (vi M1 x 13) → Q M2)))) : CV G (d + 1) 145 [.ref x] M Q := by
  refine Cl.ofM (Nat.le_of_ble_eq_true rfl) rfl ?_
  refine vcc ok145 0 [] ?_
  refine And.intro X.1.1 ?_
  refine Or.inl ⟨_, (ob11_r10 X.1), ?_⟩
  refine And.intro X.2.2.2.2.2.2.2.2.1.1 ?_
  refine And.intro X.1.1 ?_
  refine And.intro (fun c => ?_) (fun c => ?_)
  · replace H := H.1 c
    exact ⟨rfl, H⟩
  · replace H := H.2 c
    refine And.intro X.1.1 ?_
    refine Or.inl ⟨_, (ob11_r10 X.1), ?_⟩
    refine And.intro X.1.1 ?_
    refine Or.inl ⟨_, (ob11_r1 X.1), ?_⟩
    refine And.intro (Nat.le_of_ble_eq_true rfl) ?_
    refine And.intro (Nat.le_of_ble_eq_true rfl) (And.intro X.2.2.2.2.2.2.2.2.1.1 ?_)
    refine Cl.mono H (fun r M1 h => ?_)
    obtain ⟨rfl, H⟩ := h
    obtain ⟨X, H⟩ := H
    refine And.intro X.1.1 ?_
    refine Or.inl ⟨_, (ob11_r10 X.1), ?_⟩
    refine And.intro X.1.1 ?_
    refine And.intro X.2.2.2.2.2.2.2.2.1.1 ?_
    refine And.intro (Or.inl rfl) (And.intro (fun h => absurd h (by decide)) ?_)
    replace H := H _ rfl
    exact ⟨rfl, H⟩

theorem c_X11_isWidth {G : GT} {d : Nat} {M : Mem}  {a1 : Int32} {Q : Int32 → Mem → Prop} (H : (a1 < (5 : Int32) → ((0 : Int32) = 0 ∨ (0 : Int32) = 1) ∧ Q (0 : Int32) M) ∧ (¬ a1 < (5 : Int32) → ((60 : Int32) < a1 → ((0 : Int32) = 0 ∨ (0 : Int32) = 1) ∧ Q (0 : Int32) M) ∧ (¬ (60 : Int32) < a1 → ((1 : Int32) = 0 ∨ (1 : Int32) = 1) ∧ Q (1 : Int32) M))) : CI G (d + 1) 146 [.int a1] M Q := by
  refine Cl.ofM (Nat.le_of_ble_eq_true rfl) rfl ?_
  refine vcc ok146 0 [] ?_
  refine And.intro (fun c => ?_) (fun c => ?_)
  · replace H := H.1 c
    exact ⟨fun _ => H.1, _, rfl, H.2⟩
  · replace H := H.2 c
    refine And.intro (fun c => ?_) (fun c => ?_)
    · replace H := H.1 c
      exact ⟨fun _ => H.1, _, rfl, H.2⟩
    · replace H := H.2 c
      exact ⟨fun _ => H.1, _, rfl, H.2⟩

theorem c_X11_slotOf {G : GT} {d : Nat} {M : Mem}  {a1 : Int32} {a2 : Int32} {Q : Int32 → Mem → Prop} (H : Q ((a1 * (16 : Int32)) + a2) M) : CI G (d + 1) 147 [.int a1, .int a2] M Q := by
  refine Cl.ofM (Nat.le_of_ble_eq_true rfl) rfl ?_
  refine vcc ok147 0 [] ?_
  exact ⟨fun h => absurd h (by decide), _, rfl, H⟩

theorem c_X11_isByte {G : GT} {d : Nat} {M : Mem}  {a1 : Int32} {Q : Int32 → Mem → Prop} (H : (a1 < (32 : Int32) → ((0 : Int32) = 0 ∨ (0 : Int32) = 1) ∧ Q (0 : Int32) M) ∧ (¬ a1 < (32 : Int32) → ((126 : Int32) < a1 → ((0 : Int32) = 0 ∨ (0 : Int32) = 1) ∧ Q (0 : Int32) M) ∧ (¬ (126 : Int32) < a1 → ((1 : Int32) = 0 ∨ (1 : Int32) = 1) ∧ Q (1 : Int32) M))) : CI G (d + 1) 148 [.int a1] M Q := by
  refine Cl.ofM (Nat.le_of_ble_eq_true rfl) rfl ?_
  refine vcc ok148 0 [] ?_
  refine And.intro (fun c => ?_) (fun c => ?_)
  · replace H := H.1 c
    exact ⟨fun _ => H.1, _, rfl, H.2⟩
  · replace H := H.2 c
    refine And.intro (fun c => ?_) (fun c => ?_)
    · replace H := H.1 c
      exact ⟨fun _ => H.1, _, rfl, H.2⟩
    · replace H := H.2 c
      exact ⟨fun _ => H.1, _, rfl, H.2⟩

theorem c_X11_isSmall {G : GT} {d : Nat} {M : Mem}  {a1 : Int32} {Q : Int32 → Mem → Prop} (H : (a1 < (97 : Int32) → ((0 : Int32) = 0 ∨ (0 : Int32) = 1) ∧ Q (0 : Int32) M) ∧ (¬ a1 < (97 : Int32) → ((122 : Int32) < a1 → ((0 : Int32) = 0 ∨ (0 : Int32) = 1) ∧ Q (0 : Int32) M) ∧ (¬ (122 : Int32) < a1 → ((1 : Int32) = 0 ∨ (1 : Int32) = 1) ∧ Q (1 : Int32) M))) : CI G (d + 1) 149 [.int a1] M Q := by
  refine Cl.ofM (Nat.le_of_ble_eq_true rfl) rfl ?_
  refine vcc ok149 0 [] ?_
  refine And.intro (fun c => ?_) (fun c => ?_)
  · replace H := H.1 c
    exact ⟨fun _ => H.1, _, rfl, H.2⟩
  · replace H := H.2 c
    refine And.intro (fun c => ?_) (fun c => ?_)
    · replace H := H.1 c
      exact ⟨fun _ => H.1, _, rfl, H.2⟩
    · replace H := H.2 c
      exact ⟨fun _ => H.1, _, rfl, H.2⟩

theorem c_X11_isCapital {G : GT} {d : Nat} {M : Mem}  {a1 : Int32} {Q : Int32 → Mem → Prop} (H : (a1 < (65 : Int32) → ((0 : Int32) = 0 ∨ (0 : Int32) = 1) ∧ Q (0 : Int32) M) ∧ (¬ a1 < (65 : Int32) → ((90 : Int32) < a1 → ((0 : Int32) = 0 ∨ (0 : Int32) = 1) ∧ Q (0 : Int32) M) ∧ (¬ (90 : Int32) < a1 → ((1 : Int32) = 0 ∨ (1 : Int32) = 1) ∧ Q (1 : Int32) M))) : CI G (d + 1) 150 [.int a1] M Q := by
  refine Cl.ofM (Nat.le_of_ble_eq_true rfl) rfl ?_
  refine vcc ok150 0 [] ?_
  refine And.intro (fun c => ?_) (fun c => ?_)
  · replace H := H.1 c
    exact ⟨fun _ => H.1, _, rfl, H.2⟩
  · replace H := H.2 c
    refine And.intro (fun c => ?_) (fun c => ?_)
    · replace H := H.1 c
      exact ⟨fun _ => H.1, _, rfl, H.2⟩
    · replace H := H.2 c
      exact ⟨fun _ => H.1, _, rfl, H.2⟩

theorem c_X11_isDigit {G : GT} {d : Nat} {M : Mem}  {a1 : Int32} {Q : Int32 → Mem → Prop} (H : (a1 < (48 : Int32) → ((0 : Int32) = 0 ∨ (0 : Int32) = 1) ∧ Q (0 : Int32) M) ∧ (¬ a1 < (48 : Int32) → ((57 : Int32) < a1 → ((0 : Int32) = 0 ∨ (0 : Int32) = 1) ∧ Q (0 : Int32) M) ∧ (¬ (57 : Int32) < a1 → ((1 : Int32) = 0 ∨ (1 : Int32) = 1) ∧ Q (1 : Int32) M))) : CI G (d + 1) 151 [.int a1] M Q := by
  refine Cl.ofM (Nat.le_of_ble_eq_true rfl) rfl ?_
  refine vcc ok151 0 [] ?_
  refine And.intro (fun c => ?_) (fun c => ?_)
  · replace H := H.1 c
    exact ⟨fun _ => H.1, _, rfl, H.2⟩
  · replace H := H.2 c
    refine And.intro (fun c => ?_) (fun c => ?_)
    · replace H := H.1 c
      exact ⟨fun _ => H.1, _, rfl, H.2⟩
    · replace H := H.2 c
      exact ⟨fun _ => H.1, _, rfl, H.2⟩

theorem c_X11_twinOf {G : GT} {d : Nat} {M : Mem}  {a1 : Int32} {Q : Int32 → Mem → Prop} (H : CI G d 149 [.int a1] M (fun v2 M1 => (v2 = 0 → CI G d 150 [.int a1] M1 (fun v4 M3 => (v4 = 0 → Q (-1 : Int32) M3) ∧ (¬ v4 = 0 → Q (a1 + (32 : Int32)) M3))) ∧ (¬ v2 = 0 → Q (a1 - (32 : Int32)) M1))) : CI G (d + 1) 152 [.int a1] M Q := by
  refine Cl.ofM (Nat.le_of_ble_eq_true rfl) rfl ?_
  refine vcc ok152 0 [] ?_
  refine And.intro (Nat.le_of_ble_eq_true rfl) ?_
  refine And.intro (Nat.le_of_ble_eq_true rfl) ?_
  refine Cl.mono H (fun r M1 h => ?_)
  obtain ⟨v2, rfl, H⟩ := h
  refine And.intro (fun c => ?_) (fun c => ?_)
  · replace H := H.1 c
    refine And.intro (Nat.le_of_ble_eq_true rfl) ?_
    refine And.intro (Nat.le_of_ble_eq_true rfl) ?_
    refine Cl.mono H (fun r M3 h => ?_)
    obtain ⟨v4, rfl, H⟩ := h
    refine And.intro (fun c => ?_) (fun c => ?_)
    · replace H := H.1 c
      exact ⟨fun h => absurd h (by decide), _, rfl, H⟩
    · replace H := H.2 c
      exact ⟨fun h => absurd h (by decide), _, rfl, H⟩
  · replace H := H.2 c
    exact ⟨fun h => absurd h (by decide), _, rfl, H⟩

theorem c_X11_partOf {G : GT} {d : Nat} {M : Mem}  {a1 : Int32} {a2 : Int32} {a3 : Int32} {Q : Int32 → Mem → Prop} (H : (¬ a2 = 0 → At G (d + 1) 153 15 [(0, .int a1), (1, .int a2), (2, .int a3), (3, .int a2), (4, .int a1), (5, .int (0 : Int32))] [] M (qI Q)) ∧ (a2 = 0 → Q (-2 : Int32) M)) : CI G (d + 1) 153 [.int a1, .int a2, .int a3] M Q := by
  refine Cl.ofM (Nat.le_of_ble_eq_true rfl) rfl ?_
  refine vcc ok153 0 [15] ?_
  refine And.intro (fun c => ?_) (fun c => ?_)
  · replace H := H.1 c
    exact H
  · replace H := H.2 c
    exact ⟨fun h => absurd h (by decide), _, rfl, H⟩

theorem c_X11_partOf_15 {G : GT} {d : Nat} {M : Mem}  {l0 : Int32} {l1 : Int32} {l2 : Int32} {l3 : Int32} {l4 : Int32} {l5 : Int32} {Q : Int32 → Mem → Prop} (H : ((64 : Int32) ≤ l5 → (¬ l3 = 0 → (¬ l2 = 0 → ¬ l3 = 0 ∧ (Q (l1 / l3) M)) ∧ (l2 = 0 → ¬ l3 = 0 ∧ (Q (l0 / l3) M))) ∧ (l3 = 0 → Q (-2 : Int32) M)) ∧ (¬ (64 : Int32) ≤ l5 → (l4 = 0 → (¬ l3 = 0 → (¬ l2 = 0 → ¬ l3 = 0 ∧ (Q (l1 / l3) M)) ∧ (l2 = 0 → ¬ l3 = 0 ∧ (Q (l0 / l3) M))) ∧ (l3 = 0 → Q (-2 : Int32) M)) ∧ (¬ l4 = 0 → ¬ l4 = 0 ∧ (At G (d + 1) 153 15 [(0, .int l0), (1, .int l1), (2, .int l2), (3, .int l4), (4, .int (l3 - l3 / l4 * l4)), (5, .int (l5 + (1 : Int32)))] [] M (qI Q))))) : At G (d + 1) 153 15 [(0, .int l0), (1, .int l1), (2, .int l2), (3, .int l3), (4, .int l4), (5, .int l5)] [] M (qI Q) := by
  refine vcc ok153 10 [] ?_
  refine And.intro (fun c => ?_) (fun c => ?_)
  · replace H := H.1 c
    refine And.intro (fun c => ?_) (fun c => ?_)
    · replace H := H.1 c
      refine And.intro (fun c => ?_) (fun c => ?_)
      · replace H := H.1 c
        refine And.intro H.1 ?_
        replace H := H.2
        exact ⟨fun h => absurd h (by decide), _, rfl, H⟩
      · replace H := H.2 c
        refine And.intro H.1 ?_
        replace H := H.2
        exact ⟨fun h => absurd h (by decide), _, rfl, H⟩
    · replace H := H.2 c
      exact ⟨fun h => absurd h (by decide), _, rfl, H⟩
  · replace H := H.2 c
    refine And.intro (fun c => ?_) (fun c => ?_)
    · replace H := H.1 c
      refine And.intro (fun c => ?_) (fun c => ?_)
      · replace H := H.1 c
        refine And.intro (fun c => ?_) (fun c => ?_)
        · replace H := H.1 c
          refine And.intro H.1 ?_
          replace H := H.2
          exact ⟨fun h => absurd h (by decide), _, rfl, H⟩
        · replace H := H.2 c
          refine And.intro H.1 ?_
          replace H := H.2
          exact ⟨fun h => absurd h (by decide), _, rfl, H⟩
      · replace H := H.2 c
        exact ⟨fun h => absurd h (by decide), _, rfl, H⟩
    · replace H := H.2 c
      refine And.intro H.1 ?_
      replace H := H.2
      exact At.keep [0, 1, 2, 3, 4, 5] H
