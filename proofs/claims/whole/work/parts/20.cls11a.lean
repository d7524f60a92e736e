/-! THE CLASS, block by block: by program (wip/tools/clsall.py) -/
theorem c_X11_feed {G : GT} {d : Nat} {M : Mem} {x : Nat} (X : XAt M x) {a1 : Int32} {a2 : Int32} {a3 : Int32} {a4 : Int32} {a5 : Int32} {Q : Int32 → Mem → Prop} (H : (((vi M (x + 1) 1) + (20 : Int32)) ≤ (400 : Int32) → CV G d 88 [.ref (x + 1), .int a1] M (fun M1 => XAt M1 x ∧ (CV G d 88 [.ref (x + 1), .int a2] M1 (fun M2 => XAt M2 x ∧ (CV G d 88 [.ref (x + 1), .int a3] M2 (fun M3 => XAt M3 x ∧ (CV G d 88 [.ref (x + 1), .int a4] M3 (fun M4 => XAt M4 x ∧ (CV G d 88 [.ref (x + 1), .int a5] M4 (fun M5 => XAt M5 x ∧ (Q (vi M5 (x + 1) 1) M5))))))))))) ∧ (¬ ((vi M (x + 1) 1) + (20 : Int32)) ≤ (400 : Int32) → Q (-1 : Int32) M)) : CI G (d + 1) 109 [.ref x, .int a1, .int a2, .int a3, .int a4, .int a5] M Q := by
  refine Cl.ofM (Nat.le_of_ble_eq_true rfl) rfl ?_
  refine vcc ok109 0 [] ?_
  refine And.intro X.1.1 ?_
  refine Or.inl ⟨_, (ob11_r0 X.1), ?_⟩
  refine And.intro X.2.1.1 ?_
  refine And.intro (fun c => ?_) (fun c => ?_)
  · replace H := H.1 c
    refine And.intro X.1.1 ?_
    refine Or.inl ⟨_, (ob11_r0 X.1), ?_⟩
    refine And.intro (Nat.le_of_ble_eq_true rfl) ?_
    refine And.intro (Nat.le_of_ble_eq_true rfl) (And.intro X.2.1.1 ?_)
    refine Cl.mono H (fun r M1 h => ?_)
    obtain ⟨rfl, H⟩ := h
    obtain ⟨X, H⟩ := H
    refine And.intro X.1.1 ?_
    refine Or.inl ⟨_, (ob11_r0 X.1), ?_⟩
    refine And.intro (Nat.le_of_ble_eq_true rfl) ?_
    refine And.intro (Nat.le_of_ble_eq_true rfl) (And.intro X.2.1.1 ?_)
    refine Cl.mono H (fun r M2 h => ?_)
    obtain ⟨rfl, H⟩ := h
    obtain ⟨X, H⟩ := H
    refine And.intro X.1.1 ?_
    refine Or.inl ⟨_, (ob11_r0 X.1), ?_⟩
    refine And.intro (Nat.le_of_ble_eq_true rfl) ?_
    refine And.intro (Nat.le_of_ble_eq_true rfl) (And.intro X.2.1.1 ?_)
    refine Cl.mono H (fun r M3 h => ?_)
    obtain ⟨rfl, H⟩ := h
    obtain ⟨X, H⟩ := H
    refine And.intro X.1.1 ?_
    refine Or.inl ⟨_, (ob11_r0 X.1), ?_⟩
    refine And.intro (Nat.le_of_ble_eq_true rfl) ?_
    refine And.intro (Nat.le_of_ble_eq_true rfl) (And.intro X.2.1.1 ?_)
    refine Cl.mono H (fun r M4 h => ?_)
    obtain ⟨rfl, H⟩ := h
    obtain ⟨X, H⟩ := H
    refine And.intro X.1.1 ?_
    refine Or.inl ⟨_, (ob11_r0 X.1), ?_⟩
    refine And.intro (Nat.le_of_ble_eq_true rfl) ?_
    refine And.intro (Nat.le_of_ble_eq_true rfl) (And.intro X.2.1.1 ?_)
    refine Cl.mono H (fun r M5 h => ?_)
    obtain ⟨rfl, H⟩ := h
    obtain ⟨X, H⟩ := H
    refine And.intro X.1.1 ?_
    refine Or.inl ⟨_, (ob11_r0 X.1), ?_⟩
    refine And.intro X.2.1.1 ?_
    exact ⟨fun h => absurd h (by decide), _, rfl, H⟩
  · replace H := H.2 c
    exact ⟨fun h => absurd h (by decide), _, rfl, H⟩

theorem c_X11_end {G : GT} {d : Nat} {M : Mem} {x : Nat} (X : XAt M x) {a1 : Int32} {Q : Int32 → Mem → Prop} (H : (a1 < 0 → Q (-1 : Int32) M) ∧ (¬ a1 < 0 → (a1 ≤ (vi M (x + 1) 1) → ∀ M1, M1 = seti M (x + 1) 1 a1 → Q a1 M1) ∧ (¬ a1 ≤ (vi M (x + 1) 1) → Q (-1 : Int32) M))) : CI G (d + 1) 110 [.ref x, .int a1] M Q := by
  refine Cl.ofM (Nat.le_of_ble_eq_true rfl) rfl ?_
  refine vcc ok110 0 [] ?_
  refine And.intro (fun c => ?_) (fun c => ?_)
  · replace H := H.1 c
    exact ⟨fun h => absurd h (by decide), _, rfl, H⟩
  · replace H := H.2 c
    refine And.intro X.1.1 ?_
    refine Or.inl ⟨_, (ob11_r0 X.1), ?_⟩
    refine And.intro X.2.1.1 ?_
    refine And.intro (fun c => ?_) (fun c => ?_)
    · replace H := H.1 c
      refine And.intro X.1.1 ?_
      refine Or.inl ⟨_, (ob11_r0 X.1), ?_⟩
      refine And.intro X.2.1.1 ?_
      refine And.intro (Or.inl rfl) (And.intro (fun h => absurd h (by decide)) ?_)
      replace H := H _ rfl
      exact ⟨fun h => absurd h (by decide), _, rfl, H⟩
    · replace H := H.2 c
      exact ⟨fun h => absurd h (by decide), _, rfl, H⟩

theorem c_X11_galley {G : GT} {d : Nat} {M : Mem} {x : Nat} (X : XAt M x)  {Q : Int32 → Mem → Prop} (H : CI G d 89 [.ref (x + 1)] M (fun v2 M1 => XAt M1 x ∧ (∀ M3, M3 = seti M1 (x + 1) 1 (0 : Int32) → (v2 = (-1 : Int32) → CV G d 75 [.ref (x + 3), .ref ((x + 1) + 1), .int (vi M (x + 1) 1)] M3 (fun M4 => XAt M4 x ∧ (∀ M5, M5 = seti M4 x 13 ((vi M4 x 13) + (1 : Int32)) → Q (vi M (x + 1) 1) M5))) ∧ (¬ v2 = (-1 : Int32) → Q ((-2 : Int32) - v2) M3)))) : CI G (d + 1) 111 [.ref x] M Q := by
  refine Cl.ofM (Nat.le_of_ble_eq_true rfl) rfl ?_
  refine vcc ok111 0 [] ?_
  refine And.intro X.1.1 ?_
  refine Or.inl ⟨_, (ob11_r0 X.1), ?_⟩
  refine And.intro X.2.1.1 ?_
  refine And.intro X.1.1 ?_
  refine Or.inl ⟨_, (ob11_r0 X.1), ?_⟩
  refine And.intro (Nat.le_of_ble_eq_true rfl) ?_
  refine And.intro (Nat.le_of_ble_eq_true rfl) (And.intro X.2.1.1 ?_)
  refine Cl.mono H (fun r M1 h => ?_)
  obtain ⟨v2, rfl, H⟩ := h
  obtain ⟨X, H⟩ := H
  refine And.intro X.1.1 ?_
  refine Or.inl ⟨_, (ob11_r0 X.1), ?_⟩
  refine And.intro X.2.1.1 ?_
  refine And.intro (Or.inl rfl) (And.intro (fun h => absurd h (by decide)) ?_)
  replace H := H _ rfl
  refine And.intro (fun c => ?_) (fun c => ?_)
  · replace H := H.1 c
    refine And.intro X.1.1 ?_
    refine Or.inl ⟨_, (ob11_r1 X.1), ?_⟩
    refine And.intro X.1.1 ?_
    refine Or.inl ⟨_, (ob11_r0 X.1), ?_⟩
    refine And.intro X.2.1.1 ?_
    refine Or.inl ⟨_, (ob9_r0 X.2.1), ?_⟩
    refine And.intro (Nat.le_of_ble_eq_true rfl) ?_
    refine And.intro (Nat.le_of_ble_eq_true rfl) (And.intro X.2.2.1.1 ?_)
    refine Cl.mono H (fun r M4 h => ?_)
    obtain ⟨rfl, H⟩ := h
    obtain ⟨X, H⟩ := H
    refine And.intro X.1.1 ?_
    refine And.intro X.1.1 ?_
    refine And.intro (Or.inl rfl) (And.intro (fun h => absurd h (by decide)) ?_)
    replace H := H _ rfl
    exact ⟨fun h => absurd h (by decide), _, rfl, H⟩
  · replace H := H.2 c
    exact ⟨fun h => absurd h (by decide), _, rfl, H⟩

theorem c_X11_wishes {G : GT} {d : Nat} {M : Mem} {x : Nat} (X : XAt M x)  {Q : Int32 → Mem → Prop} (H : CI G d 89 [.ref (x + 1)] M (fun v2 M1 => XAt M1 x ∧ (∀ M3, M3 = seti M1 (x + 1) 1 (0 : Int32) → (v2 = (-1 : Int32) → CV G d 76 [.ref (x + 3), .ref ((x + 1) + 1), .int (vi M (x + 1) 1)] M3 (fun M4 => XAt M4 x ∧ (∀ M5, M5 = seti M4 x 13 ((vi M4 x 13) + (1 : Int32)) → Q (vi M (x + 1) 1) M5))) ∧ (¬ v2 = (-1 : Int32) → Q ((-2 : Int32) - v2) M3)))) : CI G (d + 1) 112 [.ref x] M Q := by
  refine Cl.ofM (Nat.le_of_ble_eq_true rfl) rfl ?_
  refine vcc ok112 0 [] ?_
  refine And.intro X.1.1 ?_
  refine Or.inl ⟨_, (ob11_r0 X.1), ?_⟩
  refine And.intro X.2.1.1 ?_
  refine And.intro X.1.1 ?_
  refine Or.inl ⟨_, (ob11_r0 X.1), ?_⟩
  refine And.intro (Nat.le_of_ble_eq_true rfl) ?_
  refine And.intro (Nat.le_of_ble_eq_true rfl) (And.intro X.2.1.1 ?_)
  refine Cl.mono H (fun r M1 h => ?_)
  obtain ⟨v2, rfl, H⟩ := h
  obtain ⟨X, H⟩ := H
  refine And.intro X.1.1 ?_
  refine Or.inl ⟨_, (ob11_r0 X.1), ?_⟩
  refine And.intro X.2.1.1 ?_
  refine And.intro (Or.inl rfl) (And.intro (fun h => absurd h (by decide)) ?_)
  replace H := H _ rfl
  refine And.intro (fun c => ?_) (fun c => ?_)
  · replace H := H.1 c
    refine And.intro X.1.1 ?_
    refine Or.inl ⟨_, (ob11_r1 X.1), ?_⟩
    refine And.intro X.1.1 ?_
    refine Or.inl ⟨_, (ob11_r0 X.1), ?_⟩
    refine And.intro X.2.1.1 ?_
    refine Or.inl ⟨_, (ob9_r0 X.2.1), ?_⟩
    refine And.intro (Nat.le_of_ble_eq_true rfl) ?_
    refine And.intro (Nat.le_of_ble_eq_true rfl) (And.intro X.2.2.1.1 ?_)
    refine Cl.mono H (fun r M4 h => ?_)
    obtain ⟨rfl, H⟩ := h
    obtain ⟨X, H⟩ := H
    refine And.intro X.1.1 ?_
    refine And.intro X.1.1 ?_
    refine And.intro (Or.inl rfl) (And.intro (fun h => absurd h (by decide)) ?_)
    replace H := H _ rfl
    exact ⟨fun h => absurd h (by decide), _, rfl, H⟩
  · replace H := H.2 c
    exact ⟨fun h => absurd h (by decide), _, rfl, H⟩

theorem c_X11_hand {G : GT} {d : Nat} {M : Mem} {x : Nat} (X : XAt M x) {a1 : Int32} {Q : Int32 → Mem → Prop} (H : (a1 < 0 → Q (-1 : Int32) M) ∧ (¬ a1 < 0 → ((9 : Int32) < a1 → Q (-1 : Int32) M) ∧ (¬ (9 : Int32) < a1 → ((vi M (x + 3) 6) < (4 : Int32) → vp_in (vi M (x + 3) 6) 4 ∧ (∀ M1, M1 = seti M ((x + 3) + 3) ((vi M (x + 3) 6)).toNatClampNeg a1 → vp_in (vi M (x + 3) 6) 4 ∧ (∀ M2, M2 = seti M1 ((x + 3) + 4) ((vi M (x + 3) 6)).toNatClampNeg (0 : Int32) → ∀ M3, M3 = seti M2 (x + 3) 6 ((vi M2 (x + 3) 6) + (1 : Int32)) → ∀ M4, M4 = seti M3 x 13 ((vi M3 x 13) + (1 : Int32)) → Q (vi M (x + 3) 6) M4))) ∧ (¬ (vi M (x + 3) 6) < (4 : Int32) → Q (-1 : Int32) M)))) : CI G (d + 1) 113 [.ref x, .int a1] M Q := by
  refine Cl.ofM (Nat.le_of_ble_eq_true rfl) rfl ?_
  refine vcc ok113 0 [] ?_
  refine And.intro (fun c => ?_) (fun c => ?_)
  · replace H := H.1 c
    exact ⟨fun h => absurd h (by decide), _, rfl, H⟩
  · replace H := H.2 c
    refine And.intro (fun c => ?_) (fun c => ?_)
    · replace H := H.1 c
      exact ⟨fun h => absurd h (by decide), _, rfl, H⟩
    · replace H := H.2 c
      refine And.intro X.1.1 ?_
      refine Or.inl ⟨_, (ob11_r1 X.1), ?_⟩
      refine And.intro X.2.2.1.1 ?_
      refine And.intro (fun c => ?_) (fun c => ?_)
      · replace H := H.1 c
        refine And.intro X.1.1 ?_
        refine Or.inl ⟨_, (ob11_r1 X.1), ?_⟩
        refine And.intro X.2.2.1.1 ?_
        refine And.intro X.1.1 ?_
        refine Or.inl ⟨_, (ob11_r1 X.1), ?_⟩
        refine And.intro X.2.2.1.1 ?_
        refine Or.inl ⟨_, (ob8_r4 X.2.2.1), ?_⟩
        refine ⟨(ob8_k4 X.2.2.1), vp_cst (ob8_l4 X.2.2.1) H.1, ?_⟩
        replace H := H.2
        replace H := H _ rfl
        refine And.intro X.1.1 ?_
        refine Or.inl ⟨_, (ob11_r1 X.1), ?_⟩
        refine And.intro X.2.2.1.1 ?_
        refine Or.inl ⟨_, (ob8_r5 X.2.2.1), ?_⟩
        refine ⟨(ob8_k5 X.2.2.1), vp_cst (ob8_l5 X.2.2.1) H.1, ?_⟩
        replace H := H.2
        replace H := H _ rfl
        refine And.intro X.1.1 ?_
        refine Or.inl ⟨_, (ob11_r1 X.1), ?_⟩
        refine And.intro X.2.2.1.1 ?_
        refine And.intro X.2.2.1.1 ?_
        refine And.intro (Or.inl rfl) (And.intro (fun h => absurd h (by decide)) ?_)
        replace H := H _ rfl
        refine And.intro X.1.1 ?_
        refine And.intro X.1.1 ?_
        refine And.intro (Or.inl rfl) (And.intro (fun h => absurd h (by decide)) ?_)
        replace H := H _ rfl
        exact ⟨fun h => absurd h (by decide), _, rfl, H⟩
      · replace H := H.2 c
        exact ⟨fun h => absurd h (by decide), _, rfl, H⟩

theorem c_X11_marks {G : GT} {d : Nat} {M : Mem} {x : Nat} (X : XAt M x) {a1 : Int32} {Q : Int32 → Mem → Prop} (H : CI G d 77 [.ref (x + 3), .int a1] M (fun v2 M1 => XAt M1 x ∧ ((¬ v2 = 0 → vp_in a1 4 ∧ (CV G d 59 [.ref (x + 15), .ref (x + 1), .ref (x + 3), .int (vi M1 ((x + 3) + 4) (a1).toNatClampNeg)] M1 (fun M3 => XAt M3 x ∧ (∀ M4, M4 = seti M3 (x + 1) 1 (0 : Int32) → ((vi M4 (x + 1) 3) = 0 → CV G d 78 [.ref (x + 3), .int a1, .ref ((x + 15) + 1), .int (vi M4 (x + 15) 1)] M4 (fun M5 => XAt M5 x ∧ (∀ M6, M6 = seti M5 x 13 ((vi M5 x 13) + (1 : Int32)) → vp_in a1 4 ∧ (Q (vi M6 ((x + 3) + 4) (a1).toNatClampNeg) M6)))) ∧ (¬ (vi M4 (x + 1) 3) = 0 → Q ((-2 : Int32) - (vi M4 (x + 1) 3)) M4))))) ∧ (v2 = 0 → Q (-1 : Int32) M1)))) : CI G (d + 1) 114 [.ref x, .int a1] M Q := by
  refine Cl.ofM (Nat.le_of_ble_eq_true rfl) rfl ?_
  refine vcc ok114 0 [] ?_
  refine And.intro X.1.1 ?_
  refine Or.inl ⟨_, (ob11_r1 X.1), ?_⟩
  refine And.intro (Nat.le_of_ble_eq_true rfl) ?_
  refine And.intro (Nat.le_of_ble_eq_true rfl) (And.intro X.2.2.1.1 ?_)
  refine Cl.mono H (fun r M1 h => ?_)
  obtain ⟨v2, rfl, H⟩ := h
  obtain ⟨X, H⟩ := H
  refine And.intro (fun c => ?_) (fun c => ?_)
  · replace H := H.1 c
    refine And.intro X.1.1 ?_
    refine Or.inl ⟨_, (ob11_r5 X.1), ?_⟩
    refine And.intro X.1.1 ?_
    refine Or.inl ⟨_, (ob11_r0 X.1), ?_⟩
    refine And.intro X.1.1 ?_
    refine Or.inl ⟨_, (ob11_r1 X.1), ?_⟩
    refine And.intro X.1.1 ?_
    refine Or.inl ⟨_, (ob11_r1 X.1), ?_⟩
    refine And.intro X.2.2.1.1 ?_
    refine Or.inl ⟨_, (ob8_r5 X.2.2.1), ?_⟩
    refine Or.inl ⟨(ob8_k5 X.2.2.1), vp_cst (ob8_l5 X.2.2.1) H.1, ?_⟩
    replace H := H.2
    refine And.intro (Nat.le_of_ble_eq_true rfl) ?_
    refine And.intro (Nat.le_of_ble_eq_true rfl) (And.intro X.2.2.2.1.1 ?_)
    refine Cl.mono H (fun r M3 h => ?_)
    obtain ⟨rfl, H⟩ := h
    obtain ⟨X, H⟩ := H
    refine And.intro X.1.1 ?_
    refine Or.inl ⟨_, (ob11_r0 X.1), ?_⟩
    refine And.intro X.2.1.1 ?_
    refine And.intro (Or.inl rfl) (And.intro (fun h => absurd h (by decide)) ?_)
    replace H := H _ rfl
    refine And.intro X.1.1 ?_
    refine Or.inl ⟨_, (ob11_r0 X.1), ?_⟩
    refine And.intro X.2.1.1 ?_
    refine And.intro (fun c => ?_) (fun c => ?_)
    · replace H := H.1 c
      refine And.intro X.1.1 ?_
      refine Or.inl ⟨_, (ob11_r1 X.1), ?_⟩
      refine And.intro X.1.1 ?_
      refine Or.inl ⟨_, (ob11_r5 X.1), ?_⟩
      refine And.intro X.2.2.2.1.1 ?_
      refine Or.inl ⟨_, (ob6_r0 X.2.2.2.1), ?_⟩
      refine And.intro X.1.1 ?_
      refine Or.inl ⟨_, (ob11_r5 X.1), ?_⟩
      refine And.intro X.2.2.2.1.1 ?_
      refine And.intro (Nat.le_of_ble_eq_true rfl) ?_
      refine And.intro (Nat.le_of_ble_eq_true rfl) (And.intro X.2.2.1.1 ?_)
      refine Cl.mono H (fun r M5 h => ?_)
      obtain ⟨rfl, H⟩ := h
      obtain ⟨X, H⟩ := H
      refine And.intro X.1.1 ?_
      refine And.intro X.1.1 ?_
      refine And.intro (Or.inl rfl) (And.intro (fun h => absurd h (by decide)) ?_)
      replace H := H _ rfl
      refine And.intro X.1.1 ?_
      refine Or.inl ⟨_, (ob11_r1 X.1), ?_⟩
      refine And.intro X.2.2.1.1 ?_
      refine Or.inl ⟨_, (ob8_r5 X.2.2.1), ?_⟩
      refine Or.inl ⟨(ob8_k5 X.2.2.1), vp_cst (ob8_l5 X.2.2.1) H.1, ?_⟩
      replace H := H.2
      exact ⟨fun h => absurd h (by decide), _, rfl, H⟩
    · replace H := H.2 c
      refine And.intro X.1.1 ?_
      refine Or.inl ⟨_, (ob11_r0 X.1), ?_⟩
      refine And.intro X.2.1.1 ?_
      exact ⟨fun h => absurd h (by decide), _, rfl, H⟩
  · replace H := H.2 c
    exact ⟨fun h => absurd h (by decide), _, rfl, H⟩

theorem c_X11_law {G : GT} {d : Nat} {M : Mem} {x : Nat} (X : XAt M x) (F : frM M)  {Q : Int32 → Mem → Prop} (H : ((vi M x 12) < (4 : Int32) → CV G d 32 [.ref (x + 18)] M (fun M1 => (XAt M1 x ∧ frM M1) ∧ (∀ M2, M2 = seti M1 (x + 1) 1 (0 : Int32) → ((vi M2 (x + 1) 3) = 0 → CR G d 31 [.ref (x + 18)] M2 (fun o15 M3 => (XAt M3 x ∧ frM M3) ∧ ((∀ r4, o15 = some r4 → vp_in (vi M2 x 12) 4 ∧ (mK M3 r4 = elN (mK M3 (x + 13)) + 1 ∧ (∀ M5, M5 = setr M3 (x + 13) ((vi M2 x 12)).toNatClampNeg (some r4) → ∀ M6, M6 = mnew M5 11 8 → CV G d 98 [.ref (mN M5)] M6 (fun M7 => (XAt M7 x ∧ frM M7) ∧ (vp_in (vi M2 x 12) 4 ∧ (mK M7 (mN M5) = elN (mK M7 (x + 14)) + 1 ∧ (∀ M8, M8 = setr M7 (x + 14) ((vi M2 x 12)).toNatClampNeg (some (mN M5)) → ∀ M9, M9 = seti M8 x 12 ((vi M8 x 12) + (1 : Int32)) → Q (vi M2 x 12) M9))))))) ∧ (o15 = none → vp_in (vi M2 x 12) 4 ∧ (∀ M10, M10 = setr M3 (x + 13) ((vi M2 x 12)).toNatClampNeg none → ∀ M11, M11 = mnew M10 11 8 → CV G d 98 [.ref (mN M10)] M11 (fun M12 => (XAt M12 x ∧ frM M12) ∧ (vp_in (vi M2 x 12) 4 ∧ (mK M12 (mN M10) = elN (mK M12 (x + 14)) + 1 ∧ (∀ M13, M13 = setr M12 (x + 14) ((vi M2 x 12)).toNatClampNeg (some (mN M10)) → ∀ M14, M14 = seti M13 x 12 ((vi M13 x 12) + (1 : Int32)) → Q (vi M2 x 12) M14))))))))) ∧ (¬ (vi M2 (x + 1) 3) = 0 → Q ((-2 : Int32) - (vi M2 (x + 1) 3)) M2)))) ∧ (¬ (vi M x 12) < (4 : Int32) → Q (-1 : Int32) M)) : CI G (d + 1) 115 [.ref x] M Q := by
  refine Cl.ofM (Nat.le_of_ble_eq_true rfl) rfl ?_
  refine vcc ok115 0 [] ?_
  refine And.intro X.1.1 ?_
  refine And.intro (fun c => ?_) (fun c => ?_)
  · replace H := H.1 c
    refine And.intro X.1.1 ?_
    refine Or.inl ⟨_, (ob11_r6 X.1), ?_⟩
    refine And.intro (Nat.le_of_ble_eq_true rfl) ?_
    refine And.intro (Nat.le_of_ble_eq_true rfl) (And.intro X.2.2.2.2.1 ?_)
    refine Cl.mono H (fun r M1 h => ?_)
    obtain ⟨rfl, H⟩ := h
    obtain ⟨⟨X, F⟩, H⟩ := H
    refine And.intro X.1.1 ?_
    refine Or.inl ⟨_, (ob11_r0 X.1), ?_⟩
    refine And.intro X.2.1.1 ?_
    refine And.intro (Or.inl rfl) (And.intro (fun h => absurd h (by decide)) ?_)
    replace H := H _ rfl
    refine And.intro X.1.1 ?_
    refine Or.inl ⟨_, (ob11_r0 X.1), ?_⟩
    refine And.intro X.2.1.1 ?_
    refine And.intro (fun c => ?_) (fun c => ?_)
    · replace H := H.1 c
      refine And.intro X.1.1 ?_
      refine And.intro X.1.1 ?_
      refine Or.inl ⟨_, (ob11_r3 X.1), ?_⟩
      refine And.intro X.1.1 ?_
      refine Or.inl ⟨_, (ob11_r6 X.1), ?_⟩
      refine And.intro (Nat.le_of_ble_eq_true rfl) ?_
      refine And.intro (Nat.le_of_ble_eq_true rfl) (And.intro X.2.2.2.2.1 ?_)
      refine Cl.mono H (fun r M3 h => ?_)
      obtain ⟨o15, rfl, H⟩ := h
      obtain ⟨⟨X, F⟩, H⟩ := H
      rcases o15 with _ | r4
      · replace H := H.2 rfl
        refine ⟨(k18 (ob11_k3 X.1)), vp_cst (ob11_l3 X.1) H.1, ?_⟩
        replace H := H.2
        replace H := H _ rfl
        refine And.intro (X.1.1 :) ?_
        refine Or.inl ⟨_, (ob11_r4 (xa_setr X (k18 (ob11_k3 X.1))).1), ?_⟩
        replace H := H _ rfl
        refine And.intro (Nat.le_of_ble_eq_true rfl) ?_
        refine And.intro (Nat.le_of_ble_eq_true rfl) ?_
        refine Cl.mono H (fun r M12 h => ?_)
        obtain ⟨rfl, H⟩ := h
        obtain ⟨⟨X, F⟩, H⟩ := H
        refine ⟨(k18 (ob11_k4 X.1)), vp_cst (ob11_l4 X.1) H.1, ?_⟩
        replace H := H.2
        refine And.intro H.1 ?_
        replace H := H.2
        replace H := H _ rfl
        refine And.intro (X.1.1 :) ?_
        refine And.intro (X.1.1 :) ?_
        refine And.intro (Or.inl rfl) (And.intro (fun h => absurd h (by decide)) ?_)
        replace H := H _ rfl
        exact ⟨fun h => absurd h (by decide), _, rfl, H⟩
      · replace H := H.1 _ rfl
        refine ⟨(k18 (ob11_k3 X.1)), vp_cst (ob11_l3 X.1) H.1, ?_⟩
        replace H := H.2
        refine And.intro H.1 ?_
        replace H := H.2
        replace H := H _ rfl
        refine And.intro (X.1.1 :) ?_
        refine Or.inl ⟨_, (ob11_r4 (xa_setr X (k18 (ob11_k3 X.1))).1), ?_⟩
        replace H := H _ rfl
        refine And.intro (Nat.le_of_ble_eq_true rfl) ?_
        refine And.intro (Nat.le_of_ble_eq_true rfl) ?_
        refine Cl.mono H (fun r M7 h => ?_)
        obtain ⟨rfl, H⟩ := h
        obtain ⟨⟨X, F⟩, H⟩ := H
        refine ⟨(k18 (ob11_k4 X.1)), vp_cst (ob11_l4 X.1) H.1, ?_⟩
        replace H := H.2
        refine And.intro H.1 ?_
        replace H := H.2
        replace H := H _ rfl
        refine And.intro (X.1.1 :) ?_
        refine And.intro (X.1.1 :) ?_
        refine And.intro (Or.inl rfl) (And.intro (fun h => absurd h (by decide)) ?_)
        replace H := H _ rfl
        exact ⟨fun h => absurd h (by decide), _, rfl, H⟩
    · replace H := H.2 c
      refine And.intro X.1.1 ?_
      refine Or.inl ⟨_, (ob11_r0 X.1), ?_⟩
      refine And.intro X.2.1.1 ?_
      exact ⟨fun h => absurd h (by decide), _, rfl, H⟩
  · replace H := H.2 c
    exact ⟨fun h => absurd h (by decide), _, rfl, H⟩

theorem c_X11_cost {G : GT} {d : Nat} {M : Mem} {x : Nat} (X : XAt M x) {a1 : Int32} {a2 : Int32} {Q : Int32 → Mem → Prop} (H : (a1 < 0 → Q (-1 : Int32) M) ∧ (¬ a1 < 0 → ((6 : Int32) < a1 → Q (-1 : Int32) M) ∧ (¬ (6 : Int32) < a1 → (a2 < 0 → Q (-1 : Int32) M) ∧ (¬ a2 < 0 → (a2 ≤ (99 : Int32) → vp_in a1 7 ∧ (vp_in a1 7 ∧ (∀ M1, M1 = seti M ((x + 3) + 6) (a1).toNatClampNeg a2 → ∀ M2, M2 = seti M1 x 13 ((vi M1 x 13) + (1 : Int32)) → Q (vi M ((x + 3) + 6) (a1).toNatClampNeg) M2))) ∧ (¬ a2 ≤ (99 : Int32) → Q (-1 : Int32) M))))) : CI G (d + 1) 116 [.ref x, .int a1, .int a2] M Q := by
  refine Cl.ofM (Nat.le_of_ble_eq_true rfl) rfl ?_
  refine vcc ok116 0 [] ?_
  refine And.intro (fun c => ?_) (fun c => ?_)
  · replace H := H.1 c
    exact ⟨fun h => absurd h (by decide), _, rfl, H⟩
  · replace H := H.2 c
    refine And.intro (fun c => ?_) (fun c => ?_)
    · replace H := H.1 c
      exact ⟨fun h => absurd h (by decide), _, rfl, H⟩
    · replace H := H.2 c
      refine And.intro (fun c => ?_) (fun c => ?_)
      · replace H := H.1 c
        exact ⟨fun h => absurd h (by decide), _, rfl, H⟩
      · replace H := H.2 c
        refine And.intro (fun c => ?_) (fun c => ?_)
        · replace H := H.1 c
          refine And.intro X.1.1 ?_
          refine Or.inl ⟨_, (ob11_r1 X.1), ?_⟩
          refine And.intro X.2.2.1.1 ?_
          refine Or.inl ⟨_, (ob8_r8 X.2.2.1), ?_⟩
          refine Or.inl ⟨(ob8_k8 X.2.2.1), vp_cst (ob8_l8 X.2.2.1) H.1, ?_⟩
          replace H := H.2
          refine And.intro X.1.1 ?_
          refine Or.inl ⟨_, (ob11_r1 X.1), ?_⟩
          refine And.intro X.2.2.1.1 ?_
          refine Or.inl ⟨_, (ob8_r8 X.2.2.1), ?_⟩
          refine ⟨(ob8_k8 X.2.2.1), vp_cst (ob8_l8 X.2.2.1) H.1, ?_⟩
          replace H := H.2
          replace H := H _ rfl
          refine And.intro X.1.1 ?_
          refine And.intro X.1.1 ?_
          refine And.intro (Or.inl rfl) (And.intro (fun h => absurd h (by decide)) ?_)
          replace H := H _ rfl
          exact ⟨fun h => absurd h (by decide), _, rfl, H⟩
        · replace H := H.2 c
          exact ⟨fun h => absurd h (by decide), _, rfl, H⟩

theorem c_X11_at {G : GT} {d : Nat} {M : Mem} {x : Nat} (X : XAt M x) {a1 : Int32} {a2 : Int32} {Q : Int32 → Mem → Prop} (H : (¬ a1 = 0 → (¬ a1 = (1 : Int32) → Q (-1 : Int32) M) ∧ (a1 = (1 : Int32) → (a2 < 0 → Q (-1 : Int32) M) ∧ (¬ a2 < 0 → ((vi M (x + 3) 3) ≤ a2 → Q (-1 : Int32) M) ∧ (¬ (vi M (x + 3) 3) ≤ a2 → vp_in a2 200 ∧ (Q (vi M ((x + 3) + 2) (a2).toNatClampNeg) M))))) ∧ (a1 = 0 → (a2 < 0 → (¬ a1 = (1 : Int32) → Q (-1 : Int32) M) ∧ (a1 = (1 : Int32) → (a2 < 0 → Q (-1 : Int32) M) ∧ (¬ a2 < 0 → ((vi M (x + 3) 3) ≤ a2 → Q (-1 : Int32) M) ∧ (¬ (vi M (x + 3) 3) ≤ a2 → vp_in a2 200 ∧ (Q (vi M ((x + 3) + 2) (a2).toNatClampNeg) M))))) ∧ (¬ a2 < 0 → ((vi M (x + 3) 1) ≤ a2 → (¬ a1 = (1 : Int32) → Q (-1 : Int32) M) ∧ (a1 = (1 : Int32) → (a2 < 0 → Q (-1 : Int32) M) ∧ (¬ a2 < 0 → ((vi M (x + 3) 3) ≤ a2 → Q (-1 : Int32) M) ∧ (¬ (vi M (x + 3) 3) ≤ a2 → vp_in a2 200 ∧ (Q (vi M ((x + 3) + 2) (a2).toNatClampNeg) M))))) ∧ (¬ (vi M (x + 3) 1) ≤ a2 → vp_in a2 200 ∧ (Q (vi M ((x + 3) + 1) (a2).toNatClampNeg) M))))) : CI G (d + 1) 117 [.ref x, .int a1, .int a2] M Q := by
  refine Cl.ofM (Nat.le_of_ble_eq_true rfl) rfl ?_
  refine vcc ok117 0 [] ?_
  refine And.intro (fun c => ?_) (fun c => ?_)
  · replace H := H.1 c
    refine And.intro (fun c => ?_) (fun c => ?_)
    · replace H := H.1 c
      exact ⟨fun h => absurd h (by decide), _, rfl, H⟩
    · replace H := H.2 c
      refine And.intro (fun c => ?_) (fun c => ?_)
      · replace H := H.1 c
        exact ⟨fun h => absurd h (by decide), _, rfl, H⟩
      · replace H := H.2 c
        refine And.intro X.1.1 ?_
        refine Or.inl ⟨_, (ob11_r1 X.1), ?_⟩
        refine And.intro X.2.2.1.1 ?_
        refine And.intro (fun c => ?_) (fun c => ?_)
        · replace H := H.1 c
          exact ⟨fun h => absurd h (by decide), _, rfl, H⟩
        · replace H := H.2 c
          refine And.intro X.1.1 ?_
          refine Or.inl ⟨_, (ob11_r1 X.1), ?_⟩
          refine And.intro X.2.2.1.1 ?_
          refine Or.inl ⟨_, (ob8_r2 X.2.2.1), ?_⟩
          refine Or.inl ⟨(ob8_k2 X.2.2.1), vp_cst (ob8_l2 X.2.2.1) H.1, ?_⟩
          replace H := H.2
          exact ⟨fun h => absurd h (by decide), _, rfl, H⟩
  · replace H := H.2 c
    refine And.intro (fun c => ?_) (fun c => ?_)
    · replace H := H.1 c
      refine And.intro (fun c => ?_) (fun c => ?_)
      · replace H := H.1 c
        exact ⟨fun h => absurd h (by decide), _, rfl, H⟩
      · replace H := H.2 c
        refine And.intro (fun c => ?_) (fun c => ?_)
        · replace H := H.1 c
          exact ⟨fun h => absurd h (by decide), _, rfl, H⟩
        · replace H := H.2 c
          refine And.intro X.1.1 ?_
          refine Or.inl ⟨_, (ob11_r1 X.1), ?_⟩
          refine And.intro X.2.2.1.1 ?_
          refine And.intro (fun c => ?_) (fun c => ?_)
          · replace H := H.1 c
            exact ⟨fun h => absurd h (by decide), _, rfl, H⟩
          · replace H := H.2 c
            refine And.intro X.1.1 ?_
            refine Or.inl ⟨_, (ob11_r1 X.1), ?_⟩
            refine And.intro X.2.2.1.1 ?_
            refine Or.inl ⟨_, (ob8_r2 X.2.2.1), ?_⟩
            refine Or.inl ⟨(ob8_k2 X.2.2.1), vp_cst (ob8_l2 X.2.2.1) H.1, ?_⟩
            replace H := H.2
            exact ⟨fun h => absurd h (by decide), _, rfl, H⟩
    · replace H := H.2 c
      refine And.intro X.1.1 ?_
      refine Or.inl ⟨_, (ob11_r1 X.1), ?_⟩
      refine And.intro X.2.2.1.1 ?_
      refine And.intro (fun c => ?_) (fun c => ?_)
      · replace H := H.1 c
        refine And.intro (fun c => ?_) (fun c => ?_)
        · replace H := H.1 c
          exact ⟨fun h => absurd h (by decide), _, rfl, H⟩
        · replace H := H.2 c
          refine And.intro (fun c => ?_) (fun c => ?_)
          · replace H := H.1 c
            exact ⟨fun h => absurd h (by decide), _, rfl, H⟩
          · replace H := H.2 c
            refine And.intro X.1.1 ?_
            refine Or.inl ⟨_, (ob11_r1 X.1), ?_⟩
            refine And.intro X.2.2.1.1 ?_
            refine And.intro (fun c => ?_) (fun c => ?_)
            · replace H := H.1 c
              exact ⟨fun h => absurd h (by decide), _, rfl, H⟩
            · replace H := H.2 c
              refine And.intro X.1.1 ?_
              refine Or.inl ⟨_, (ob11_r1 X.1), ?_⟩
              refine And.intro X.2.2.1.1 ?_
              refine Or.inl ⟨_, (ob8_r2 X.2.2.1), ?_⟩
              refine Or.inl ⟨(ob8_k2 X.2.2.1), vp_cst (ob8_l2 X.2.2.1) H.1, ?_⟩
              replace H := H.2
              exact ⟨fun h => absurd h (by decide), _, rfl, H⟩
      · replace H := H.2 c
        refine And.intro X.1.1 ?_
        refine Or.inl ⟨_, (ob11_r1 X.1), ?_⟩
        refine And.intro X.2.2.1.1 ?_
        refine Or.inl ⟨_, (ob8_r0 X.2.2.1), ?_⟩
        refine Or.inl ⟨(ob8_k0 X.2.2.1), vp_cst (ob8_l0 X.2.2.1) H.1, ?_⟩
        replace H := H.2
        exact ⟨fun h => absurd h (by decide), _, rfl, H⟩

theorem c_X11_mark {G : GT} {d : Nat} {M : Mem} {x : Nat} (X : XAt M x) {a1 : Int32} {a2 : Int32} {a3 : Int32} {Q : Int32 → Mem → Prop} (H : CR G d 80 [.ref (x + 3), .int a1, .int a2] M (fun o5 M1 => XAt M1 x ∧ ((∀ r2, o5 = some r2 → ((a3).toInt < 0 ∨ 5 < (a3).toInt → Q (-2 : Int32) M1) ∧ ((a3).toInt = 0 → mK M1 r2 = 6 ∧ (Q (vi M1 r2 0) M1)) ∧ ((a3).toInt = 1 → mK M1 r2 = 6 ∧ (Q (vi M1 r2 1) M1)) ∧ ((a3).toInt = 2 → mK M1 r2 = 6 ∧ (Q (vi M1 r2 2) M1)) ∧ ((a3).toInt = 3 → mK M1 r2 = 6 ∧ (Q (vi M1 r2 3) M1)) ∧ ((a3).toInt = 4 → mK M1 r2 = 6 ∧ (Q (vi M1 r2 4) M1)) ∧ ((a3).toInt = 5 → CI G d 147 [.int a1, .int a2] M1 (fun v4 M3 => XAt M3 x ∧ (vp_in v4 64 ∧ (Q (vi M3 ((x + 3) + 7) (v4).toNatClampNeg) M3)))) ∧ True) ∧ (o5 = none → Q (-2 : Int32) M1)))) : CI G (d + 1) 118 [.ref x, .int a1, .int a2, .int a3] M Q := by
  refine Cl.ofM (Nat.le_of_ble_eq_true rfl) rfl ?_
  refine vcc ok118 0 [] ?_
  refine And.intro X.1.1 ?_
  refine Or.inl ⟨_, (ob11_r1 X.1), ?_⟩
  refine And.intro (Nat.le_of_ble_eq_true rfl) ?_
  refine And.intro (Nat.le_of_ble_eq_true rfl) (And.intro X.2.2.1.1 ?_)
  refine Cl.mono H (fun r M1 h => ?_)
  obtain ⟨o5, rfl, H⟩ := h
  obtain ⟨X, H⟩ := H
  rcases o5 with _ | r2
  · replace H := H.2 rfl
    exact ⟨fun h => absurd h (by decide), _, rfl, H⟩
  · replace H := H.1 _ rfl
    refine And.intro (fun c => ?_) ?_
    · replace H := H.1 c
      exact ⟨fun h => absurd h (by decide), _, rfl, H⟩
    replace H := H.2
    refine And.intro (fun c => ?_) ?_
    · replace H := H.1 c
      refine And.intro H.1 ?_
      replace H := H.2
      exact ⟨fun h => absurd h (by decide), _, rfl, H⟩
    replace H := H.2
    refine And.intro (fun c => ?_) ?_
    · replace H := H.1 c
      refine And.intro H.1 ?_
      replace H := H.2
      exact ⟨fun h => absurd h (by decide), _, rfl, H⟩
    replace H := H.2
    refine And.intro (fun c => ?_) ?_
    · replace H := H.1 c
      refine And.intro H.1 ?_
      replace H := H.2
      exact ⟨fun h => absurd h (by decide), _, rfl, H⟩
    replace H := H.2
    refine And.intro (fun c => ?_) ?_
    · replace H := H.1 c
      refine And.intro H.1 ?_
      replace H := H.2
      exact ⟨fun h => absurd h (by decide), _, rfl, H⟩
    replace H := H.2
    refine And.intro (fun c => ?_) ?_
    · replace H := H.1 c
      refine And.intro H.1 ?_
      replace H := H.2
      exact ⟨fun h => absurd h (by decide), _, rfl, H⟩
    replace H := H.2
    refine And.intro (fun c => ?_) ?_
    · replace H := H.1 c
      refine And.intro X.1.1 ?_
      refine Or.inl ⟨_, (ob11_r1 X.1), ?_⟩
      refine And.intro X.2.2.1.1 ?_
      refine Or.inl ⟨_, (ob8_r9 X.2.2.1), ?_⟩
      refine And.intro (Nat.le_of_ble_eq_true rfl) ?_
      refine And.intro (Nat.le_of_ble_eq_true rfl) ?_
      refine Cl.mono H (fun r M3 h => ?_)
      obtain ⟨v4, rfl, H⟩ := h
      obtain ⟨X, H⟩ := H
      refine Or.inl ⟨(ob8_k9 X.2.2.1), vp_cst (ob8_l9 X.2.2.1) H.1, ?_⟩
      replace H := H.2
      exact ⟨fun h => absurd h (by decide), _, rfl, H⟩
    replace H := H.2
    exact trivial

theorem c_X11_put {G : GT} {d : Nat} {M : Mem} {x : Nat} (X : XAt M x) {a1 : Int32} {a2 : Int32} {a3 : Int32} {Q : Int32 → Mem → Prop} (H : CR G d 80 [.ref (x + 3), .int a1, .int a2] M (fun o6 M1 => XAt M1 x ∧ ((∀ r2, o6 = some r2 → mK M1 r2 = 6 ∧ ((∀ r3, vr M1 r2 5 = some r3 → (a3 < 0 → Q (-1 : Int32) M1) ∧ (¬ a3 < 0 → mK M1 r2 = 6 ∧ ((∀ r4, vr M1 r2 5 = some r4 → (14 ≤ mK M1 r4 ∧ mK M1 r4 ≤ 21) ∧ ((a3 < (nI (mA M1 r4)) → mK M1 r2 = 6 ∧ ((∀ r5, vr M1 r2 5 = some r5 → mK M1 r5 = 15 ∧ vp_in a3 (mA M1 r5) ∧ (Q (vi M1 r5 (a3).toNatClampNeg) M1)) ∧ (vr M1 r2 5 = none → False))) ∧ (¬ a3 < (nI (mA M1 r4)) → Q (-1 : Int32) M1))) ∧ (vr M1 r2 5 = none → False)))) ∧ (vr M1 r2 5 = none → Q (-1 : Int32) M1))) ∧ (o6 = none → Q (-1 : Int32) M1)))) : CI G (d + 1) 119 [.ref x, .int a1, .int a2, .int a3] M Q := by
  refine Cl.ofM (Nat.le_of_ble_eq_true rfl) rfl ?_
  refine vcc ok119 0 [] ?_
  refine And.intro X.1.1 ?_
  refine Or.inl ⟨_, (ob11_r1 X.1), ?_⟩
  refine And.intro (Nat.le_of_ble_eq_true rfl) ?_
  refine And.intro (Nat.le_of_ble_eq_true rfl) (And.intro X.2.2.1.1 ?_)
  refine Cl.mono H (fun r M1 h => ?_)
  obtain ⟨o6, rfl, H⟩ := h
  obtain ⟨X, H⟩ := H
  rcases o6 with _ | r2
  · replace H := H.2 rfl
    exact ⟨fun h => absurd h (by decide), _, rfl, H⟩
  · replace H := H.1 _ rfl
    refine And.intro H.1 ?_
    replace H := H.2
    refine wRef_i (fun r3 hr => ?_) (fun hr => ?_)
    · replace H := H.1 _ hr
      refine And.intro (fun c => ?_) (fun c => ?_)
      · replace H := H.1 c
        exact ⟨fun h => absurd h (by decide), _, rfl, H⟩
      · replace H := H.2 c
        refine And.intro H.1 ?_
        replace H := H.2
        refine wRef_i (fun r4 hr => ?_) (fun hr => ?_)
        · replace H := H.1 _ hr
          refine Or.inl ⟨H.1, ?_⟩
          replace H := H.2
          refine And.intro (fun c => ?_) (fun c => ?_)
          · replace H := H.1 c
            refine And.intro H.1 ?_
            replace H := H.2
            refine wRef_i (fun r5 hr => ?_) (fun hr => ?_)
            · replace H := H.1 _ hr
              refine Or.inl ⟨H.1, H.2.1, ?_⟩
              replace H := H.2.2
              exact ⟨fun h => absurd h (by decide), _, rfl, H⟩
            · replace H := H.2 hr
              exact H.elim
          · replace H := H.2 c
            exact ⟨fun h => absurd h (by decide), _, rfl, H⟩
        · replace H := H.2 hr
          exact H.elim
    · replace H := H.2 hr
      exact ⟨fun h => absurd h (by decide), _, rfl, H⟩

theorem c_X11_clash {G : GT} {d : Nat} {M : Mem} {x : Nat} (X : XAt M x) {a1 : Int32} {a2 : Int32} {a3 : Int32} {a4 : Int32} {Q : Int32 → Mem → Prop} (H : CR G d 80 [.ref (x + 3), .int a1, .int a2] M (fun o13 M1 => XAt M1 x ∧ ((∀ r2, o13 = some r2 → CR G d 80 [.ref (x + 3), .int a3, .int a4] M1 (fun o9 M3 => XAt M3 x ∧ ((∀ r4, o9 = some r4 → (¬ a1 = a3 → mK M3 r2 = 6 ∧ CI G d 50 [.ref r2, .ref r4] M3 (fun v6 M5 => XAt M5 x ∧ (Q v6 M5))) ∧ (a1 = a3 → (¬ a2 = a4 → mK M3 r2 = 6 ∧ CI G d 50 [.ref r2, .ref r4] M3 (fun v8 M7 => XAt M7 x ∧ (Q v8 M7))) ∧ (a2 = a4 → Q (-1 : Int32) M3))) ∧ (o9 = none → Q (-1 : Int32) M3)))) ∧ (o13 = none → CR G d 80 [.ref (x + 3), .int a3, .int a4] M1 (fun o12 M10 => XAt M10 x ∧ ((∀ r11, o12 = some r11 → Q (-1 : Int32) M10) ∧ (o12 = none → Q (-1 : Int32) M10))))))) : CI G (d + 1) 120 [.ref x, .int a1, .int a2, .int a3, .int a4] M Q := by
  refine Cl.ofM (Nat.le_of_ble_eq_true rfl) rfl ?_
  refine vcc ok120 0 [] ?_
  refine And.intro X.1.1 ?_
  refine Or.inl ⟨_, (ob11_r1 X.1), ?_⟩
  refine And.intro (Nat.le_of_ble_eq_true rfl) ?_
  refine And.intro (Nat.le_of_ble_eq_true rfl) (And.intro X.2.2.1.1 ?_)
  refine Cl.mono H (fun r M1 h => ?_)
  obtain ⟨o13, rfl, H⟩ := h
  obtain ⟨X, H⟩ := H
  rcases o13 with _ | r2
  · replace H := H.2 rfl
    refine And.intro X.1.1 ?_
    refine Or.inl ⟨_, (ob11_r1 X.1), ?_⟩
    refine And.intro (Nat.le_of_ble_eq_true rfl) ?_
    refine And.intro (Nat.le_of_ble_eq_true rfl) (And.intro X.2.2.1.1 ?_)
    refine Cl.mono H (fun r M10 h => ?_)
    obtain ⟨o12, rfl, H⟩ := h
    obtain ⟨X, H⟩ := H
    rcases o12 with _ | r11
    · replace H := H.2 rfl
      exact ⟨fun h => absurd h (by decide), _, rfl, H⟩
    · replace H := H.1 _ rfl
      exact ⟨fun h => absurd h (by decide), _, rfl, H⟩
  · replace H := H.1 _ rfl
    refine And.intro X.1.1 ?_
    refine Or.inl ⟨_, (ob11_r1 X.1), ?_⟩
    refine And.intro (Nat.le_of_ble_eq_true rfl) ?_
    refine And.intro (Nat.le_of_ble_eq_true rfl) (And.intro X.2.2.1.1 ?_)
    refine Cl.mono H (fun r M3 h => ?_)
    obtain ⟨o9, rfl, H⟩ := h
    obtain ⟨X, H⟩ := H
    rcases o9 with _ | r4
    · replace H := H.2 rfl
      exact ⟨fun h => absurd h (by decide), _, rfl, H⟩
    · replace H := H.1 _ rfl
      refine And.intro (fun c => ?_) (fun c => ?_)
      · replace H := H.1 c
        refine And.intro (Nat.le_of_ble_eq_true rfl) ?_
        refine And.intro (Nat.le_of_ble_eq_true rfl) (And.intro H.1 ?_)
        replace H := H.2
        refine Cl.mono H (fun r M5 h => ?_)
        obtain ⟨v6, rfl, H⟩ := h
        obtain ⟨X, H⟩ := H
        exact ⟨fun h => absurd h (by decide), _, rfl, H⟩
      · replace H := H.2 c
        refine And.intro (fun c => ?_) (fun c => ?_)
        · replace H := H.1 c
          refine And.intro (Nat.le_of_ble_eq_true rfl) ?_
          refine And.intro (Nat.le_of_ble_eq_true rfl) (And.intro H.1 ?_)
          replace H := H.2
          refine Cl.mono H (fun r M7 h => ?_)
          obtain ⟨v8, rfl, H⟩ := h
          obtain ⟨X, H⟩ := H
          exact ⟨fun h => absurd h (by decide), _, rfl, H⟩
        · replace H := H.2 c
          exact ⟨fun h => absurd h (by decide), _, rfl, H⟩

theorem c_X11_clashes {G : GT} {d : Nat} {M : Mem} {x : Nat} (X : XAt M x) {a1 : Int32} {Q : Int32 → Mem → Prop} (H : (a1 < 0 → Q (-1 : Int32) M) ∧ (¬ a1 < 0 → (a1 ≤ (6 : Int32) → At G (d + 1) 121 16 [(0, .ref x), (1, .int a1), (2, .int (0 : Int32)), (3, .int (0 : Int32))] [] M (qI Q)) ∧ (¬ a1 ≤ (6 : Int32) → Q (-1 : Int32) M))) : CI G (d + 1) 121 [.ref x, .int a1] M Q := by
  refine Cl.ofM (Nat.le_of_ble_eq_true rfl) rfl ?_
  refine vcc ok121 0 [16, 27] ?_
  refine And.intro (fun c => ?_) (fun c => ?_)
  · replace H := H.1 c
    exact ⟨fun h => absurd h (by decide), _, rfl, H⟩
  · replace H := H.2 c
    refine And.intro (fun c => ?_) (fun c => ?_)
    · replace H := H.1 c
      exact H
    · replace H := H.2 c
      exact ⟨fun h => absurd h (by decide), _, rfl, H⟩

theorem c_X11_clashes_16 {G : GT} {d : Nat} {M : Mem} {x : Nat} (X : XAt M x) {l1 : Int32} {l2 : Int32} {l3 : Int32} {Q : Int32 → Mem → Prop} (H : ((64 : Int32) ≤ l3 → Q l2 M) ∧ (¬ (64 : Int32) ≤ l3 → At G (d + 1) 121 27 [(0, .ref x), (1, .int l1), (2, .int l2), (3, .int l3), (4, .int (l3 + (1 : Int32)))] [] M (qI Q))) : At G (d + 1) 121 16 [(0, .ref x), (1, .int l1), (2, .int l2), (3, .int l3)] [] M (qI Q) := by
  refine vcc ok121 11 [27] ?_
  refine And.intro (fun c => ?_) (fun c => ?_)
  · replace H := H.1 c
    exact ⟨fun h => absurd h (by decide), _, rfl, H⟩
  · replace H := H.2 c
    exact H

theorem c_X11_clashes_27 {G : GT} {d : Nat} {M : Mem} {x : Nat} (X : XAt M x) {l1 : Int32} {l2 : Int32} {l3 : Int32} {l4 : Int32} {Q : Int32 → Mem → Prop} (H : ((64 : Int32) ≤ l4 → At G (d + 1) 121 16 [(0, .ref x), (1, .int l1), (2, .int l2), (3, .int (l3 + (1 : Int32)))] [] M (qI Q)) ∧ (¬ (64 : Int32) ≤ l4 → vp_in l3 64 ∧ ((∀ r1, (vr M ((x + 3) + 5) (l3).toNatClampNeg) = some r1 → vp_in l4 64 ∧ ((∀ r2, (vr M ((x + 3) + 5) (l4).toNatClampNeg) = some r2 → mK M r1 = 6 ∧ CI G d 50 [.ref r1, .ref r2] M (fun v4 M3 => XAt M3 x ∧ ((v4 = 0 → At G (d + 1) 121 27 [(0, .ref x), (1, .int l1), (2, .int l2), (3, .int l3), (4, .int (l4 + (1 : Int32)))] [] M3 (qI Q)) ∧ (¬ v4 = 0 → (l1 = 0 → At G (d + 1) 121 27 [(0, .ref x), (1, .int l1), (2, .int (l2 + (1 : Int32))), (3, .int l3), (4, .int (l4 + (1 : Int32)))] [] M3 (qI Q)) ∧ (¬ l1 = 0 → (¬ v4 = l1 → At G (d + 1) 121 27 [(0, .ref x), (1, .int l1), (2, .int l2), (3, .int l3), (4, .int (l4 + (1 : Int32)))] [] M3 (qI Q)) ∧ (v4 = l1 → At G (d + 1) 121 27 [(0, .ref x), (1, .int l1), (2, .int (l2 + (1 : Int32))), (3, .int l3), (4, .int (l4 + (1 : Int32)))] [] M3 (qI Q))))))) ∧ ((vr M ((x + 3) + 5) (l4).toNatClampNeg) = none → ((0 : Int32) = 0 → At G (d + 1) 121 27 [(0, .ref x), (1, .int l1), (2, .int l2), (3, .int l3), (4, .int (l4 + (1 : Int32)))] [] M (qI Q)) ∧ (¬ (0 : Int32) = 0 → (l1 = 0 → At G (d + 1) 121 27 [(0, .ref x), (1, .int l1), (2, .int (l2 + (1 : Int32))), (3, .int l3), (4, .int (l4 + (1 : Int32)))] [] M (qI Q)) ∧ (¬ l1 = 0 → (¬ (0 : Int32) = l1 → At G (d + 1) 121 27 [(0, .ref x), (1, .int l1), (2, .int l2), (3, .int l3), (4, .int (l4 + (1 : Int32)))] [] M (qI Q)) ∧ ((0 : Int32) = l1 → At G (d + 1) 121 27 [(0, .ref x), (1, .int l1), (2, .int (l2 + (1 : Int32))), (3, .int l3), (4, .int (l4 + (1 : Int32)))] [] M (qI Q))))))) ∧ ((vr M ((x + 3) + 5) (l3).toNatClampNeg) = none → vp_in l4 64 ∧ ((∀ r5, (vr M ((x + 3) + 5) (l4).toNatClampNeg) = some r5 → ((0 : Int32) = 0 → At G (d + 1) 121 27 [(0, .ref x), (1, .int l1), (2, .int l2), (3, .int l3), (4, .int (l4 + (1 : Int32)))] [] M (qI Q)) ∧ (¬ (0 : Int32) = 0 → (l1 = 0 → At G (d + 1) 121 27 [(0, .ref x), (1, .int l1), (2, .int (l2 + (1 : Int32))), (3, .int l3), (4, .int (l4 + (1 : Int32)))] [] M (qI Q)) ∧ (¬ l1 = 0 → (¬ (0 : Int32) = l1 → At G (d + 1) 121 27 [(0, .ref x), (1, .int l1), (2, .int l2), (3, .int l3), (4, .int (l4 + (1 : Int32)))] [] M (qI Q)) ∧ ((0 : Int32) = l1 → At G (d + 1) 121 27 [(0, .ref x), (1, .int l1), (2, .int (l2 + (1 : Int32))), (3, .int l3), (4, .int (l4 + (1 : Int32)))] [] M (qI Q))))) ∧ ((vr M ((x + 3) + 5) (l4).toNatClampNeg) = none → ((0 : Int32) = 0 → At G (d + 1) 121 27 [(0, .ref x), (1, .int l1), (2, .int l2), (3, .int l3), (4, .int (l4 + (1 : Int32)))] [] M (qI Q)) ∧ (¬ (0 : Int32) = 0 → (l1 = 0 → At G (d + 1) 121 27 [(0, .ref x), (1, .int l1), (2, .int (l2 + (1 : Int32))), (3, .int l3), (4, .int (l4 + (1 : Int32)))] [] M (qI Q)) ∧ (¬ l1 = 0 → (¬ (0 : Int32) = l1 → At G (d + 1) 121 27 [(0, .ref x), (1, .int l1), (2, .int l2), (3, .int l3), (4, .int (l4 + (1 : Int32)))] [] M (qI Q)) ∧ ((0 : Int32) = l1 → At G (d + 1) 121 27 [(0, .ref x), (1, .int l1), (2, .int (l2 + (1 : Int32))), (3, .int l3), (4, .int (l4 + (1 : Int32)))] [] M (qI Q)))))))))) : At G (d + 1) 121 27 [(0, .ref x), (1, .int l1), (2, .int l2), (3, .int l3), (4, .int l4)] [] M (qI Q) := by
  refine vcc ok121 18 [16] ?_
  refine And.intro (fun c => ?_) (fun c => ?_)
  · replace H := H.1 c
    exact At.keep [0, 1, 2, 3] H
  · replace H := H.2 c
    refine And.intro X.1.1 ?_
    refine Or.inl ⟨_, (ob11_r1 X.1), ?_⟩
    refine And.intro X.2.2.1.1 ?_
    refine Or.inl ⟨_, (ob8_r7 X.2.2.1), ?_⟩
    refine ⟨(k18 (ob8_k7 X.2.2.1)), vp_cst (ob8_l7 X.2.2.1) H.1, ?_⟩
    replace H := H.2
    refine wRef_i (fun r1 hr => ?_) (fun hr => ?_)
    · replace H := H.1 _ hr
      refine And.intro X.1.1 ?_
      refine Or.inl ⟨_, (ob11_r1 X.1), ?_⟩
      refine And.intro X.2.2.1.1 ?_
      refine Or.inl ⟨_, (ob8_r7 X.2.2.1), ?_⟩
      refine ⟨(k18 (ob8_k7 X.2.2.1)), vp_cst (ob8_l7 X.2.2.1) H.1, ?_⟩
      replace H := H.2
      refine wRef_i (fun r2 hr => ?_) (fun hr => ?_)
      · replace H := H.1 _ hr
        refine And.intro (Nat.le_of_ble_eq_true rfl) ?_
        refine And.intro (Nat.le_of_ble_eq_true rfl) (And.intro H.1 ?_)
        replace H := H.2
        refine Cl.mono H (fun r M3 h => ?_)
        obtain ⟨v4, rfl, H⟩ := h
        obtain ⟨X, H⟩ := H
        refine And.intro (fun c => ?_) (fun c => ?_)
        · replace H := H.1 c
          exact At.keep [0, 1, 2, 3, 4] H
        · replace H := H.2 c
          refine And.intro (fun c => ?_) (fun c => ?_)
          · replace H := H.1 c
            exact At.keep [0, 1, 2, 3, 4] H
          · replace H := H.2 c
            refine And.intro (fun c => ?_) (fun c => ?_)
            · replace H := H.1 c
              exact At.keep [0, 1, 2, 3, 4] H
            · replace H := H.2 c
              exact At.keep [0, 1, 2, 3, 4] H
      · replace H := H.2 hr
        refine And.intro (fun c => ?_) (fun c => ?_)
        · replace H := H.1 c
          exact At.keep [0, 1, 2, 3, 4] H
        · replace H := H.2 c
          refine And.intro (fun c => ?_) (fun c => ?_)
          · replace H := H.1 c
            exact At.keep [0, 1, 2, 3, 4] H
          · replace H := H.2 c
            refine And.intro (fun c => ?_) (fun c => ?_)
            · replace H := H.1 c
              exact At.keep [0, 1, 2, 3, 4] H
            · replace H := H.2 c
              exact At.keep [0, 1, 2, 3, 4] H
    · replace H := H.2 hr
      refine And.intro X.1.1 ?_
      refine Or.inl ⟨_, (ob11_r1 X.1), ?_⟩
      refine And.intro X.2.2.1.1 ?_
      refine Or.inl ⟨_, (ob8_r7 X.2.2.1), ?_⟩
      refine ⟨(k18 (ob8_k7 X.2.2.1)), vp_cst (ob8_l7 X.2.2.1) H.1, ?_⟩
      replace H := H.2
      refine wRef_i (fun r5 hr => ?_) (fun hr => ?_)
      · replace H := H.1 _ hr
        refine And.intro (fun c => ?_) (fun c => ?_)
        · replace H := H.1 c
          exact At.keep [0, 1, 2, 3, 4] H
        · replace H := H.2 c
          refine And.intro (fun c => ?_) (fun c => ?_)
          · replace H := H.1 c
            exact At.keep [0, 1, 2, 3, 4] H
          · replace H := H.2 c
            refine And.intro (fun c => ?_) (fun c => ?_)
            · replace H := H.1 c
              exact At.keep [0, 1, 2, 3, 4] H
            · replace H := H.2 c
              exact At.keep [0, 1, 2, 3, 4] H
      · replace H := H.2 hr
        refine And.intro (fun c => ?_) (fun c => ?_)
        · replace H := H.1 c
          exact At.keep [0, 1, 2, 3, 4] H
        · replace H := H.2 c
          refine And.intro (fun c => ?_) (fun c => ?_)
          · replace H := H.1 c
            exact At.keep [0, 1, 2, 3, 4] H
          · replace H := H.2 c
            refine And.intro (fun c => ?_) (fun c => ?_)
            · replace H := H.1 c
              exact At.keep [0, 1, 2, 3, 4] H
            · replace H := H.2 c
              exact At.keep [0, 1, 2, 3, 4] H

theorem c_X11_weight {G : GT} {d : Nat} {M : Mem} {x : Nat} (X : XAt M x) {a1 : Int32} {a2 : Int32} {a3 : Int32} {Q : Int64 → Mem → Prop} (H : CR G d 141 [.ref x, .int a1] M (fun o11 M1 => XAt M1 x ∧ ((∀ r2, o11 = some r2 → CR G d 80 [.ref (x + 3), .int a2, .int a3] M1 (fun o10 M3 => XAt M3 x ∧ ((∀ r4, o10 = some r4 → mK M3 r2 = 11 ∧ ((∀ r5, vr M3 r2 0 = some r5 → CI G d 147 [.int a2, .int a3] M3 (fun v7 M6 => XAt M6 x ∧ (mK M6 r5 = 16 ∧ vp_in v7 (mA M6 r5) ∧ (Q (vl M6 r5 (v7).toNatClampNeg) M6)))) ∧ (vr M3 r2 0 = none → CI G d 147 [.int a2, .int a3] M3 (fun v9 M8 => XAt M8 x ∧ (False))))) ∧ (o10 = none → Q (0 : Int64) M3)))) ∧ (o11 = none → Q (0 : Int64) M1)))) : CJ G (d + 1) 122 [.ref x, .int a1, .int a2, .int a3] M Q := by
  refine Cl.ofM (Nat.le_of_ble_eq_true rfl) rfl ?_
  refine vcc ok122 0 [] ?_
  refine And.intro (Nat.le_of_ble_eq_true rfl) ?_
  refine And.intro (Nat.le_of_ble_eq_true rfl) (And.intro X.1.1 ?_)
  refine Cl.mono H (fun r M1 h => ?_)
  obtain ⟨o11, rfl, H⟩ := h
  obtain ⟨X, H⟩ := H
  rcases o11 with _ | r2
  · replace H := H.2 rfl
    exact ⟨_, rfl, H⟩
  · replace H := H.1 _ rfl
    refine And.intro X.1.1 ?_
    refine Or.inl ⟨_, (ob11_r1 X.1), ?_⟩
    refine And.intro (Nat.le_of_ble_eq_true rfl) ?_
    refine And.intro (Nat.le_of_ble_eq_true rfl) (And.intro X.2.2.1.1 ?_)
    refine Cl.mono H (fun r M3 h => ?_)
    obtain ⟨o10, rfl, H⟩ := h
    obtain ⟨X, H⟩ := H
    rcases o10 with _ | r4
    · replace H := H.2 rfl
      exact ⟨_, rfl, H⟩
    · replace H := H.1 _ rfl
      refine And.intro H.1 ?_
      replace H := H.2
      refine wRef_i (fun r5 hr => ?_) (fun hr => ?_)
      · replace H := H.1 _ hr
        refine And.intro (Nat.le_of_ble_eq_true rfl) ?_
        refine And.intro (Nat.le_of_ble_eq_true rfl) ?_
        refine Cl.mono H (fun r M6 h => ?_)
        obtain ⟨v7, rfl, H⟩ := h
        obtain ⟨X, H⟩ := H
        refine ⟨H.1, H.2.1, ?_⟩
        replace H := H.2.2
        exact ⟨_, rfl, H⟩
      · replace H := H.2 hr
        refine And.intro (Nat.le_of_ble_eq_true rfl) ?_
        refine And.intro (Nat.le_of_ble_eq_true rfl) ?_
        refine Cl.mono H (fun r M8 h => ?_)
        obtain ⟨v9, rfl, H⟩ := h
        obtain ⟨X, H⟩ := H
        exact H.elim

theorem c_X11_stands {G : GT} {d : Nat} {M : Mem} {x : Nat} (X : XAt M x) {a1 : Int32} {a2 : Int32} {a3 : Int32} {Q : Int32 → Mem → Prop} (H : CR G d 141 [.ref x, .int a1] M (fun o11 M1 => XAt M1 x ∧ ((∀ r2, o11 = some r2 → CR G d 80 [.ref (x + 3), .int a2, .int a3] M1 (fun o10 M3 => XAt M3 x ∧ ((∀ r4, o10 = some r4 → mK M3 r2 = 11 ∧ ((∀ r5, vr M3 r2 1 = some r5 → CI G d 147 [.int a2, .int a3] M3 (fun v7 M6 => XAt M6 x ∧ (mK M6 r5 = 15 ∧ vp_in v7 (mA M6 r5) ∧ (Q (vi M6 r5 (v7).toNatClampNeg) M6)))) ∧ (vr M3 r2 1 = none → CI G d 147 [.int a2, .int a3] M3 (fun v9 M8 => XAt M8 x ∧ (False))))) ∧ (o10 = none → Q (-1 : Int32) M3)))) ∧ (o11 = none → Q (-1 : Int32) M1)))) : CI G (d + 1) 123 [.ref x, .int a1, .int a2, .int a3] M Q := by
  refine Cl.ofM (Nat.le_of_ble_eq_true rfl) rfl ?_
  refine vcc ok123 0 [] ?_
  refine And.intro (Nat.le_of_ble_eq_true rfl) ?_
  refine And.intro (Nat.le_of_ble_eq_true rfl) (And.intro X.1.1 ?_)
  refine Cl.mono H (fun r M1 h => ?_)
  obtain ⟨o11, rfl, H⟩ := h
  obtain ⟨X, H⟩ := H
  rcases o11 with _ | r2
  · replace H := H.2 rfl
    exact ⟨fun h => absurd h (by decide), _, rfl, H⟩
  · replace H := H.1 _ rfl
    refine And.intro X.1.1 ?_
    refine Or.inl ⟨_, (ob11_r1 X.1), ?_⟩
    refine And.intro (Nat.le_of_ble_eq_true rfl) ?_
    refine And.intro (Nat.le_of_ble_eq_true rfl) (And.intro X.2.2.1.1 ?_)
    refine Cl.mono H (fun r M3 h => ?_)
    obtain ⟨o10, rfl, H⟩ := h
    obtain ⟨X, H⟩ := H
    rcases o10 with _ | r4
    · replace H := H.2 rfl
      exact ⟨fun h => absurd h (by decide), _, rfl, H⟩
    · replace H := H.1 _ rfl
      refine And.intro H.1 ?_
      replace H := H.2
      refine wRef_i (fun r5 hr => ?_) (fun hr => ?_)
      · replace H := H.1 _ hr
        refine And.intro (Nat.le_of_ble_eq_true rfl) ?_
        refine And.intro (Nat.le_of_ble_eq_true rfl) ?_
        refine Cl.mono H (fun r M6 h => ?_)
        obtain ⟨v7, rfl, H⟩ := h
        obtain ⟨X, H⟩ := H
        refine Or.inl ⟨H.1, H.2.1, ?_⟩
        replace H := H.2.2
        exact ⟨fun h => absurd h (by decide), _, rfl, H⟩
      · replace H := H.2 hr
        refine And.intro (Nat.le_of_ble_eq_true rfl) ?_
        refine And.intro (Nat.le_of_ble_eq_true rfl) ?_
        refine Cl.mono H (fun r M8 h => ?_)
        obtain ⟨v9, rfl, H⟩ := h
        obtain ⟨X, H⟩ := H
        exact H.elim

theorem c_X11_falls {G : GT} {d : Nat} {M : Mem} {x : Nat} (X : XAt M x) {a1 : Int32} {a2 : Int32} {a3 : Int32} {Q : Int32 → Mem → Prop} (H : CR G d 141 [.ref x, .int a1] M (fun o11 M1 => XAt M1 x ∧ ((∀ r2, o11 = some r2 → CR G d 80 [.ref (x + 3), .int a2, .int a3] M1 (fun o10 M3 => XAt M3 x ∧ ((∀ r4, o10 = some r4 → CI G d 147 [.int a2, .int a3] M3 (fun v6 M5 => XAt M5 x ∧ (mK M5 r2 = 11 ∧ ((∀ r7, vr M5 r2 1 = some r7 → mK M5 r7 = 15 ∧ vp_in v6 (mA M5 r7) ∧ ((¬ (vi M5 r7 (v6).toNatClampNeg) = 0 → Q (-2 : Int32) M5) ∧ ((vi M5 r7 (v6).toNatClampNeg) = 0 → mK M5 r2 = 11 ∧ CI G d 102 [.ref r2, .ref (x + 3), .int v6] M5 (fun v9 M8 => XAt M8 x ∧ (Q v9 M8))))) ∧ (vr M5 r2 1 = none → False))))) ∧ (o10 = none → Q (-1 : Int32) M3)))) ∧ (o11 = none → Q (-1 : Int32) M1)))) : CI G (d + 1) 124 [.ref x, .int a1, .int a2, .int a3] M Q := by
  refine Cl.ofM (Nat.le_of_ble_eq_true rfl) rfl ?_
  refine vcc ok124 0 [] ?_
  refine And.intro (Nat.le_of_ble_eq_true rfl) ?_
  refine And.intro (Nat.le_of_ble_eq_true rfl) (And.intro X.1.1 ?_)
  refine Cl.mono H (fun r M1 h => ?_)
  obtain ⟨o11, rfl, H⟩ := h
  obtain ⟨X, H⟩ := H
  rcases o11 with _ | r2
  · replace H := H.2 rfl
    exact ⟨fun h => absurd h (by decide), _, rfl, H⟩
  · replace H := H.1 _ rfl
    refine And.intro X.1.1 ?_
    refine Or.inl ⟨_, (ob11_r1 X.1), ?_⟩
    refine And.intro (Nat.le_of_ble_eq_true rfl) ?_
    refine And.intro (Nat.le_of_ble_eq_true rfl) (And.intro X.2.2.1.1 ?_)
    refine Cl.mono H (fun r M3 h => ?_)
    obtain ⟨o10, rfl, H⟩ := h
    obtain ⟨X, H⟩ := H
    rcases o10 with _ | r4
    · replace H := H.2 rfl
      exact ⟨fun h => absurd h (by decide), _, rfl, H⟩
    · replace H := H.1 _ rfl
      refine And.intro (Nat.le_of_ble_eq_true rfl) ?_
      refine And.intro (Nat.le_of_ble_eq_true rfl) ?_
      refine Cl.mono H (fun r M5 h => ?_)
      obtain ⟨v6, rfl, H⟩ := h
      obtain ⟨X, H⟩ := H
      refine And.intro H.1 ?_
      replace H := H.2
      refine wRef_i (fun r7 hr => ?_) (fun hr => ?_)
      · replace H := H.1 _ hr
        refine Or.inl ⟨H.1, H.2.1, ?_⟩
        replace H := H.2.2
        refine And.intro (fun c => ?_) (fun c => ?_)
        · replace H := H.1 c
          exact ⟨fun h => absurd h (by decide), _, rfl, H⟩
        · replace H := H.2 c
          refine And.intro X.1.1 ?_
          refine Or.inl ⟨_, (ob11_r1 X.1), ?_⟩
          refine And.intro (Nat.le_of_ble_eq_true rfl) ?_
          refine And.intro (Nat.le_of_ble_eq_true rfl) (And.intro H.1 ?_)
          replace H := H.2
          refine Cl.mono H (fun r M8 h => ?_)
          obtain ⟨v9, rfl, H⟩ := h
          obtain ⟨X, H⟩ := H
          exact ⟨fun h => absurd h (by decide), _, rfl, H⟩
      · replace H := H.2 hr
        exact H.elim

theorem c_X11_many {G : GT} {d : Nat} {M : Mem} {x : Nat} (X : XAt M x) {a1 : Int32} {a2 : Int32} {Q : Int32 → Mem → Prop} (H : CR G d 141 [.ref x, .int a1] M (fun o5 M1 => XAt M1 x ∧ ((∀ r2, o5 = some r2 → (a2 < 0 → Q (-1 : Int32) M1) ∧ (¬ a2 < 0 → (a2 ≤ (2 : Int32) → mK M1 r2 = 11 ∧ CI G d 103 [.ref r2, .int a2] M1 (fun v4 M3 => XAt M3 x ∧ (Q v4 M3))) ∧ (¬ a2 ≤ (2 : Int32) → Q (-1 : Int32) M1))) ∧ (o5 = none → Q (-1 : Int32) M1)))) : CI G (d + 1) 125 [.ref x, .int a1, .int a2] M Q := by
  refine Cl.ofM (Nat.le_of_ble_eq_true rfl) rfl ?_
  refine vcc ok125 0 [] ?_
  refine And.intro (Nat.le_of_ble_eq_true rfl) ?_
  refine And.intro (Nat.le_of_ble_eq_true rfl) (And.intro X.1.1 ?_)
  refine Cl.mono H (fun r M1 h => ?_)
  obtain ⟨o5, rfl, H⟩ := h
  obtain ⟨X, H⟩ := H
  rcases o5 with _ | r2
  · replace H := H.2 rfl
    exact ⟨fun h => absurd h (by decide), _, rfl, H⟩
  · replace H := H.1 _ rfl
    refine And.intro (fun c => ?_) (fun c => ?_)
    · replace H := H.1 c
      exact ⟨fun h => absurd h (by decide), _, rfl, H⟩
    · replace H := H.2 c
      refine And.intro (fun c => ?_) (fun c => ?_)
      · replace H := H.1 c
        refine And.intro (Nat.le_of_ble_eq_true rfl) ?_
        refine And.intro (Nat.le_of_ble_eq_true rfl) (And.intro H.1 ?_)
        replace H := H.2
        refine Cl.mono H (fun r M3 h => ?_)
        obtain ⟨v4, rfl, H⟩ := h
        obtain ⟨X, H⟩ := H
        exact ⟨fun h => absurd h (by decide), _, rfl, H⟩
      · replace H := H.2 c
        exact ⟨fun h => absurd h (by decide), _, rfl, H⟩

theorem c_X11_out {G : GT} {d : Nat} {M : Mem} {x : Nat} (X : XAt M x) {a1 : Int32} {Q : Int32 → Mem → Prop} (H : CR G d 142 [.ref x, .int a1] M (fun o3 M1 => XAt M1 x ∧ ((∀ r2, o3 = some r2 → mK M1 r2 = 11 ∧ (Q (vi M1 r2 3) M1)) ∧ (o3 = none → Q (-1 : Int32) M1)))) : CI G (d + 1) 126 [.ref x, .int a1] M Q := by
  refine Cl.ofM (Nat.le_of_ble_eq_true rfl) rfl ?_
  refine vcc ok126 0 [] ?_
  refine And.intro (Nat.le_of_ble_eq_true rfl) ?_
  refine And.intro (Nat.le_of_ble_eq_true rfl) (And.intro X.1.1 ?_)
  refine Cl.mono H (fun r M1 h => ?_)
  obtain ⟨o3, rfl, H⟩ := h
  obtain ⟨X, H⟩ := H
  rcases o3 with _ | r2
  · replace H := H.2 rfl
    exact ⟨fun h => absurd h (by decide), _, rfl, H⟩
  · replace H := H.1 _ rfl
    refine And.intro H.1 ?_
    replace H := H.2
    exact ⟨fun h => absurd h (by decide), _, rfl, H⟩

theorem c_X11_reads {G : GT} {d : Nat} {M : Mem} {x : Nat} (X : XAt M x) {a1 : Int32} {a2 : Int32} {Q : Int32 → Mem → Prop} (H : CR G d 142 [.ref x, .int a1] M (fun o4 M1 => XAt M1 x ∧ ((∀ r2, o4 = some r2 → (a2 < 0 → Q (-1 : Int32) M1) ∧ (¬ a2 < 0 → mK M1 r2 = 11 ∧ ((a2 < (vi M1 r2 3) → mK M1 r2 = 11 ∧ ((∀ r3, vr M1 r2 2 = some r3 → mK M1 r3 = 15 ∧ vp_in a2 (mA M1 r3) ∧ (Q (vi M1 r3 (a2).toNatClampNeg) M1)) ∧ (vr M1 r2 2 = none → False))) ∧ (¬ a2 < (vi M1 r2 3) → Q (-1 : Int32) M1)))) ∧ (o4 = none → Q (-1 : Int32) M1)))) : CI G (d + 1) 127 [.ref x, .int a1, .int a2] M Q := by
  refine Cl.ofM (Nat.le_of_ble_eq_true rfl) rfl ?_
  refine vcc ok127 0 [] ?_
  refine And.intro (Nat.le_of_ble_eq_true rfl) ?_
  refine And.intro (Nat.le_of_ble_eq_true rfl) (And.intro X.1.1 ?_)
  refine Cl.mono H (fun r M1 h => ?_)
  obtain ⟨o4, rfl, H⟩ := h
  obtain ⟨X, H⟩ := H
  rcases o4 with _ | r2
  · replace H := H.2 rfl
    exact ⟨fun h => absurd h (by decide), _, rfl, H⟩
  · replace H := H.1 _ rfl
    refine And.intro (fun c => ?_) (fun c => ?_)
    · replace H := H.1 c
      exact ⟨fun h => absurd h (by decide), _, rfl, H⟩
    · replace H := H.2 c
      refine And.intro H.1 ?_
      replace H := H.2
      refine And.intro (fun c => ?_) (fun c => ?_)
      · replace H := H.1 c
        refine And.intro H.1 ?_
        replace H := H.2
        refine wRef_i (fun r3 hr => ?_) (fun hr => ?_)
        · replace H := H.1 _ hr
          refine Or.inl ⟨H.1, H.2.1, ?_⟩
          replace H := H.2.2
          exact ⟨fun h => absurd h (by decide), _, rfl, H⟩
        · replace H := H.2 hr
          exact H.elim
      · replace H := H.2 c
        exact ⟨fun h => absurd h (by decide), _, rfl, H⟩
