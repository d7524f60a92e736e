/-! THE CLASS, block by block: by program (wip/tools/clsall.py) -/
theorem c_X5_isAlike {G : GT} {d : Nat} {M : Mem} {o : Nat} (O : mK M o = 6) {a1 : Nat} (Pa1 : mK M a1 = 6)  {Q : Int32 → Mem → Prop} (H : (¬ (vi M o 0) = (vi M a1 0) → ((0 : Int32) = 0 ∨ (0 : Int32) = 1) ∧ Q (0 : Int32) M) ∧ ((vi M o 0) = (vi M a1 0) → (¬ (vi M o 1) = (vi M a1 1) → ((0 : Int32) = 0 ∨ (0 : Int32) = 1) ∧ Q (0 : Int32) M) ∧ ((vi M o 1) = (vi M a1 1) → (¬ (vi M o 2) = (vi M a1 2) → ((0 : Int32) = 0 ∨ (0 : Int32) = 1) ∧ Q (0 : Int32) M) ∧ ((vi M o 2) = (vi M a1 2) → (¬ (vi M o 3) = (vi M a1 3) → ((0 : Int32) = 0 ∨ (0 : Int32) = 1) ∧ Q (0 : Int32) M) ∧ ((vi M o 3) = (vi M a1 3) → CI G d 49 [.ref o, .ref a1] M (fun v2 M1 => (mK M1 o = 6 ∧ mK M1 a1 = 6) ∧ ((v2 = 0 → ((0 : Int32) = 0 ∨ (0 : Int32) = 1) ∧ Q (0 : Int32) M1) ∧ (¬ v2 = 0 → ((1 : Int32) = 0 ∨ (1 : Int32) = 1) ∧ Q (1 : Int32) M1)))))))) : CI G (d + 1) 48 [.ref o, .ref a1] M Q := by
  refine Cl.ofM (Nat.le_of_ble_eq_true rfl) rfl ?_
  refine vcc ok48 0 [] ?_
  refine And.intro O ?_
  refine And.intro Pa1 ?_
  refine And.intro (fun c => ?_) (fun c => ?_)
  · replace H := H.1 c
    exact ⟨fun _ => H.1, _, rfl, H.2⟩
  · replace H := H.2 c
    refine And.intro O ?_
    refine And.intro Pa1 ?_
    refine And.intro (fun c => ?_) (fun c => ?_)
    · replace H := H.1 c
      exact ⟨fun _ => H.1, _, rfl, H.2⟩
    · replace H := H.2 c
      refine And.intro O ?_
      refine And.intro Pa1 ?_
      refine And.intro (fun c => ?_) (fun c => ?_)
      · replace H := H.1 c
        exact ⟨fun _ => H.1, _, rfl, H.2⟩
      · replace H := H.2 c
        refine And.intro O ?_
        refine And.intro Pa1 ?_
        refine And.intro (fun c => ?_) (fun c => ?_)
        · replace H := H.1 c
          exact ⟨fun _ => H.1, _, rfl, H.2⟩
        · replace H := H.2 c
          refine And.intro (Nat.le_of_ble_eq_true rfl) ?_
          refine And.intro (Nat.le_of_ble_eq_true rfl) (And.intro O ?_)
          refine Cl.mono H (fun r M1 h => ?_)
          obtain ⟨v2, rfl, H⟩ := h
          obtain ⟨⟨O, Pa1⟩, H⟩ := H
          refine And.intro (fun c => ?_) (fun c => ?_)
          · replace H := H.1 c
            exact ⟨fun _ => H.1, _, rfl, H.2⟩
          · replace H := H.2 c
            exact ⟨fun _ => H.1, _, rfl, H.2⟩

theorem c_X5_sameText {G : GT} {d : Nat} {M : Mem} {o : Nat} (O : mK M o = 6) {a1 : Nat} (Pa1 : mK M a1 = 6)  {Q : Int32 → Mem → Prop} (H : (∀ r1, vr M o 5 = some r1 → (∀ r2, vr M a1 5 = some r2 → (∀ r3, vr M o 5 = some r3 → (14 ≤ mK M r3 ∧ mK M r3 ≤ 21) ∧ ((∀ r4, vr M a1 5 = some r4 → (14 ≤ mK M r4 ∧ mK M r4 ≤ 21) ∧ (((nI (mA M r3)) = (nI (mA M r4)) → At G (d + 1) 49 51 [(0, .ref o), (1, .ref a1), (2, .int (0 : Int32))] [] M (qI Q)) ∧ (¬ (nI (mA M r3)) = (nI (mA M r4)) → ((0 : Int32) = 0 ∨ (0 : Int32) = 1) ∧ Q (0 : Int32) M))) ∧ (vr M a1 5 = none → False))) ∧ (vr M o 5 = none → False)) ∧ (vr M a1 5 = none → (∀ r5, vr M o 5 = some r5 → ((0 : Int32) = 0 ∨ (0 : Int32) = 1) ∧ Q (0 : Int32) M) ∧ (vr M o 5 = none → (∀ r6, vr M a1 5 = some r6 → ((0 : Int32) = 0 ∨ (0 : Int32) = 1) ∧ Q (0 : Int32) M) ∧ (vr M a1 5 = none → ((1 : Int32) = 0 ∨ (1 : Int32) = 1) ∧ Q (1 : Int32) M)))) ∧ (vr M o 5 = none → (∀ r7, vr M o 5 = some r7 → ((0 : Int32) = 0 ∨ (0 : Int32) = 1) ∧ Q (0 : Int32) M) ∧ (vr M o 5 = none → (∀ r8, vr M a1 5 = some r8 → ((0 : Int32) = 0 ∨ (0 : Int32) = 1) ∧ Q (0 : Int32) M) ∧ (vr M a1 5 = none → ((1 : Int32) = 0 ∨ (1 : Int32) = 1) ∧ Q (1 : Int32) M)))) : CI G (d + 1) 49 [.ref o, .ref a1] M Q := by
  refine Cl.ofM (Nat.le_of_ble_eq_true rfl) rfl ?_
  refine vcc ok49 0 [51] ?_
  refine And.intro O ?_
  refine wRef_i (fun r1 hr => ?_) (fun hr => ?_)
  · replace H := H.1 _ hr
    refine And.intro Pa1 ?_
    refine wRef_i (fun r2 hr => ?_) (fun hr => ?_)
    · replace H := H.1 _ hr
      refine And.intro O ?_
      refine wRef_i (fun r3 hr => ?_) (fun hr => ?_)
      · replace H := H.1 _ hr
        refine Or.inl ⟨H.1, ?_⟩
        replace H := H.2
        refine And.intro Pa1 ?_
        refine wRef_i (fun r4 hr => ?_) (fun hr => ?_)
        · replace H := H.1 _ hr
          refine Or.inl ⟨H.1, ?_⟩
          replace H := H.2
          refine And.intro (fun c => ?_) (fun c => ?_)
          · replace H := H.1 c
            exact H
          · replace H := H.2 c
            exact ⟨fun _ => H.1, _, rfl, H.2⟩
        · replace H := H.2 hr
          exact H.elim
      · replace H := H.2 hr
        exact H.elim
    · replace H := H.2 hr
      refine And.intro O ?_
      refine wRef_i (fun r5 hr => ?_) (fun hr => ?_)
      · replace H := H.1 _ hr
        exact ⟨fun _ => H.1, _, rfl, H.2⟩
      · replace H := H.2 hr
        refine And.intro Pa1 ?_
        refine wRef_i (fun r6 hr => ?_) (fun hr => ?_)
        · replace H := H.1 _ hr
          exact ⟨fun _ => H.1, _, rfl, H.2⟩
        · replace H := H.2 hr
          exact ⟨fun _ => H.1, _, rfl, H.2⟩
  · replace H := H.2 hr
    refine And.intro O ?_
    refine wRef_i (fun r7 hr => ?_) (fun hr => ?_)
    · replace H := H.1 _ hr
      exact ⟨fun _ => H.1, _, rfl, H.2⟩
    · replace H := H.2 hr
      refine And.intro Pa1 ?_
      refine wRef_i (fun r8 hr => ?_) (fun hr => ?_)
      · replace H := H.1 _ hr
        exact ⟨fun _ => H.1, _, rfl, H.2⟩
      · replace H := H.2 hr
        exact ⟨fun _ => H.1, _, rfl, H.2⟩

theorem c_X5_sameText_51 {G : GT} {d : Nat} {M : Mem} {o : Nat} (O : mK M o = 6) {a1 : Nat} (Pa1 : mK M a1 = 6) {l2 : Int32} {Q : Int32 → Mem → Prop} (H : (∀ r9, vr M o 5 = some r9 → (14 ≤ mK M r9 ∧ mK M r9 ≤ 21) ∧ (((nI (mA M r9)) ≤ l2 → ((1 : Int32) = 0 ∨ (1 : Int32) = 1) ∧ Q (1 : Int32) M) ∧ (¬ (nI (mA M r9)) ≤ l2 → (∀ r10, vr M a1 5 = some r10 → (14 ≤ mK M r10 ∧ mK M r10 ≤ 21) ∧ (((nI (mA M r10)) ≤ l2 → ((1 : Int32) = 0 ∨ (1 : Int32) = 1) ∧ Q (1 : Int32) M) ∧ (¬ (nI (mA M r10)) ≤ l2 → (∀ r11, vr M o 5 = some r11 → mK M r11 = 15 ∧ vp_in l2 (mA M r11) ∧ ((∀ r12, vr M a1 5 = some r12 → mK M r12 = 15 ∧ vp_in l2 (mA M r12) ∧ (((vi M r11 (l2).toNatClampNeg) = (vi M r12 (l2).toNatClampNeg) → At G (d + 1) 49 51 [(0, .ref o), (1, .ref a1), (2, .int (l2 + (1 : Int32)))] [] M (qI Q)) ∧ (¬ (vi M r11 (l2).toNatClampNeg) = (vi M r12 (l2).toNatClampNeg) → ((0 : Int32) = 0 ∨ (0 : Int32) = 1) ∧ Q (0 : Int32) M))) ∧ (vr M a1 5 = none → False))) ∧ (vr M o 5 = none → False)))) ∧ (vr M a1 5 = none → False)))) ∧ (vr M o 5 = none → False)) : At G (d + 1) 49 51 [(0, .ref o), (1, .ref a1), (2, .int l2)] [] M (qI Q) := by
  refine vcc ok49 27 [] ?_
  refine And.intro O ?_
  refine wRef_i (fun r9 hr => ?_) (fun hr => ?_)
  · replace H := H.1 _ hr
    refine Or.inl ⟨H.1, ?_⟩
    replace H := H.2
    refine And.intro (fun c => ?_) (fun c => ?_)
    · replace H := H.1 c
      exact ⟨fun _ => H.1, _, rfl, H.2⟩
    · replace H := H.2 c
      refine And.intro Pa1 ?_
      refine wRef_i (fun r10 hr => ?_) (fun hr => ?_)
      · replace H := H.1 _ hr
        refine Or.inl ⟨H.1, ?_⟩
        replace H := H.2
        refine And.intro (fun c => ?_) (fun c => ?_)
        · replace H := H.1 c
          exact ⟨fun _ => H.1, _, rfl, H.2⟩
        · replace H := H.2 c
          refine And.intro O ?_
          refine wRef_i (fun r11 hr => ?_) (fun hr => ?_)
          · replace H := H.1 _ hr
            refine Or.inl ⟨H.1, H.2.1, ?_⟩
            replace H := H.2.2
            refine And.intro Pa1 ?_
            refine wRef_i (fun r12 hr => ?_) (fun hr => ?_)
            · replace H := H.1 _ hr
              refine Or.inl ⟨H.1, H.2.1, ?_⟩
              replace H := H.2.2
              refine And.intro (fun c => ?_) (fun c => ?_)
              · replace H := H.1 c
                exact H
              · replace H := H.2 c
                exact ⟨fun _ => H.1, _, rfl, H.2⟩
            · replace H := H.2 hr
              exact H.elim
          · replace H := H.2 hr
            exact H.elim
      · replace H := H.2 hr
        exact H.elim
  · replace H := H.2 hr
    exact H.elim

theorem c_X5_meets {G : GT} {d : Nat} {M : Mem} {o : Nat} (O : mK M o = 6) {a1 : Nat} (Pa1 : mK M a1 = 6)  {Q : Int32 → Mem → Prop} (H : ((vi M a1 0) < (vi M o 0) → CI G d 51 [.ref a1, .ref o] M (fun v2 M1 => (mK M1 o = 6 ∧ mK M1 a1 = 6) ∧ (Q v2 M1))) ∧ (¬ (vi M a1 0) < (vi M o 0) → CI G d 51 [.ref o, .ref a1] M (fun v4 M3 => (mK M3 o = 6 ∧ mK M3 a1 = 6) ∧ (Q v4 M3)))) : CI G (d + 1) 50 [.ref o, .ref a1] M Q := by
  refine Cl.ofM (Nat.le_of_ble_eq_true rfl) rfl ?_
  refine vcc ok50 0 [] ?_
  refine And.intro O ?_
  refine And.intro Pa1 ?_
  refine And.intro (fun c => ?_) (fun c => ?_)
  · replace H := H.1 c
    refine And.intro (Nat.le_of_ble_eq_true rfl) ?_
    refine And.intro (Nat.le_of_ble_eq_true rfl) (And.intro Pa1 ?_)
    refine Cl.mono H (fun r M1 h => ?_)
    obtain ⟨v2, rfl, H⟩ := h
    obtain ⟨⟨O, Pa1⟩, H⟩ := H
    exact ⟨fun h => absurd h (by decide), _, rfl, H⟩
  · replace H := H.2 c
    refine And.intro (Nat.le_of_ble_eq_true rfl) ?_
    refine And.intro (Nat.le_of_ble_eq_true rfl) (And.intro O ?_)
    refine Cl.mono H (fun r M3 h => ?_)
    obtain ⟨v4, rfl, H⟩ := h
    obtain ⟨⟨O, Pa1⟩, H⟩ := H
    exact ⟨fun h => absurd h (by decide), _, rfl, H⟩

theorem c_X5_meetsLater {G : GT} {d : Nat} {M : Mem} {o : Nat} (O : mK M o = 6) {a1 : Nat} (Pa1 : mK M a1 = 6)  {Q : Int32 → Mem → Prop} (H : (¬ (vi M o 0) = 0 → (¬ (vi M o 0) = (4 : Int32) → ((vi M o 0) = (5 : Int32) → Q (0 : Int32) M) ∧ (¬ (vi M o 0) = (5 : Int32) → CI G d 53 [.ref o, .ref a1] M (fun v2 M1 => (mK M1 o = 6 ∧ mK M1 a1 = 6) ∧ ((¬ v2 = 0 → (¬ (vi M1 a1 0) = (5 : Int32) → (¬ (vi M1 o 0) = (1 : Int32) → (¬ (vi M1 o 0) = (2 : Int32) → Q (0 : Int32) M1) ∧ ((vi M1 o 0) = (2 : Int32) → (¬ (vi M1 a1 0) = (3 : Int32) → Q (0 : Int32) M1) ∧ ((vi M1 a1 0) = (3 : Int32) → Q (2 : Int32) M1))) ∧ ((vi M1 o 0) = (1 : Int32) → ((vi M1 a1 0) = (2 : Int32) → Q (1 : Int32) M1) ∧ (¬ (vi M1 a1 0) = (2 : Int32) → (¬ (vi M1 a1 0) = (3 : Int32) → (¬ (vi M1 o 0) = (2 : Int32) → Q (0 : Int32) M1) ∧ ((vi M1 o 0) = (2 : Int32) → (¬ (vi M1 a1 0) = (3 : Int32) → Q (0 : Int32) M1) ∧ ((vi M1 a1 0) = (3 : Int32) → Q (2 : Int32) M1))) ∧ ((vi M1 a1 0) = (3 : Int32) → Q (1 : Int32) M1)))) ∧ ((vi M1 a1 0) = (5 : Int32) → Q (5 : Int32) M1)) ∧ (v2 = 0 → Q (0 : Int32) M1))))) ∧ ((vi M o 0) = (4 : Int32) → (¬ (vi M a1 0) = (4 : Int32) → ((vi M o 0) = (5 : Int32) → Q (0 : Int32) M) ∧ (¬ (vi M o 0) = (5 : Int32) → CI G d 53 [.ref o, .ref a1] M (fun v4 M3 => (mK M3 o = 6 ∧ mK M3 a1 = 6) ∧ ((¬ v4 = 0 → (¬ (vi M3 a1 0) = (5 : Int32) → (¬ (vi M3 o 0) = (1 : Int32) → (¬ (vi M3 o 0) = (2 : Int32) → Q (0 : Int32) M3) ∧ ((vi M3 o 0) = (2 : Int32) → (¬ (vi M3 a1 0) = (3 : Int32) → Q (0 : Int32) M3) ∧ ((vi M3 a1 0) = (3 : Int32) → Q (2 : Int32) M3))) ∧ ((vi M3 o 0) = (1 : Int32) → ((vi M3 a1 0) = (2 : Int32) → Q (1 : Int32) M3) ∧ (¬ (vi M3 a1 0) = (2 : Int32) → (¬ (vi M3 a1 0) = (3 : Int32) → (¬ (vi M3 o 0) = (2 : Int32) → Q (0 : Int32) M3) ∧ ((vi M3 o 0) = (2 : Int32) → (¬ (vi M3 a1 0) = (3 : Int32) → Q (0 : Int32) M3) ∧ ((vi M3 a1 0) = (3 : Int32) → Q (2 : Int32) M3))) ∧ ((vi M3 a1 0) = (3 : Int32) → Q (1 : Int32) M3)))) ∧ ((vi M3 a1 0) = (5 : Int32) → Q (5 : Int32) M3)) ∧ (v4 = 0 → Q (0 : Int32) M3))))) ∧ ((vi M a1 0) = (4 : Int32) → CI G d 54 [.ref o, .ref a1] M (fun v6 M5 => (mK M5 o = 6 ∧ mK M5 a1 = 6) ∧ ((v6 = 0 → Q (6 : Int32) M5) ∧ (¬ v6 = 0 → Q (0 : Int32) M5)))))) ∧ ((vi M o 0) = 0 → CI G d 52 [.ref o, .ref a1] M (fun v8 M7 => (mK M7 o = 6 ∧ mK M7 a1 = 6) ∧ (Q v8 M7)))) : CI G (d + 1) 51 [.ref o, .ref a1] M Q := by
  refine Cl.ofM (Nat.le_of_ble_eq_true rfl) rfl ?_
  refine vcc ok51 0 [] ?_
  refine And.intro O ?_
  refine And.intro (fun c => ?_) (fun c => ?_)
  · replace H := H.1 c
    refine And.intro O ?_
    refine And.intro (fun c => ?_) (fun c => ?_)
    · replace H := H.1 c
      refine And.intro O ?_
      refine And.intro (fun c => ?_) (fun c => ?_)
      · replace H := H.1 c
        exact ⟨fun h => absurd h (by decide), _, rfl, H⟩
      · replace H := H.2 c
        refine And.intro (Nat.le_of_ble_eq_true rfl) ?_
        refine And.intro (Nat.le_of_ble_eq_true rfl) (And.intro O ?_)
        refine Cl.mono H (fun r M1 h => ?_)
        obtain ⟨v2, rfl, H⟩ := h
        obtain ⟨⟨O, Pa1⟩, H⟩ := H
        refine And.intro (fun c => ?_) (fun c => ?_)
        · replace H := H.1 c
          refine And.intro Pa1 ?_
          refine And.intro (fun c => ?_) (fun c => ?_)
          · replace H := H.1 c
            refine And.intro O ?_
            refine And.intro (fun c => ?_) (fun c => ?_)
            · replace H := H.1 c
              refine And.intro O ?_
              refine And.intro (fun c => ?_) (fun c => ?_)
              · replace H := H.1 c
                exact ⟨fun h => absurd h (by decide), _, rfl, H⟩
              · replace H := H.2 c
                refine And.intro Pa1 ?_
                refine And.intro (fun c => ?_) (fun c => ?_)
                · replace H := H.1 c
                  exact ⟨fun h => absurd h (by decide), _, rfl, H⟩
                · replace H := H.2 c
                  exact ⟨fun h => absurd h (by decide), _, rfl, H⟩
            · replace H := H.2 c
              refine And.intro Pa1 ?_
              refine And.intro (fun c => ?_) (fun c => ?_)
              · replace H := H.1 c
                exact ⟨fun h => absurd h (by decide), _, rfl, H⟩
              · replace H := H.2 c
                refine And.intro Pa1 ?_
                refine And.intro (fun c => ?_) (fun c => ?_)
                · replace H := H.1 c
                  refine And.intro O ?_
                  refine And.intro (fun c => ?_) (fun c => ?_)
                  · replace H := H.1 c
                    exact ⟨fun h => absurd h (by decide), _, rfl, H⟩
                  · replace H := H.2 c
                    refine And.intro Pa1 ?_
                    refine And.intro (fun c => ?_) (fun c => ?_)
                    · replace H := H.1 c
                      exact ⟨fun h => absurd h (by decide), _, rfl, H⟩
                    · replace H := H.2 c
                      exact ⟨fun h => absurd h (by decide), _, rfl, H⟩
                · replace H := H.2 c
                  exact ⟨fun h => absurd h (by decide), _, rfl, H⟩
          · replace H := H.2 c
            exact ⟨fun h => absurd h (by decide), _, rfl, H⟩
        · replace H := H.2 c
          exact ⟨fun h => absurd h (by decide), _, rfl, H⟩
    · replace H := H.2 c
      refine And.intro Pa1 ?_
      refine And.intro (fun c => ?_) (fun c => ?_)
      · replace H := H.1 c
        refine And.intro O ?_
        refine And.intro (fun c => ?_) (fun c => ?_)
        · replace H := H.1 c
          exact ⟨fun h => absurd h (by decide), _, rfl, H⟩
        · replace H := H.2 c
          refine And.intro (Nat.le_of_ble_eq_true rfl) ?_
          refine And.intro (Nat.le_of_ble_eq_true rfl) (And.intro O ?_)
          refine Cl.mono H (fun r M3 h => ?_)
          obtain ⟨v4, rfl, H⟩ := h
          obtain ⟨⟨O, Pa1⟩, H⟩ := H
          refine And.intro (fun c => ?_) (fun c => ?_)
          · replace H := H.1 c
            refine And.intro Pa1 ?_
            refine And.intro (fun c => ?_) (fun c => ?_)
            · replace H := H.1 c
              refine And.intro O ?_
              refine And.intro (fun c => ?_) (fun c => ?_)
              · replace H := H.1 c
                refine And.intro O ?_
                refine And.intro (fun c => ?_) (fun c => ?_)
                · replace H := H.1 c
                  exact ⟨fun h => absurd h (by decide), _, rfl, H⟩
                · replace H := H.2 c
                  refine And.intro Pa1 ?_
                  refine And.intro (fun c => ?_) (fun c => ?_)
                  · replace H := H.1 c
                    exact ⟨fun h => absurd h (by decide), _, rfl, H⟩
                  · replace H := H.2 c
                    exact ⟨fun h => absurd h (by decide), _, rfl, H⟩
              · replace H := H.2 c
                refine And.intro Pa1 ?_
                refine And.intro (fun c => ?_) (fun c => ?_)
                · replace H := H.1 c
                  exact ⟨fun h => absurd h (by decide), _, rfl, H⟩
                · replace H := H.2 c
                  refine And.intro Pa1 ?_
                  refine And.intro (fun c => ?_) (fun c => ?_)
                  · replace H := H.1 c
                    refine And.intro O ?_
                    refine And.intro (fun c => ?_) (fun c => ?_)
                    · replace H := H.1 c
                      exact ⟨fun h => absurd h (by decide), _, rfl, H⟩
                    · replace H := H.2 c
                      refine And.intro Pa1 ?_
                      refine And.intro (fun c => ?_) (fun c => ?_)
                      · replace H := H.1 c
                        exact ⟨fun h => absurd h (by decide), _, rfl, H⟩
                      · replace H := H.2 c
                        exact ⟨fun h => absurd h (by decide), _, rfl, H⟩
                  · replace H := H.2 c
                    exact ⟨fun h => absurd h (by decide), _, rfl, H⟩
            · replace H := H.2 c
              exact ⟨fun h => absurd h (by decide), _, rfl, H⟩
          · replace H := H.2 c
            exact ⟨fun h => absurd h (by decide), _, rfl, H⟩
      · replace H := H.2 c
        refine And.intro (Nat.le_of_ble_eq_true rfl) ?_
        refine And.intro (Nat.le_of_ble_eq_true rfl) (And.intro O ?_)
        refine Cl.mono H (fun r M5 h => ?_)
        obtain ⟨v6, rfl, H⟩ := h
        obtain ⟨⟨O, Pa1⟩, H⟩ := H
        refine And.intro (fun c => ?_) (fun c => ?_)
        · replace H := H.1 c
          exact ⟨fun h => absurd h (by decide), _, rfl, H⟩
        · replace H := H.2 c
          exact ⟨fun h => absurd h (by decide), _, rfl, H⟩
  · replace H := H.2 c
    refine And.intro (Nat.le_of_ble_eq_true rfl) ?_
    refine And.intro (Nat.le_of_ble_eq_true rfl) (And.intro O ?_)
    refine Cl.mono H (fun r M7 h => ?_)
    obtain ⟨v8, rfl, H⟩ := h
    obtain ⟨⟨O, Pa1⟩, H⟩ := H
    exact ⟨fun h => absurd h (by decide), _, rfl, H⟩

theorem c_X5_insMeets {G : GT} {d : Nat} {M : Mem} {o : Nat} (O : mK M o = 6) {a1 : Nat} (Pa1 : mK M a1 = 6)  {Q : Int32 → Mem → Prop} (H : (¬ (vi M a1 0) = 0 → ((vi M o 1) ≤ (vi M a1 1) → Q (0 : Int32) M) ∧ (¬ (vi M o 1) ≤ (vi M a1 1) → ((vi M o 1) < (vi M a1 2) → (¬ (vi M a1 0) = (1 : Int32) → (¬ (vi M a1 0) = (5 : Int32) → Q (0 : Int32) M) ∧ ((vi M a1 0) = (5 : Int32) → Q (5 : Int32) M)) ∧ ((vi M a1 0) = (1 : Int32) → Q (4 : Int32) M)) ∧ (¬ (vi M o 1) < (vi M a1 2) → Q (0 : Int32) M))) ∧ ((vi M a1 0) = 0 → (¬ (vi M o 1) = (vi M a1 1) → Q (0 : Int32) M) ∧ ((vi M o 1) = (vi M a1 1) → CI G d 49 [.ref o, .ref a1] M (fun v2 M1 => (mK M1 o = 6 ∧ mK M1 a1 = 6) ∧ ((¬ v2 = 0 → Q (0 : Int32) M1) ∧ (v2 = 0 → Q (3 : Int32) M1)))))) : CI G (d + 1) 52 [.ref o, .ref a1] M Q := by
  refine Cl.ofM (Nat.le_of_ble_eq_true rfl) rfl ?_
  refine vcc ok52 0 [] ?_
  refine And.intro Pa1 ?_
  refine And.intro (fun c => ?_) (fun c => ?_)
  · replace H := H.1 c
    refine And.intro O ?_
    refine And.intro Pa1 ?_
    refine And.intro (fun c => ?_) (fun c => ?_)
    · replace H := H.1 c
      exact ⟨fun h => absurd h (by decide), _, rfl, H⟩
    · replace H := H.2 c
      refine And.intro O ?_
      refine And.intro Pa1 ?_
      refine And.intro (fun c => ?_) (fun c => ?_)
      · replace H := H.1 c
        refine And.intro Pa1 ?_
        refine And.intro (fun c => ?_) (fun c => ?_)
        · replace H := H.1 c
          refine And.intro Pa1 ?_
          refine And.intro (fun c => ?_) (fun c => ?_)
          · replace H := H.1 c
            exact ⟨fun h => absurd h (by decide), _, rfl, H⟩
          · replace H := H.2 c
            exact ⟨fun h => absurd h (by decide), _, rfl, H⟩
        · replace H := H.2 c
          exact ⟨fun h => absurd h (by decide), _, rfl, H⟩
      · replace H := H.2 c
        exact ⟨fun h => absurd h (by decide), _, rfl, H⟩
  · replace H := H.2 c
    refine And.intro O ?_
    refine And.intro Pa1 ?_
    refine And.intro (fun c => ?_) (fun c => ?_)
    · replace H := H.1 c
      exact ⟨fun h => absurd h (by decide), _, rfl, H⟩
    · replace H := H.2 c
      refine And.intro (Nat.le_of_ble_eq_true rfl) ?_
      refine And.intro (Nat.le_of_ble_eq_true rfl) (And.intro O ?_)
      refine Cl.mono H (fun r M1 h => ?_)
      obtain ⟨v2, rfl, H⟩ := h
      obtain ⟨⟨O, Pa1⟩, H⟩ := H
      refine And.intro (fun c => ?_) (fun c => ?_)
      · replace H := H.1 c
        exact ⟨fun h => absurd h (by decide), _, rfl, H⟩
      · replace H := H.2 c
        exact ⟨fun h => absurd h (by decide), _, rfl, H⟩

theorem c_X5_sharesByte {G : GT} {d : Nat} {M : Mem} {o : Nat} (O : mK M o = 6) {a1 : Nat} (Pa1 : mK M a1 = 6)  {Q : Int32 → Mem → Prop} (H : ((vi M a1 2) ≤ (vi M o 1) → ((0 : Int32) = 0 ∨ (0 : Int32) = 1) ∧ Q (0 : Int32) M) ∧ (¬ (vi M a1 2) ≤ (vi M o 1) → ((vi M o 2) ≤ (vi M a1 1) → ((0 : Int32) = 0 ∨ (0 : Int32) = 1) ∧ Q (0 : Int32) M) ∧ (¬ (vi M o 2) ≤ (vi M a1 1) → ((1 : Int32) = 0 ∨ (1 : Int32) = 1) ∧ Q (1 : Int32) M))) : CI G (d + 1) 53 [.ref o, .ref a1] M Q := by
  refine Cl.ofM (Nat.le_of_ble_eq_true rfl) rfl ?_
  refine vcc ok53 0 [] ?_
  refine And.intro O ?_
  refine And.intro Pa1 ?_
  refine And.intro (fun c => ?_) (fun c => ?_)
  · replace H := H.1 c
    exact ⟨fun _ => H.1, _, rfl, H.2⟩
  · replace H := H.2 c
    refine And.intro Pa1 ?_
    refine And.intro O ?_
    refine And.intro (fun c => ?_) (fun c => ?_)
    · replace H := H.1 c
      exact ⟨fun _ => H.1, _, rfl, H.2⟩
    · replace H := H.2 c
      exact ⟨fun _ => H.1, _, rfl, H.2⟩

theorem c_X5_movesFit {G : GT} {d : Nat} {M : Mem} {o : Nat} (O : mK M o = 6) {a1 : Nat} (Pa1 : mK M a1 = 6)  {Q : Int32 → Mem → Prop} (H : (¬ (vi M o 1) = (vi M a1 1) → At G (d + 1) 54 35 [(0, .ref o), (1, .ref a1)] [] M (qI Q)) ∧ ((vi M o 1) = (vi M a1 1) → (¬ (vi M o 2) = (vi M a1 2) → At G (d + 1) 54 35 [(0, .ref o), (1, .ref a1)] [] M (qI Q)) ∧ ((vi M o 2) = (vi M a1 2) → (¬ (vi M o 3) = (vi M a1 3) → At G (d + 1) 54 35 [(0, .ref o), (1, .ref a1)] [] M (qI Q)) ∧ ((vi M o 3) = (vi M a1 3) → ((1 : Int32) = 0 ∨ (1 : Int32) = 1) ∧ Q (1 : Int32) M)))) : CI G (d + 1) 54 [.ref o, .ref a1] M Q := by
  refine Cl.ofM (Nat.le_of_ble_eq_true rfl) rfl ?_
  refine vcc ok54 0 [35, 68, 70, 130, 135] ?_
  refine And.intro O ?_
  refine And.intro Pa1 ?_
  refine And.intro (fun c => ?_) (fun c => ?_)
  · replace H := H.1 c
    exact H
  · replace H := H.2 c
    refine And.intro O ?_
    refine And.intro Pa1 ?_
    refine And.intro (fun c => ?_) (fun c => ?_)
    · replace H := H.1 c
      exact H
    · replace H := H.2 c
      refine And.intro O ?_
      refine And.intro Pa1 ?_
      refine And.intro (fun c => ?_) (fun c => ?_)
      · replace H := H.1 c
        exact H
      · replace H := H.2 c
        exact ⟨fun _ => H.1, _, rfl, H.2⟩

theorem c_X5_movesFit_35 {G : GT} {d : Nat} {M : Mem} {o : Nat} (O : mK M o = 6) {a1 : Nat} (Pa1 : mK M a1 = 6)  {Q : Int32 → Mem → Prop} (H : ((vi M o 3) = (vi M a1 3) → At G (d + 1) 54 70 [(0, .ref o), (1, .ref a1)] [] M (qI Q)) ∧ (¬ (vi M o 3) = (vi M a1 3) → ((vi M o 7) ≤ (vi M a1 6) → At G (d + 1) 54 68 [] [] M (qI Q)) ∧ (¬ (vi M o 7) ≤ (vi M a1 6) → ((vi M o 6) < (vi M a1 7) → At G (d + 1) 54 70 [(0, .ref o), (1, .ref a1)] [] M (qI Q)) ∧ (¬ (vi M o 6) < (vi M a1 7) → At G (d + 1) 54 68 [] [] M (qI Q))))) : At G (d + 1) 54 35 [(0, .ref o), (1, .ref a1)] [] M (qI Q) := by
  refine vcc ok54 17 [68, 70, 130, 135] ?_
  refine And.intro O ?_
  refine And.intro Pa1 ?_
  refine And.intro (fun c => ?_) (fun c => ?_)
  · replace H := H.1 c
    exact H
  · replace H := H.2 c
    refine And.intro O ?_
    refine And.intro Pa1 ?_
    refine And.intro (fun c => ?_) (fun c => ?_)
    · replace H := H.1 c
      exact At.keep [] H
    · replace H := H.2 c
      refine And.intro Pa1 ?_
      refine And.intro O ?_
      refine And.intro (fun c => ?_) (fun c => ?_)
      · replace H := H.1 c
        exact H
      · replace H := H.2 c
        exact At.keep [] H

theorem c_X5_movesFit_68 {G : GT} {d : Nat} {M : Mem} {o : Nat} (O : mK M o = 6) {a1 : Nat} (Pa1 : mK M a1 = 6)  {Q : Int32 → Mem → Prop} (H : ((1 : Int32) = 0 ∨ (1 : Int32) = 1) ∧ Q (1 : Int32) M) : At G (d + 1) 54 68 [] [] M (qI Q) := by
  refine vcc ok54 32 [35, 70, 130, 135] ?_
  exact ⟨fun _ => H.1, _, rfl, H.2⟩

theorem c_X5_movesFit_70 {G : GT} {d : Nat} {M : Mem} {o : Nat} (O : mK M o = 6) {a1 : Nat} (Pa1 : mK M a1 = 6)  {Q : Int32 → Mem → Prop} (H : CI G d 55 [.ref o, .int (vi M a1 1), .int (vi M a1 2)] M (fun v2 M1 => (mK M1 o = 6 ∧ mK M1 a1 = 6) ∧ ((¬ v2 = 0 → At G (d + 1) 54 130 [] [] M1 (qI Q)) ∧ (v2 = 0 → CI G d 56 [.ref a1] M1 (fun v4 M3 => (mK M3 o = 6 ∧ mK M3 a1 = 6) ∧ (CI G d 57 [.ref a1] M3 (fun v6 M5 => (mK M5 o = 6 ∧ mK M5 a1 = 6) ∧ (CI G d 55 [.ref o, .int v4, .int v6] M5 (fun v8 M7 => (mK M7 o = 6 ∧ mK M7 a1 = 6) ∧ ((¬ v8 = 0 → At G (d + 1) 54 130 [] [] M7 (qI Q)) ∧ (v8 = 0 → CI G d 55 [.ref a1, .int (vi M7 o 1), .int (vi M7 o 2)] M7 (fun v10 M9 => (mK M9 o = 6 ∧ mK M9 a1 = 6) ∧ ((¬ v10 = 0 → At G (d + 1) 54 130 [] [] M9 (qI Q)) ∧ (v10 = 0 → CI G d 56 [.ref o] M9 (fun v12 M11 => (mK M11 o = 6 ∧ mK M11 a1 = 6) ∧ (CI G d 57 [.ref o] M11 (fun v14 M13 => (mK M13 o = 6 ∧ mK M13 a1 = 6) ∧ (CI G d 55 [.ref a1, .int v12, .int v14] M13 (fun v16 M15 => (mK M15 o = 6 ∧ mK M15 a1 = 6) ∧ ((v16 = 0 → At G (d + 1) 54 135 [] [.int (0 : Int32)] M15 (qI Q)) ∧ (¬ v16 = 0 → At G (d + 1) 54 130 [] [] M15 (qI Q)))))))))))))))))))))) : At G (d + 1) 54 70 [(0, .ref o), (1, .ref a1)] [] M (qI Q) := by
  refine vcc ok54 34 [35, 68, 130, 135] ?_
  refine And.intro Pa1 ?_
  refine And.intro Pa1 ?_
  refine And.intro (Nat.le_of_ble_eq_true rfl) ?_
  refine And.intro (Nat.le_of_ble_eq_true rfl) (And.intro O ?_)
  refine Cl.mono H (fun r M1 h => ?_)
  obtain ⟨v2, rfl, H⟩ := h
  obtain ⟨⟨O, Pa1⟩, H⟩ := H
  refine And.intro (fun c => ?_) (fun c => ?_)
  · replace H := H.1 c
    exact At.keep [] H
  · replace H := H.2 c
    refine And.intro (Nat.le_of_ble_eq_true rfl) ?_
    refine And.intro (Nat.le_of_ble_eq_true rfl) (And.intro Pa1 ?_)
    refine Cl.mono H (fun r M3 h => ?_)
    obtain ⟨v4, rfl, H⟩ := h
    obtain ⟨⟨O, Pa1⟩, H⟩ := H
    refine And.intro (Nat.le_of_ble_eq_true rfl) ?_
    refine And.intro (Nat.le_of_ble_eq_true rfl) (And.intro Pa1 ?_)
    refine Cl.mono H (fun r M5 h => ?_)
    obtain ⟨v6, rfl, H⟩ := h
    obtain ⟨⟨O, Pa1⟩, H⟩ := H
    refine And.intro (Nat.le_of_ble_eq_true rfl) ?_
    refine And.intro (Nat.le_of_ble_eq_true rfl) (And.intro O ?_)
    refine Cl.mono H (fun r M7 h => ?_)
    obtain ⟨v8, rfl, H⟩ := h
    obtain ⟨⟨O, Pa1⟩, H⟩ := H
    refine And.intro (fun c => ?_) (fun c => ?_)
    · replace H := H.1 c
      exact At.keep [] H
    · replace H := H.2 c
      refine And.intro O ?_
      refine And.intro O ?_
      refine And.intro (Nat.le_of_ble_eq_true rfl) ?_
      refine And.intro (Nat.le_of_ble_eq_true rfl) (And.intro Pa1 ?_)
      refine Cl.mono H (fun r M9 h => ?_)
      obtain ⟨v10, rfl, H⟩ := h
      obtain ⟨⟨O, Pa1⟩, H⟩ := H
      refine And.intro (fun c => ?_) (fun c => ?_)
      · replace H := H.1 c
        exact At.keep [] H
      · replace H := H.2 c
        refine And.intro (Nat.le_of_ble_eq_true rfl) ?_
        refine And.intro (Nat.le_of_ble_eq_true rfl) (And.intro O ?_)
        refine Cl.mono H (fun r M11 h => ?_)
        obtain ⟨v12, rfl, H⟩ := h
        obtain ⟨⟨O, Pa1⟩, H⟩ := H
        refine And.intro (Nat.le_of_ble_eq_true rfl) ?_
        refine And.intro (Nat.le_of_ble_eq_true rfl) (And.intro O ?_)
        refine Cl.mono H (fun r M13 h => ?_)
        obtain ⟨v14, rfl, H⟩ := h
        obtain ⟨⟨O, Pa1⟩, H⟩ := H
        refine And.intro (Nat.le_of_ble_eq_true rfl) ?_
        refine And.intro (Nat.le_of_ble_eq_true rfl) (And.intro Pa1 ?_)
        refine Cl.mono H (fun r M15 h => ?_)
        obtain ⟨v16, rfl, H⟩ := h
        obtain ⟨⟨O, Pa1⟩, H⟩ := H
        refine And.intro (fun c => ?_) (fun c => ?_)
        · replace H := H.1 c
          exact At.keep [] H
        · replace H := H.2 c
          exact At.keep [] H

theorem c_X5_movesFit_130 {G : GT} {d : Nat} {M : Mem} {o : Nat} (O : mK M o = 6) {a1 : Nat} (Pa1 : mK M a1 = 6)  {Q : Int32 → Mem → Prop} (H : At G (d + 1) 54 135 [] [.int (1 : Int32)] M (qI Q)) : At G (d + 1) 54 130 [] [] M (qI Q) := by
  refine vcc ok54 62 [35, 68, 70, 135] ?_
  exact H

theorem c_X5_movesFit_135 {G : GT} {d : Nat} {M : Mem} {o : Nat} (O : mK M o = 6) {a1 : Nat} (Pa1 : mK M a1 = 6) {t0 : Int32} {Q : Int32 → Mem → Prop} (H : (t0 = 0 ∨ t0 = 1) ∧ Q t0 M) : At G (d + 1) 54 135 [] [.int t0] M (qI Q) := by
  refine vcc ok54 65 [35, 68, 70, 130] ?_
  exact ⟨fun _ => H.1, _, rfl, H.2⟩

theorem c_X5_liesIn {G : GT} {d : Nat} {M : Mem} {o : Nat} (O : mK M o = 6) {a1 : Int32} {a2 : Int32} {Q : Int32 → Mem → Prop} (H : ((vi M o 6) < a1 → ((0 : Int32) = 0 ∨ (0 : Int32) = 1) ∧ Q (0 : Int32) M) ∧ (¬ (vi M o 6) < a1 → (a2 < (vi M o 7) → ((0 : Int32) = 0 ∨ (0 : Int32) = 1) ∧ Q (0 : Int32) M) ∧ (¬ a2 < (vi M o 7) → ((vi M o 3) ≤ a1 → ((0 : Int32) = 0 ∨ (0 : Int32) = 1) ∧ Q (0 : Int32) M) ∧ (¬ (vi M o 3) ≤ a1 → (a2 ≤ (vi M o 3) → ((0 : Int32) = 0 ∨ (0 : Int32) = 1) ∧ Q (0 : Int32) M) ∧ (¬ a2 ≤ (vi M o 3) → ((1 : Int32) = 0 ∨ (1 : Int32) = 1) ∧ Q (1 : Int32) M))))) : CI G (d + 1) 55 [.ref o, .int a1, .int a2] M Q := by
  refine Cl.ofM (Nat.le_of_ble_eq_true rfl) rfl ?_
  refine vcc ok55 0 [] ?_
  refine And.intro O ?_
  refine And.intro (fun c => ?_) (fun c => ?_)
  · replace H := H.1 c
    exact ⟨fun _ => H.1, _, rfl, H.2⟩
  · replace H := H.2 c
    refine And.intro O ?_
    refine And.intro (fun c => ?_) (fun c => ?_)
    · replace H := H.1 c
      exact ⟨fun _ => H.1, _, rfl, H.2⟩
    · replace H := H.2 c
      refine And.intro O ?_
      refine And.intro (fun c => ?_) (fun c => ?_)
      · replace H := H.1 c
        exact ⟨fun _ => H.1, _, rfl, H.2⟩
      · replace H := H.2 c
        refine And.intro O ?_
        refine And.intro (fun c => ?_) (fun c => ?_)
        · replace H := H.1 c
          exact ⟨fun _ => H.1, _, rfl, H.2⟩
        · replace H := H.2 c
          exact ⟨fun _ => H.1, _, rfl, H.2⟩

theorem c_X5_overFrom {G : GT} {d : Nat} {M : Mem} {o : Nat} (O : mK M o = 6)  {Q : Int32 → Mem → Prop} (H : ((vi M o 3) ≤ (vi M o 2) → Q (vi M o 3) M) ∧ (¬ (vi M o 3) ≤ (vi M o 2) → Q (vi M o 2) M)) : CI G (d + 1) 56 [.ref o] M Q := by
  refine Cl.ofM (Nat.le_of_ble_eq_true rfl) rfl ?_
  refine vcc ok56 0 [] ?_
  refine And.intro O ?_
  refine And.intro O ?_
  refine And.intro (fun c => ?_) (fun c => ?_)
  · replace H := H.1 c
    refine And.intro O ?_
    exact ⟨fun h => absurd h (by decide), _, rfl, H⟩
  · replace H := H.2 c
    refine And.intro O ?_
    exact ⟨fun h => absurd h (by decide), _, rfl, H⟩

theorem c_X5_overTo {G : GT} {d : Nat} {M : Mem} {o : Nat} (O : mK M o = 6)  {Q : Int32 → Mem → Prop} (H : ((vi M o 3) ≤ (vi M o 2) → Q (vi M o 1) M) ∧ (¬ (vi M o 3) ≤ (vi M o 2) → Q (vi M o 3) M)) : CI G (d + 1) 57 [.ref o] M Q := by
  refine Cl.ofM (Nat.le_of_ble_eq_true rfl) rfl ?_
  refine vcc ok57 0 [] ?_
  refine And.intro O ?_
  refine And.intro O ?_
  refine And.intro (fun c => ?_) (fun c => ?_)
  · replace H := H.1 c
    refine And.intro O ?_
    exact ⟨fun h => absurd h (by decide), _, rfl, H⟩
  · replace H := H.2 c
    refine And.intro O ?_
    exact ⟨fun h => absurd h (by decide), _, rfl, H⟩
