theorem c_X9_peek {G : GT} {d : Nat} {M : Mem} {o : Nat} (O : ObAt 9 M o)  {Q : Int32 → Mem → Prop} (H : ((vi M o 2) < 0 → Q (-1 : Int32) M) ∧ (¬ (vi M o 2) < 0 → ((vi M o 1) ≤ (vi M o 2) → Q (-1 : Int32) M) ∧ (¬ (vi M o 1) ≤ (vi M o 2) → vp_in (vi M o 2) 400 ∧ (Q (vi M (o + 1) ((vi M o 2)).toNatClampNeg) M)))) : CI G (d + 1) 92 [.ref o] M Q := by
  refine Cl.ofM (Nat.le_of_ble_eq_true rfl) rfl ?_
  refine vcc ok92 0 [] ?_
  refine And.intro O.1 ?_
  refine And.intro (fun c => ?_) (fun c => ?_)
  · replace H := H.1 c
    exact ⟨fun h => absurd h (by decide), _, rfl, H⟩
  · replace H := H.2 c
    refine And.intro O.1 ?_
    refine And.intro O.1 ?_
    refine And.intro (fun c => ?_) (fun c => ?_)
    · replace H := H.1 c
      exact ⟨fun h => absurd h (by decide), _, rfl, H⟩
    · replace H := H.2 c
      refine And.intro O.1 ?_
      refine Or.inl ⟨_, (ob9_r0 O), ?_⟩
      refine And.intro O.1 ?_
      refine Or.inl ⟨(ob9_k0 O), vp_cst (ob9_l0 O) H.1, ?_⟩
      replace H := H.2
      exact ⟨fun h => absurd h (by decide), _, rfl, H⟩
