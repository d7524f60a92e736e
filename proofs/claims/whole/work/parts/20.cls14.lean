/-! THE CLASS, block by block: by program (wip/tools/clsall.py) -/
theorem c_J7_fill_53178 {G : GT} {d : Nat} {M : Mem} {a1 : Nat} {a2 : Int32} {Q : Mem → Prop} (H : (14 ≤ mK M a1 ∧ mK M a1 ≤ 21) ∧ (At G (d + 1) 272 5 [(0, .ref a1), (1, .int a2), (2, .int (0 : Int32)), (3, .int (nI (mA M a1)))] [] M (qV Q))) : CV G (d + 1) 272 [.ref a1, .int a2] M Q := by
  refine Cl.ofM (Nat.le_of_ble_eq_true rfl) rfl ?_
  refine vcc ok272 0 [5] ?_
  refine Or.inl ⟨H.1, ?_⟩
  replace H := H.2
  exact H

theorem c_J7_fill_53178_5 {G : GT} {d : Nat} {M : Mem} {a1 : Nat} {l1 : Int32} {l2 : Int32} {l3 : Int32} {Q : Mem → Prop} (H : (l3 ≤ l2 → Q M) ∧ (¬ l3 ≤ l2 → mK M a1 = 15 ∧ vp_in l2 (mA M a1) ∧ (∀ M1, M1 = seti M a1 (l2).toNatClampNeg l1 → At G (d + 1) 272 5 [(0, .ref a1), (1, .int l1), (2, .int (l2 + (1 : Int32))), (3, .int l3)] [] M1 (qV Q)))) : At G (d + 1) 272 5 [(0, .ref a1), (1, .int l1), (2, .int l2), (3, .int l3)] [] M (qV Q) := by
  refine vcc ok272 5 [] ?_
  refine And.intro (fun c => ?_) (fun c => ?_)
  · replace H := H.1 c
    exact ⟨rfl, H⟩
  · replace H := H.2 c
    refine ⟨H.1, H.2.1, ?_⟩
    replace H := H.2.2
    replace H := H _ rfl
    exact H
