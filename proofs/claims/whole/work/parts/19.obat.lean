/-! THE FIXED CELLS of the class's objects: an object at a, what it made behind it (by program wip/tools/clsall.py) -/
theorem wRef_i {o : Option Nat} {f : Value → Prop} (h1 : ∀ r, o = some r → f (.ref r)) (h2 : o = none → f .null) : wRef o f := by
  cases o with
  | none => exact Or.inr ⟨rfl, h2 rfl⟩
  | some r => exact Or.inl ⟨r, rfl, h1 r rfl⟩
theorem le_cst {x n k : Nat} (e : n = k) (h : x ≤ k) : x ≤ n := by rw [e]; exact h
def obTab (c : Nat) : List (Nat × Nat × Nat × Nat) := match c with
  | 0 => [(0, 1, 15, 400), (2, 2, 15, 401), (3, 3, 15, 401), (4, 4, 15, 200), (5, 5, 19, 201), (6, 6, 15, 64), (7, 7, 19, 12), (8, 8, 15, 12), (9, 9, 19, 12), (10, 10, 15, 12)]
  | 1 => [(3, 1, 15, 400), (4, 2, 16, 2000), (5, 3, 15, 201)]
  | 2 => [(0, 1, 15, 400), (2, 2, 15, 12), (3, 3, 15, 12), (5, 4, 16, 7), (6, 5, 16, 64)]
  | 3 => []
  | 4 => [(1, 1, 15, 400), (2, 2, 15, 400), (3, 3, 15, 400), (5, 4, 15, 400)]
  | 5 => []
  | 6 => [(0, 1, 19, 16), (2, 2, 15, 20)]
  | 7 => [(5, 1, 15, 5025), (6, 2, 15, 201), (7, 3, 15, 201), (8, 4, 15, 201)]
  | 8 => [(0, 1, 15, 200), (2, 2, 15, 200), (4, 3, 15, 4), (5, 4, 15, 4), (7, 5, 19, 64), (8, 6, 15, 7), (9, 7, 15, 64), (10, 8, 16, 64)]
  | 9 => [(0, 1, 15, 400)]
  | 10 => [(0, 1, 16, 64), (1, 2, 15, 64), (2, 3, 15, 400), (7, 4, 19, 64)]
  | 11 => [(0, 1, 10, 0), (1, 3, 9, 0), (2, 12, 20, 4), (3, 13, 18, 4), (4, 14, 21, 4), (5, 15, 7, 0), (6, 18, 4, 0), (7, 25, 1, 0), (8, 36, 5, 0), (9, 41, 5, 0), (10, 46, 2, 0), (11, 50, 8, 0)]
  | _ => []
def ObAt (c : Nat) (M : Mem) (a : Nat) : Prop := mK M a = c + 1 ∧ ∀ q ∈ obTab c, vr M a q.1 = some (a + q.2.1) ∧ mK M (a + q.2.1) = q.2.2.1 ∧ (14 ≤ q.2.2.1 → mA M (a + q.2.1) = q.2.2.2)
theorem ob0_r0 {M : Mem} {a : Nat} (R : ObAt 0 M a) : vr M a 0 = some (a + 1) := (R.2 (0, 1, 15, 400) (List.mem_of_getElem? (i := 0) rfl)).1
theorem ob0_k0 {M : Mem} {a : Nat} (R : ObAt 0 M a) : mK M (a + 1) = 15 := (R.2 (0, 1, 15, 400) (List.mem_of_getElem? (i := 0) rfl)).2.1
theorem ob0_l0 {M : Mem} {a : Nat} (R : ObAt 0 M a) : mA M (a + 1) = 400 := (R.2 (0, 1, 15, 400) (List.mem_of_getElem? (i := 0) rfl)).2.2 (by decide)
theorem ob0_r2 {M : Mem} {a : Nat} (R : ObAt 0 M a) : vr M a 2 = some (a + 2) := (R.2 (2, 2, 15, 401) (List.mem_of_getElem? (i := 1) rfl)).1
theorem ob0_k2 {M : Mem} {a : Nat} (R : ObAt 0 M a) : mK M (a + 2) = 15 := (R.2 (2, 2, 15, 401) (List.mem_of_getElem? (i := 1) rfl)).2.1
theorem ob0_l2 {M : Mem} {a : Nat} (R : ObAt 0 M a) : mA M (a + 2) = 401 := (R.2 (2, 2, 15, 401) (List.mem_of_getElem? (i := 1) rfl)).2.2 (by decide)
theorem ob0_r3 {M : Mem} {a : Nat} (R : ObAt 0 M a) : vr M a 3 = some (a + 3) := (R.2 (3, 3, 15, 401) (List.mem_of_getElem? (i := 2) rfl)).1
theorem ob0_k3 {M : Mem} {a : Nat} (R : ObAt 0 M a) : mK M (a + 3) = 15 := (R.2 (3, 3, 15, 401) (List.mem_of_getElem? (i := 2) rfl)).2.1
theorem ob0_l3 {M : Mem} {a : Nat} (R : ObAt 0 M a) : mA M (a + 3) = 401 := (R.2 (3, 3, 15, 401) (List.mem_of_getElem? (i := 2) rfl)).2.2 (by decide)
theorem ob0_r4 {M : Mem} {a : Nat} (R : ObAt 0 M a) : vr M a 4 = some (a + 4) := (R.2 (4, 4, 15, 200) (List.mem_of_getElem? (i := 3) rfl)).1
theorem ob0_k4 {M : Mem} {a : Nat} (R : ObAt 0 M a) : mK M (a + 4) = 15 := (R.2 (4, 4, 15, 200) (List.mem_of_getElem? (i := 3) rfl)).2.1
theorem ob0_l4 {M : Mem} {a : Nat} (R : ObAt 0 M a) : mA M (a + 4) = 200 := (R.2 (4, 4, 15, 200) (List.mem_of_getElem? (i := 3) rfl)).2.2 (by decide)
theorem ob0_r5 {M : Mem} {a : Nat} (R : ObAt 0 M a) : vr M a 5 = some (a + 5) := (R.2 (5, 5, 19, 201) (List.mem_of_getElem? (i := 4) rfl)).1
theorem ob0_k5 {M : Mem} {a : Nat} (R : ObAt 0 M a) : mK M (a + 5) = 19 := (R.2 (5, 5, 19, 201) (List.mem_of_getElem? (i := 4) rfl)).2.1
theorem ob0_l5 {M : Mem} {a : Nat} (R : ObAt 0 M a) : mA M (a + 5) = 201 := (R.2 (5, 5, 19, 201) (List.mem_of_getElem? (i := 4) rfl)).2.2 (by decide)
theorem ob0_r6 {M : Mem} {a : Nat} (R : ObAt 0 M a) : vr M a 6 = some (a + 6) := (R.2 (6, 6, 15, 64) (List.mem_of_getElem? (i := 5) rfl)).1
theorem ob0_k6 {M : Mem} {a : Nat} (R : ObAt 0 M a) : mK M (a + 6) = 15 := (R.2 (6, 6, 15, 64) (List.mem_of_getElem? (i := 5) rfl)).2.1
theorem ob0_l6 {M : Mem} {a : Nat} (R : ObAt 0 M a) : mA M (a + 6) = 64 := (R.2 (6, 6, 15, 64) (List.mem_of_getElem? (i := 5) rfl)).2.2 (by decide)
theorem ob0_r7 {M : Mem} {a : Nat} (R : ObAt 0 M a) : vr M a 7 = some (a + 7) := (R.2 (7, 7, 19, 12) (List.mem_of_getElem? (i := 6) rfl)).1
theorem ob0_k7 {M : Mem} {a : Nat} (R : ObAt 0 M a) : mK M (a + 7) = 19 := (R.2 (7, 7, 19, 12) (List.mem_of_getElem? (i := 6) rfl)).2.1
theorem ob0_l7 {M : Mem} {a : Nat} (R : ObAt 0 M a) : mA M (a + 7) = 12 := (R.2 (7, 7, 19, 12) (List.mem_of_getElem? (i := 6) rfl)).2.2 (by decide)
theorem ob0_r8 {M : Mem} {a : Nat} (R : ObAt 0 M a) : vr M a 8 = some (a + 8) := (R.2 (8, 8, 15, 12) (List.mem_of_getElem? (i := 7) rfl)).1
theorem ob0_k8 {M : Mem} {a : Nat} (R : ObAt 0 M a) : mK M (a + 8) = 15 := (R.2 (8, 8, 15, 12) (List.mem_of_getElem? (i := 7) rfl)).2.1
theorem ob0_l8 {M : Mem} {a : Nat} (R : ObAt 0 M a) : mA M (a + 8) = 12 := (R.2 (8, 8, 15, 12) (List.mem_of_getElem? (i := 7) rfl)).2.2 (by decide)
theorem ob0_r9 {M : Mem} {a : Nat} (R : ObAt 0 M a) : vr M a 9 = some (a + 9) := (R.2 (9, 9, 19, 12) (List.mem_of_getElem? (i := 8) rfl)).1
theorem ob0_k9 {M : Mem} {a : Nat} (R : ObAt 0 M a) : mK M (a + 9) = 19 := (R.2 (9, 9, 19, 12) (List.mem_of_getElem? (i := 8) rfl)).2.1
theorem ob0_l9 {M : Mem} {a : Nat} (R : ObAt 0 M a) : mA M (a + 9) = 12 := (R.2 (9, 9, 19, 12) (List.mem_of_getElem? (i := 8) rfl)).2.2 (by decide)
theorem ob0_r10 {M : Mem} {a : Nat} (R : ObAt 0 M a) : vr M a 10 = some (a + 10) := (R.2 (10, 10, 15, 12) (List.mem_of_getElem? (i := 9) rfl)).1
theorem ob0_k10 {M : Mem} {a : Nat} (R : ObAt 0 M a) : mK M (a + 10) = 15 := (R.2 (10, 10, 15, 12) (List.mem_of_getElem? (i := 9) rfl)).2.1
theorem ob0_l10 {M : Mem} {a : Nat} (R : ObAt 0 M a) : mA M (a + 10) = 12 := (R.2 (10, 10, 15, 12) (List.mem_of_getElem? (i := 9) rfl)).2.2 (by decide)
theorem ob1_r3 {M : Mem} {a : Nat} (R : ObAt 1 M a) : vr M a 3 = some (a + 1) := (R.2 (3, 1, 15, 400) (List.mem_of_getElem? (i := 0) rfl)).1
theorem ob1_k3 {M : Mem} {a : Nat} (R : ObAt 1 M a) : mK M (a + 1) = 15 := (R.2 (3, 1, 15, 400) (List.mem_of_getElem? (i := 0) rfl)).2.1
theorem ob1_l3 {M : Mem} {a : Nat} (R : ObAt 1 M a) : mA M (a + 1) = 400 := (R.2 (3, 1, 15, 400) (List.mem_of_getElem? (i := 0) rfl)).2.2 (by decide)
theorem ob1_r4 {M : Mem} {a : Nat} (R : ObAt 1 M a) : vr M a 4 = some (a + 2) := (R.2 (4, 2, 16, 2000) (List.mem_of_getElem? (i := 1) rfl)).1
theorem ob1_k4 {M : Mem} {a : Nat} (R : ObAt 1 M a) : mK M (a + 2) = 16 := (R.2 (4, 2, 16, 2000) (List.mem_of_getElem? (i := 1) rfl)).2.1
theorem ob1_l4 {M : Mem} {a : Nat} (R : ObAt 1 M a) : mA M (a + 2) = 2000 := (R.2 (4, 2, 16, 2000) (List.mem_of_getElem? (i := 1) rfl)).2.2 (by decide)
theorem ob1_r5 {M : Mem} {a : Nat} (R : ObAt 1 M a) : vr M a 5 = some (a + 3) := (R.2 (5, 3, 15, 201) (List.mem_of_getElem? (i := 2) rfl)).1
theorem ob1_k5 {M : Mem} {a : Nat} (R : ObAt 1 M a) : mK M (a + 3) = 15 := (R.2 (5, 3, 15, 201) (List.mem_of_getElem? (i := 2) rfl)).2.1
theorem ob1_l5 {M : Mem} {a : Nat} (R : ObAt 1 M a) : mA M (a + 3) = 201 := (R.2 (5, 3, 15, 201) (List.mem_of_getElem? (i := 2) rfl)).2.2 (by decide)
theorem ob2_r0 {M : Mem} {a : Nat} (R : ObAt 2 M a) : vr M a 0 = some (a + 1) := (R.2 (0, 1, 15, 400) (List.mem_of_getElem? (i := 0) rfl)).1
theorem ob2_k0 {M : Mem} {a : Nat} (R : ObAt 2 M a) : mK M (a + 1) = 15 := (R.2 (0, 1, 15, 400) (List.mem_of_getElem? (i := 0) rfl)).2.1
theorem ob2_l0 {M : Mem} {a : Nat} (R : ObAt 2 M a) : mA M (a + 1) = 400 := (R.2 (0, 1, 15, 400) (List.mem_of_getElem? (i := 0) rfl)).2.2 (by decide)
theorem ob2_r2 {M : Mem} {a : Nat} (R : ObAt 2 M a) : vr M a 2 = some (a + 2) := (R.2 (2, 2, 15, 12) (List.mem_of_getElem? (i := 1) rfl)).1
theorem ob2_k2 {M : Mem} {a : Nat} (R : ObAt 2 M a) : mK M (a + 2) = 15 := (R.2 (2, 2, 15, 12) (List.mem_of_getElem? (i := 1) rfl)).2.1
theorem ob2_l2 {M : Mem} {a : Nat} (R : ObAt 2 M a) : mA M (a + 2) = 12 := (R.2 (2, 2, 15, 12) (List.mem_of_getElem? (i := 1) rfl)).2.2 (by decide)
theorem ob2_r3 {M : Mem} {a : Nat} (R : ObAt 2 M a) : vr M a 3 = some (a + 3) := (R.2 (3, 3, 15, 12) (List.mem_of_getElem? (i := 2) rfl)).1
theorem ob2_k3 {M : Mem} {a : Nat} (R : ObAt 2 M a) : mK M (a + 3) = 15 := (R.2 (3, 3, 15, 12) (List.mem_of_getElem? (i := 2) rfl)).2.1
theorem ob2_l3 {M : Mem} {a : Nat} (R : ObAt 2 M a) : mA M (a + 3) = 12 := (R.2 (3, 3, 15, 12) (List.mem_of_getElem? (i := 2) rfl)).2.2 (by decide)
theorem ob2_r5 {M : Mem} {a : Nat} (R : ObAt 2 M a) : vr M a 5 = some (a + 4) := (R.2 (5, 4, 16, 7) (List.mem_of_getElem? (i := 3) rfl)).1
theorem ob2_k5 {M : Mem} {a : Nat} (R : ObAt 2 M a) : mK M (a + 4) = 16 := (R.2 (5, 4, 16, 7) (List.mem_of_getElem? (i := 3) rfl)).2.1
theorem ob2_l5 {M : Mem} {a : Nat} (R : ObAt 2 M a) : mA M (a + 4) = 7 := (R.2 (5, 4, 16, 7) (List.mem_of_getElem? (i := 3) rfl)).2.2 (by decide)
theorem ob2_r6 {M : Mem} {a : Nat} (R : ObAt 2 M a) : vr M a 6 = some (a + 5) := (R.2 (6, 5, 16, 64) (List.mem_of_getElem? (i := 4) rfl)).1
theorem ob2_k6 {M : Mem} {a : Nat} (R : ObAt 2 M a) : mK M (a + 5) = 16 := (R.2 (6, 5, 16, 64) (List.mem_of_getElem? (i := 4) rfl)).2.1
theorem ob2_l6 {M : Mem} {a : Nat} (R : ObAt 2 M a) : mA M (a + 5) = 64 := (R.2 (6, 5, 16, 64) (List.mem_of_getElem? (i := 4) rfl)).2.2 (by decide)
theorem ob4_r1 {M : Mem} {a : Nat} (R : ObAt 4 M a) : vr M a 1 = some (a + 1) := (R.2 (1, 1, 15, 400) (List.mem_of_getElem? (i := 0) rfl)).1
theorem ob4_k1 {M : Mem} {a : Nat} (R : ObAt 4 M a) : mK M (a + 1) = 15 := (R.2 (1, 1, 15, 400) (List.mem_of_getElem? (i := 0) rfl)).2.1
theorem ob4_l1 {M : Mem} {a : Nat} (R : ObAt 4 M a) : mA M (a + 1) = 400 := (R.2 (1, 1, 15, 400) (List.mem_of_getElem? (i := 0) rfl)).2.2 (by decide)
theorem ob4_r2 {M : Mem} {a : Nat} (R : ObAt 4 M a) : vr M a 2 = some (a + 2) := (R.2 (2, 2, 15, 400) (List.mem_of_getElem? (i := 1) rfl)).1
theorem ob4_k2 {M : Mem} {a : Nat} (R : ObAt 4 M a) : mK M (a + 2) = 15 := (R.2 (2, 2, 15, 400) (List.mem_of_getElem? (i := 1) rfl)).2.1
theorem ob4_l2 {M : Mem} {a : Nat} (R : ObAt 4 M a) : mA M (a + 2) = 400 := (R.2 (2, 2, 15, 400) (List.mem_of_getElem? (i := 1) rfl)).2.2 (by decide)
theorem ob4_r3 {M : Mem} {a : Nat} (R : ObAt 4 M a) : vr M a 3 = some (a + 3) := (R.2 (3, 3, 15, 400) (List.mem_of_getElem? (i := 2) rfl)).1
theorem ob4_k3 {M : Mem} {a : Nat} (R : ObAt 4 M a) : mK M (a + 3) = 15 := (R.2 (3, 3, 15, 400) (List.mem_of_getElem? (i := 2) rfl)).2.1
theorem ob4_l3 {M : Mem} {a : Nat} (R : ObAt 4 M a) : mA M (a + 3) = 400 := (R.2 (3, 3, 15, 400) (List.mem_of_getElem? (i := 2) rfl)).2.2 (by decide)
theorem ob4_r5 {M : Mem} {a : Nat} (R : ObAt 4 M a) : vr M a 5 = some (a + 4) := (R.2 (5, 4, 15, 400) (List.mem_of_getElem? (i := 3) rfl)).1
theorem ob4_k5 {M : Mem} {a : Nat} (R : ObAt 4 M a) : mK M (a + 4) = 15 := (R.2 (5, 4, 15, 400) (List.mem_of_getElem? (i := 3) rfl)).2.1
theorem ob4_l5 {M : Mem} {a : Nat} (R : ObAt 4 M a) : mA M (a + 4) = 400 := (R.2 (5, 4, 15, 400) (List.mem_of_getElem? (i := 3) rfl)).2.2 (by decide)
theorem ob6_r0 {M : Mem} {a : Nat} (R : ObAt 6 M a) : vr M a 0 = some (a + 1) := (R.2 (0, 1, 19, 16) (List.mem_of_getElem? (i := 0) rfl)).1
theorem ob6_k0 {M : Mem} {a : Nat} (R : ObAt 6 M a) : mK M (a + 1) = 19 := (R.2 (0, 1, 19, 16) (List.mem_of_getElem? (i := 0) rfl)).2.1
theorem ob6_l0 {M : Mem} {a : Nat} (R : ObAt 6 M a) : mA M (a + 1) = 16 := (R.2 (0, 1, 19, 16) (List.mem_of_getElem? (i := 0) rfl)).2.2 (by decide)
theorem ob6_r2 {M : Mem} {a : Nat} (R : ObAt 6 M a) : vr M a 2 = some (a + 2) := (R.2 (2, 2, 15, 20) (List.mem_of_getElem? (i := 1) rfl)).1
theorem ob6_k2 {M : Mem} {a : Nat} (R : ObAt 6 M a) : mK M (a + 2) = 15 := (R.2 (2, 2, 15, 20) (List.mem_of_getElem? (i := 1) rfl)).2.1
theorem ob6_l2 {M : Mem} {a : Nat} (R : ObAt 6 M a) : mA M (a + 2) = 20 := (R.2 (2, 2, 15, 20) (List.mem_of_getElem? (i := 1) rfl)).2.2 (by decide)
theorem ob7_r5 {M : Mem} {a : Nat} (R : ObAt 7 M a) : vr M a 5 = some (a + 1) := (R.2 (5, 1, 15, 5025) (List.mem_of_getElem? (i := 0) rfl)).1
theorem ob7_k5 {M : Mem} {a : Nat} (R : ObAt 7 M a) : mK M (a + 1) = 15 := (R.2 (5, 1, 15, 5025) (List.mem_of_getElem? (i := 0) rfl)).2.1
theorem ob7_l5 {M : Mem} {a : Nat} (R : ObAt 7 M a) : mA M (a + 1) = 5025 := (R.2 (5, 1, 15, 5025) (List.mem_of_getElem? (i := 0) rfl)).2.2 (by decide)
theorem ob7_r6 {M : Mem} {a : Nat} (R : ObAt 7 M a) : vr M a 6 = some (a + 2) := (R.2 (6, 2, 15, 201) (List.mem_of_getElem? (i := 1) rfl)).1
theorem ob7_k6 {M : Mem} {a : Nat} (R : ObAt 7 M a) : mK M (a + 2) = 15 := (R.2 (6, 2, 15, 201) (List.mem_of_getElem? (i := 1) rfl)).2.1
theorem ob7_l6 {M : Mem} {a : Nat} (R : ObAt 7 M a) : mA M (a + 2) = 201 := (R.2 (6, 2, 15, 201) (List.mem_of_getElem? (i := 1) rfl)).2.2 (by decide)
theorem ob7_r7 {M : Mem} {a : Nat} (R : ObAt 7 M a) : vr M a 7 = some (a + 3) := (R.2 (7, 3, 15, 201) (List.mem_of_getElem? (i := 2) rfl)).1
theorem ob7_k7 {M : Mem} {a : Nat} (R : ObAt 7 M a) : mK M (a + 3) = 15 := (R.2 (7, 3, 15, 201) (List.mem_of_getElem? (i := 2) rfl)).2.1
theorem ob7_l7 {M : Mem} {a : Nat} (R : ObAt 7 M a) : mA M (a + 3) = 201 := (R.2 (7, 3, 15, 201) (List.mem_of_getElem? (i := 2) rfl)).2.2 (by decide)
theorem ob7_r8 {M : Mem} {a : Nat} (R : ObAt 7 M a) : vr M a 8 = some (a + 4) := (R.2 (8, 4, 15, 201) (List.mem_of_getElem? (i := 3) rfl)).1
theorem ob7_k8 {M : Mem} {a : Nat} (R : ObAt 7 M a) : mK M (a + 4) = 15 := (R.2 (8, 4, 15, 201) (List.mem_of_getElem? (i := 3) rfl)).2.1
theorem ob7_l8 {M : Mem} {a : Nat} (R : ObAt 7 M a) : mA M (a + 4) = 201 := (R.2 (8, 4, 15, 201) (List.mem_of_getElem? (i := 3) rfl)).2.2 (by decide)
theorem ob8_r0 {M : Mem} {a : Nat} (R : ObAt 8 M a) : vr M a 0 = some (a + 1) := (R.2 (0, 1, 15, 200) (List.mem_of_getElem? (i := 0) rfl)).1
theorem ob8_k0 {M : Mem} {a : Nat} (R : ObAt 8 M a) : mK M (a + 1) = 15 := (R.2 (0, 1, 15, 200) (List.mem_of_getElem? (i := 0) rfl)).2.1
theorem ob8_l0 {M : Mem} {a : Nat} (R : ObAt 8 M a) : mA M (a + 1) = 200 := (R.2 (0, 1, 15, 200) (List.mem_of_getElem? (i := 0) rfl)).2.2 (by decide)
theorem ob8_r2 {M : Mem} {a : Nat} (R : ObAt 8 M a) : vr M a 2 = some (a + 2) := (R.2 (2, 2, 15, 200) (List.mem_of_getElem? (i := 1) rfl)).1
theorem ob8_k2 {M : Mem} {a : Nat} (R : ObAt 8 M a) : mK M (a + 2) = 15 := (R.2 (2, 2, 15, 200) (List.mem_of_getElem? (i := 1) rfl)).2.1
theorem ob8_l2 {M : Mem} {a : Nat} (R : ObAt 8 M a) : mA M (a + 2) = 200 := (R.2 (2, 2, 15, 200) (List.mem_of_getElem? (i := 1) rfl)).2.2 (by decide)
theorem ob8_r4 {M : Mem} {a : Nat} (R : ObAt 8 M a) : vr M a 4 = some (a + 3) := (R.2 (4, 3, 15, 4) (List.mem_of_getElem? (i := 2) rfl)).1
theorem ob8_k4 {M : Mem} {a : Nat} (R : ObAt 8 M a) : mK M (a + 3) = 15 := (R.2 (4, 3, 15, 4) (List.mem_of_getElem? (i := 2) rfl)).2.1
theorem ob8_l4 {M : Mem} {a : Nat} (R : ObAt 8 M a) : mA M (a + 3) = 4 := (R.2 (4, 3, 15, 4) (List.mem_of_getElem? (i := 2) rfl)).2.2 (by decide)
theorem ob8_r5 {M : Mem} {a : Nat} (R : ObAt 8 M a) : vr M a 5 = some (a + 4) := (R.2 (5, 4, 15, 4) (List.mem_of_getElem? (i := 3) rfl)).1
theorem ob8_k5 {M : Mem} {a : Nat} (R : ObAt 8 M a) : mK M (a + 4) = 15 := (R.2 (5, 4, 15, 4) (List.mem_of_getElem? (i := 3) rfl)).2.1
theorem ob8_l5 {M : Mem} {a : Nat} (R : ObAt 8 M a) : mA M (a + 4) = 4 := (R.2 (5, 4, 15, 4) (List.mem_of_getElem? (i := 3) rfl)).2.2 (by decide)
theorem ob8_r7 {M : Mem} {a : Nat} (R : ObAt 8 M a) : vr M a 7 = some (a + 5) := (R.2 (7, 5, 19, 64) (List.mem_of_getElem? (i := 4) rfl)).1
theorem ob8_k7 {M : Mem} {a : Nat} (R : ObAt 8 M a) : mK M (a + 5) = 19 := (R.2 (7, 5, 19, 64) (List.mem_of_getElem? (i := 4) rfl)).2.1
theorem ob8_l7 {M : Mem} {a : Nat} (R : ObAt 8 M a) : mA M (a + 5) = 64 := (R.2 (7, 5, 19, 64) (List.mem_of_getElem? (i := 4) rfl)).2.2 (by decide)
theorem ob8_r8 {M : Mem} {a : Nat} (R : ObAt 8 M a) : vr M a 8 = some (a + 6) := (R.2 (8, 6, 15, 7) (List.mem_of_getElem? (i := 5) rfl)).1
theorem ob8_k8 {M : Mem} {a : Nat} (R : ObAt 8 M a) : mK M (a + 6) = 15 := (R.2 (8, 6, 15, 7) (List.mem_of_getElem? (i := 5) rfl)).2.1
theorem ob8_l8 {M : Mem} {a : Nat} (R : ObAt 8 M a) : mA M (a + 6) = 7 := (R.2 (8, 6, 15, 7) (List.mem_of_getElem? (i := 5) rfl)).2.2 (by decide)
theorem ob8_r9 {M : Mem} {a : Nat} (R : ObAt 8 M a) : vr M a 9 = some (a + 7) := (R.2 (9, 7, 15, 64) (List.mem_of_getElem? (i := 6) rfl)).1
theorem ob8_k9 {M : Mem} {a : Nat} (R : ObAt 8 M a) : mK M (a + 7) = 15 := (R.2 (9, 7, 15, 64) (List.mem_of_getElem? (i := 6) rfl)).2.1
theorem ob8_l9 {M : Mem} {a : Nat} (R : ObAt 8 M a) : mA M (a + 7) = 64 := (R.2 (9, 7, 15, 64) (List.mem_of_getElem? (i := 6) rfl)).2.2 (by decide)
theorem ob8_r10 {M : Mem} {a : Nat} (R : ObAt 8 M a) : vr M a 10 = some (a + 8) := (R.2 (10, 8, 16, 64) (List.mem_of_getElem? (i := 7) rfl)).1
theorem ob8_k10 {M : Mem} {a : Nat} (R : ObAt 8 M a) : mK M (a + 8) = 16 := (R.2 (10, 8, 16, 64) (List.mem_of_getElem? (i := 7) rfl)).2.1
theorem ob8_l10 {M : Mem} {a : Nat} (R : ObAt 8 M a) : mA M (a + 8) = 64 := (R.2 (10, 8, 16, 64) (List.mem_of_getElem? (i := 7) rfl)).2.2 (by decide)
theorem ob9_r0 {M : Mem} {a : Nat} (R : ObAt 9 M a) : vr M a 0 = some (a + 1) := (R.2 (0, 1, 15, 400) (List.mem_of_getElem? (i := 0) rfl)).1
theorem ob9_k0 {M : Mem} {a : Nat} (R : ObAt 9 M a) : mK M (a + 1) = 15 := (R.2 (0, 1, 15, 400) (List.mem_of_getElem? (i := 0) rfl)).2.1
theorem ob9_l0 {M : Mem} {a : Nat} (R : ObAt 9 M a) : mA M (a + 1) = 400 := (R.2 (0, 1, 15, 400) (List.mem_of_getElem? (i := 0) rfl)).2.2 (by decide)
theorem ob10_r0 {M : Mem} {a : Nat} (R : ObAt 10 M a) : vr M a 0 = some (a + 1) := (R.2 (0, 1, 16, 64) (List.mem_of_getElem? (i := 0) rfl)).1
theorem ob10_k0 {M : Mem} {a : Nat} (R : ObAt 10 M a) : mK M (a + 1) = 16 := (R.2 (0, 1, 16, 64) (List.mem_of_getElem? (i := 0) rfl)).2.1
theorem ob10_l0 {M : Mem} {a : Nat} (R : ObAt 10 M a) : mA M (a + 1) = 64 := (R.2 (0, 1, 16, 64) (List.mem_of_getElem? (i := 0) rfl)).2.2 (by decide)
theorem ob10_r1 {M : Mem} {a : Nat} (R : ObAt 10 M a) : vr M a 1 = some (a + 2) := (R.2 (1, 2, 15, 64) (List.mem_of_getElem? (i := 1) rfl)).1
theorem ob10_k1 {M : Mem} {a : Nat} (R : ObAt 10 M a) : mK M (a + 2) = 15 := (R.2 (1, 2, 15, 64) (List.mem_of_getElem? (i := 1) rfl)).2.1
theorem ob10_l1 {M : Mem} {a : Nat} (R : ObAt 10 M a) : mA M (a + 2) = 64 := (R.2 (1, 2, 15, 64) (List.mem_of_getElem? (i := 1) rfl)).2.2 (by decide)
theorem ob10_r2 {M : Mem} {a : Nat} (R : ObAt 10 M a) : vr M a 2 = some (a + 3) := (R.2 (2, 3, 15, 400) (List.mem_of_getElem? (i := 2) rfl)).1
theorem ob10_k2 {M : Mem} {a : Nat} (R : ObAt 10 M a) : mK M (a + 3) = 15 := (R.2 (2, 3, 15, 400) (List.mem_of_getElem? (i := 2) rfl)).2.1
theorem ob10_l2 {M : Mem} {a : Nat} (R : ObAt 10 M a) : mA M (a + 3) = 400 := (R.2 (2, 3, 15, 400) (List.mem_of_getElem? (i := 2) rfl)).2.2 (by decide)
theorem ob10_r7 {M : Mem} {a : Nat} (R : ObAt 10 M a) : vr M a 7 = some (a + 4) := (R.2 (7, 4, 19, 64) (List.mem_of_getElem? (i := 3) rfl)).1
theorem ob10_k7 {M : Mem} {a : Nat} (R : ObAt 10 M a) : mK M (a + 4) = 19 := (R.2 (7, 4, 19, 64) (List.mem_of_getElem? (i := 3) rfl)).2.1
theorem ob10_l7 {M : Mem} {a : Nat} (R : ObAt 10 M a) : mA M (a + 4) = 64 := (R.2 (7, 4, 19, 64) (List.mem_of_getElem? (i := 3) rfl)).2.2 (by decide)
theorem ob11_r0 {M : Mem} {a : Nat} (R : ObAt 11 M a) : vr M a 0 = some (a + 1) := (R.2 (0, 1, 10, 0) (List.mem_of_getElem? (i := 0) rfl)).1
theorem ob11_k0 {M : Mem} {a : Nat} (R : ObAt 11 M a) : mK M (a + 1) = 10 := (R.2 (0, 1, 10, 0) (List.mem_of_getElem? (i := 0) rfl)).2.1
theorem ob11_r1 {M : Mem} {a : Nat} (R : ObAt 11 M a) : vr M a 1 = some (a + 3) := (R.2 (1, 3, 9, 0) (List.mem_of_getElem? (i := 1) rfl)).1
theorem ob11_k1 {M : Mem} {a : Nat} (R : ObAt 11 M a) : mK M (a + 3) = 9 := (R.2 (1, 3, 9, 0) (List.mem_of_getElem? (i := 1) rfl)).2.1
theorem ob11_r2 {M : Mem} {a : Nat} (R : ObAt 11 M a) : vr M a 2 = some (a + 12) := (R.2 (2, 12, 20, 4) (List.mem_of_getElem? (i := 2) rfl)).1
theorem ob11_k2 {M : Mem} {a : Nat} (R : ObAt 11 M a) : mK M (a + 12) = 20 := (R.2 (2, 12, 20, 4) (List.mem_of_getElem? (i := 2) rfl)).2.1
theorem ob11_l2 {M : Mem} {a : Nat} (R : ObAt 11 M a) : mA M (a + 12) = 4 := (R.2 (2, 12, 20, 4) (List.mem_of_getElem? (i := 2) rfl)).2.2 (by decide)
theorem ob11_r3 {M : Mem} {a : Nat} (R : ObAt 11 M a) : vr M a 3 = some (a + 13) := (R.2 (3, 13, 18, 4) (List.mem_of_getElem? (i := 3) rfl)).1
theorem ob11_k3 {M : Mem} {a : Nat} (R : ObAt 11 M a) : mK M (a + 13) = 18 := (R.2 (3, 13, 18, 4) (List.mem_of_getElem? (i := 3) rfl)).2.1
theorem ob11_l3 {M : Mem} {a : Nat} (R : ObAt 11 M a) : mA M (a + 13) = 4 := (R.2 (3, 13, 18, 4) (List.mem_of_getElem? (i := 3) rfl)).2.2 (by decide)
theorem ob11_r4 {M : Mem} {a : Nat} (R : ObAt 11 M a) : vr M a 4 = some (a + 14) := (R.2 (4, 14, 21, 4) (List.mem_of_getElem? (i := 4) rfl)).1
theorem ob11_k4 {M : Mem} {a : Nat} (R : ObAt 11 M a) : mK M (a + 14) = 21 := (R.2 (4, 14, 21, 4) (List.mem_of_getElem? (i := 4) rfl)).2.1
theorem ob11_l4 {M : Mem} {a : Nat} (R : ObAt 11 M a) : mA M (a + 14) = 4 := (R.2 (4, 14, 21, 4) (List.mem_of_getElem? (i := 4) rfl)).2.2 (by decide)
theorem ob11_r5 {M : Mem} {a : Nat} (R : ObAt 11 M a) : vr M a 5 = some (a + 15) := (R.2 (5, 15, 7, 0) (List.mem_of_getElem? (i := 5) rfl)).1
theorem ob11_k5 {M : Mem} {a : Nat} (R : ObAt 11 M a) : mK M (a + 15) = 7 := (R.2 (5, 15, 7, 0) (List.mem_of_getElem? (i := 5) rfl)).2.1
theorem ob11_r6 {M : Mem} {a : Nat} (R : ObAt 11 M a) : vr M a 6 = some (a + 18) := (R.2 (6, 18, 4, 0) (List.mem_of_getElem? (i := 6) rfl)).1
theorem ob11_k6 {M : Mem} {a : Nat} (R : ObAt 11 M a) : mK M (a + 18) = 4 := (R.2 (6, 18, 4, 0) (List.mem_of_getElem? (i := 6) rfl)).2.1
theorem ob11_r7 {M : Mem} {a : Nat} (R : ObAt 11 M a) : vr M a 7 = some (a + 25) := (R.2 (7, 25, 1, 0) (List.mem_of_getElem? (i := 7) rfl)).1
theorem ob11_k7 {M : Mem} {a : Nat} (R : ObAt 11 M a) : mK M (a + 25) = 1 := (R.2 (7, 25, 1, 0) (List.mem_of_getElem? (i := 7) rfl)).2.1
theorem ob11_r8 {M : Mem} {a : Nat} (R : ObAt 11 M a) : vr M a 8 = some (a + 36) := (R.2 (8, 36, 5, 0) (List.mem_of_getElem? (i := 8) rfl)).1
theorem ob11_k8 {M : Mem} {a : Nat} (R : ObAt 11 M a) : mK M (a + 36) = 5 := (R.2 (8, 36, 5, 0) (List.mem_of_getElem? (i := 8) rfl)).2.1
theorem ob11_r9 {M : Mem} {a : Nat} (R : ObAt 11 M a) : vr M a 9 = some (a + 41) := (R.2 (9, 41, 5, 0) (List.mem_of_getElem? (i := 9) rfl)).1
theorem ob11_k9 {M : Mem} {a : Nat} (R : ObAt 11 M a) : mK M (a + 41) = 5 := (R.2 (9, 41, 5, 0) (List.mem_of_getElem? (i := 9) rfl)).2.1
theorem ob11_r10 {M : Mem} {a : Nat} (R : ObAt 11 M a) : vr M a 10 = some (a + 46) := (R.2 (10, 46, 2, 0) (List.mem_of_getElem? (i := 10) rfl)).1
theorem ob11_k10 {M : Mem} {a : Nat} (R : ObAt 11 M a) : mK M (a + 46) = 2 := (R.2 (10, 46, 2, 0) (List.mem_of_getElem? (i := 10) rfl)).2.1
theorem ob11_r11 {M : Mem} {a : Nat} (R : ObAt 11 M a) : vr M a 11 = some (a + 50) := (R.2 (11, 50, 8, 0) (List.mem_of_getElem? (i := 11) rfl)).1
theorem ob11_k11 {M : Mem} {a : Nat} (R : ObAt 11 M a) : mK M (a + 50) = 8 := (R.2 (11, 50, 8, 0) (List.mem_of_getElem? (i := 11) rfl)).2.1
/-- the law reader at o: its tape t, its draft l -/
def LrAt (M : Mem) (o t l : Nat) : Prop := mK M o = 4 ∧ vr M o 0 = some t ∧ ObAt 9 M t ∧ vr M o 1 = some l ∧ ObAt 2 M l
/-- the whole object at x, but the law reader's draft -/
def XAt (M : Mem) (x : Nat) : Prop := ObAt 11 M x ∧ ObAt 9 M (x + 1) ∧ ObAt 8 M (x + 3) ∧ ObAt 6 M (x + 15) ∧ mK M (x + 18) = 4 ∧ ObAt 0 M (x + 25) ∧ ObAt 4 M (x + 36) ∧ ObAt 4 M (x + 41) ∧ ObAt 1 M (x + 46) ∧ ObAt 7 M (x + 50)
/-- no cell is behind the last one -/
def frM (M : Mem) : Prop := ∀ a, mN M ≤ a → mK M a = 0
theorem fr_mnew {M : Mem} {K n : Nat} (F : frM M) : frM (mnew M K n) := fun a ha => by
  have h1 : mN (mnew M K n) = mN M + 1 := rfl
  rw [h1] at ha
  have h2 : mK (mnew M K n) a = mK M a := up1_ne (by omega)
  rw [h2]; exact F a (by omega)
theorem mk_mnew {M : Mem} {K n a k : Nat} (F : frM M) (h : mK M a = k + 1) : mK (mnew M K n) a = k + 1 := by
  have h2 : mK (mnew M K n) a = mK M a := up1_ne (fun e => by rw [F a (by omega)] at h; omega)
  rw [h2]; exact h
theorem obTab_ok : ∀ c, c < 13 → ∀ q ∈ obTab c, q.2.2.1 ≠ 0 ∧ c ≠ 3 := by decide +kernel
theorem ob_mnew {c : Nat} {M : Mem} {a K n : Nat} (F : frM M) (h : ObAt c M a) : ObAt c (mnew M K n) a := by
  have key : ∀ b, mK M b ≠ 0 → b ≠ mN M := fun b hb e => hb (F b (by omega))
  refine ⟨mk_mnew F h.1, fun q hq => ?_⟩
  obtain ⟨h1, h2, h3⟩ := h.2 q hq
  have hc : c < 13 := by
    rcases Nat.lt_or_ge c 13 with hc | hc
    · exact hc
    · exfalso
      have : obTab c = [] := by
        unfold obTab
        split <;> first | omega | rfl
      rw [this] at hq; cases hq
  have hz := (obTab_ok c hc q hq).1
  have ha := key a (by rw [h.1]; omega)
  have hb := key (a + q.2.1) (by rw [h2]; exact hz)
  refine ⟨?_, ?_, fun h4 => ?_⟩
  · show up1 (vr M) (mN M) _ a q.1 = _
    rw [up1_ne ha]; exact h1
  · show up1 (mK M) (mN M) _ (a + q.2.1) = _
    rw [up1_ne hb]; exact h2
  · show up1 (mA M) (mN M) _ (a + q.2.1) = _
    rw [up1_ne hb]; exact h3 h4
theorem ob_vr {c : Nat} {M M1 : Mem} {a : Nat} (h : ObAt c M a) (e1 : mK M1 = mK M) (e2 : mA M1 = mA M) (e3 : vr M1 a = vr M a) : ObAt c M1 a := by
  refine ⟨by rw [e1]; exact h.1, fun q hq => ?_⟩
  rw [e1, e2, e3]
  exact h.2 q hq
theorem ob_setr {c : Nat} {M : Mem} {a b k : Nat} {x : Option Nat} (h : ObAt c M a) (hb : 18 ≤ mK M b ∧ mK M b ≤ 21) (hc : c < 13 := by decide) : ObAt c (setr M b k x) a :=
  ob_vr h rfl rfl (up2_nea (fun e => by have := h.1; rw [e] at this; omega))
theorem ob_cpr {c : Nat} {M : Mem} {a a0 sp b dp n : Nat} (h : ObAt c M a) (hb : 18 ≤ mK M b ∧ mK M b ≤ 21) (hc : c < 13 := by decide) : ObAt c (cpr M a0 sp b dp n) a :=
  ob_vr h rfl rfl (up1_ne (fun e => by have := h.1; rw [e] at this; omega))
theorem lr_setr {M : Mem} {o t l b k : Nat} {x : Option Nat} (h : LrAt M o t l) (hb : 18 ≤ mK M b ∧ mK M b ≤ 21) : LrAt (setr M b k x) o t l := by
  have e : vr (setr M b k x) o = vr M o := up2_nea (fun e => by have := h.1; rw [e] at this; omega)
  exact ⟨h.1, by rw [e]; exact h.2.1, ob_setr h.2.2.1 hb, by rw [e]; exact h.2.2.2.1, ob_setr h.2.2.2.2 hb⟩
theorem lr_mnew {M : Mem} {o t l K n : Nat} (F : frM M) (h : LrAt M o t l) : LrAt (mnew M K n) o t l := by
  have e : vr (mnew M K n) o = vr M o := up1_ne (fun e => by have := h.1; rw [F o (by omega)] at this; omega)
  exact ⟨mk_mnew F h.1, by rw [e]; exact h.2.1, ob_mnew F h.2.2.1, by rw [e]; exact h.2.2.2.1, ob_mnew F h.2.2.2.2⟩
theorem xa_setr {M : Mem} {x b k : Nat} {v : Option Nat} (h : XAt M x) (hb : 18 ≤ mK M b ∧ mK M b ≤ 21) : XAt (setr M b k v) x :=
  ⟨ob_setr h.1 hb, ob_setr h.2.1 hb, ob_setr h.2.2.1 hb, ob_setr h.2.2.2.1 hb, h.2.2.2.2.1, ob_setr h.2.2.2.2.2.1 hb, ob_setr h.2.2.2.2.2.2.1 hb, ob_setr h.2.2.2.2.2.2.2.1 hb, ob_setr h.2.2.2.2.2.2.2.2.1 hb, ob_setr h.2.2.2.2.2.2.2.2.2 hb⟩
theorem xa_mnew {M : Mem} {x K n : Nat} (F : frM M) (h : XAt M x) : XAt (mnew M K n) x :=
  ⟨ob_mnew F h.1, ob_mnew F h.2.1, ob_mnew F h.2.2.1, ob_mnew F h.2.2.2.1, mk_mnew F h.2.2.2.2.1, ob_mnew F h.2.2.2.2.2.1, ob_mnew F h.2.2.2.2.2.2.1, ob_mnew F h.2.2.2.2.2.2.2.1, ob_mnew F h.2.2.2.2.2.2.2.2.1, ob_mnew F h.2.2.2.2.2.2.2.2.2⟩
