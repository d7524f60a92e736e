/-! TYPED CALLS; THE REFERENCE'S FIXED CELLS: the object at m, its arrays behind it (by program wip/tools/refstatic.py) -/
theorem plain_cls {c : Nat} (h : c < 19) : plainName (clsN c) = true := by
  have key : ∀ c, c < 19 → plainName (clsN c) = true := by decide +kernel
  exact key c h
theorem Cl.ofM {G : GT} {d y : Nat} {av : List Value} {M : Mem} {Q : Po} (hy : y < 282) (hfit : Nat.ble (lg_sl av).length (mMax y) = true) (h : At G d y 0 (lv_args 0 av) [] M Q) : Cl G d y av M Q :=
  Cl.of (by rw [(m_ok hy).2.2.1]; exact plain_cls (m_ok hy).2.1) (m_ok hy).2.2.1 (Nat.le_of_ble_eq_true hfit) h
/-- entries from the m-th on, but those at the places cs: there the walk stops -/
theorem vcc {G : GT} {d y : Nat} {code : List Ins} {t : Nat} {ls : List (Nat × Value)} {st : List Value} {M : Mem} {Q : Po} (ho : ∀ i ∈ code, Ok y i) (m : Nat) (cs : List Nat) (h : wps G d y ((code.drop m).filter (fun i => !(cs.contains i.1))) t ls st M Q) : At G (d + 1) y t ls st M Q := wps_snd (fun i hi => ho i (List.mem_of_mem_drop (List.mem_filter.mp hi).1)) h
def qI (Q : Int32 → Mem → Prop) : Po := fun r M => ∃ v, r = some (.int v) ∧ Q v M
def qJ (Q : Int64 → Mem → Prop) : Po := fun r M => ∃ v, r = some (.long v) ∧ Q v M
def qV (Q : Mem → Prop) : Po := fun r M => r = none ∧ Q M
def qR (Q : Option Nat → Mem → Prop) : Po := fun r M => ∃ o : Option Nat, r = some (va_rf o) ∧ Q o M
def CI (G : GT) (d y : Nat) (av : List Value) (M : Mem) (Q : Int32 → Mem → Prop) : Prop := Cl G d y av M (qI Q)
def CJ (G : GT) (d y : Nat) (av : List Value) (M : Mem) (Q : Int64 → Mem → Prop) : Prop := Cl G d y av M (qJ Q)
def CV (G : GT) (d y : Nat) (av : List Value) (M : Mem) (Q : Mem → Prop) : Prop := Cl G d y av M (qV Q)
def CR (G : GT) (d y : Nat) (av : List Value) (M : Mem) (Q : Option Nat → Mem → Prop) : Prop := Cl G d y av M (qR Q)
theorem CI.mono {G : GT} {d y : Nat} {av : List Value} {M : Mem} {Q Q' : Int32 → Mem → Prop} (h : CI G d y av M Q) (hq : ∀ v M', Q v M' → Q' v M') : CI G d y av M Q' := Cl.mono h (fun _ _ ⟨v, e, q⟩ => ⟨v, e, hq v _ q⟩)
theorem CJ.mono {G : GT} {d y : Nat} {av : List Value} {M : Mem} {Q Q' : Int64 → Mem → Prop} (h : CJ G d y av M Q) (hq : ∀ v M', Q v M' → Q' v M') : CJ G d y av M Q' := Cl.mono h (fun _ _ ⟨v, e, q⟩ => ⟨v, e, hq v _ q⟩)
theorem CV.mono {G : GT} {d y : Nat} {av : List Value} {M : Mem} {Q Q' : Mem → Prop} (h : CV G d y av M Q) (hq : ∀ M', Q M' → Q' M') : CV G d y av M Q' := Cl.mono h (fun _ _ ⟨e, q⟩ => ⟨e, hq _ q⟩)
theorem CR.mono {G : GT} {d y : Nat} {av : List Value} {M : Mem} {Q Q' : Option Nat → Mem → Prop} (h : CR G d y av M Q) (hq : ∀ v M', Q v M' → Q' v M') : CR G d y av M Q' := Cl.mono h (fun _ _ ⟨v, e, q⟩ => ⟨v, e, hq v _ q⟩)
theorem vp_cst {n k : Nat} {j : Int32} (e : n = k) (h : vp_in j k) : vp_in j n := by rw [e]; exact h
theorem k18 {K n : Nat} (h : n = K) (h1 : 18 ≤ K := by decide) (h2 : K ≤ 21 := by decide) : 18 ≤ n ∧ n ≤ 21 := by omega
def refTab : List (Nat × Nat × Nat × Nat) := [(1, 1, 15, 3), (2, 2, 15, 200), (3, 3, 15, 200), (4, 4, 15, 4), (5, 5, 15, 4), (6, 6, 15, 7), (7, 7, 15, 64), (8, 8, 15, 64), (9, 9, 15, 64), (10, 10, 15, 64), (11, 11, 15, 64), (12, 12, 15, 1280), (23, 13, 14, 400), (24, 14, 15, 1200), (25, 15, 15, 1200), (26, 16, 15, 4), (27, 17, 15, 48), (28, 18, 15, 48), (29, 19, 15, 48), (30, 20, 15, 402), (31, 21, 16, 7), (32, 22, 16, 300), (33, 23, 16, 64), (34, 24, 15, 64), (35, 25, 17, 64), (36, 26, 17, 64), (37, 27, 15, 401), (38, 28, 15, 401), (39, 29, 15, 200), (40, 30, 15, 2000), (41, 31, 17, 64), (42, 32, 17, 200), (45, 33, 15, 400), (46, 34, 15, 401), (47, 35, 15, 401), (48, 36, 15, 401), (49, 37, 15, 401), (50, 38, 15, 400), (53, 39, 17, 401), (55, 40, 15, 40401), (56, 41, 15, 200), (62, 42, 15, 12), (63, 43, 15, 12), (64, 44, 15, 8400), (65, 45, 17, 4)]
def RefAt (M : Mem) (m : Nat) : Prop := mK M m = 13 ∧ ∀ q ∈ refTab, vr M m q.1 = some (m + q.2.1) ∧ mK M (m + q.2.1) = q.2.2.1 ∧ mA M (m + q.2.1) = q.2.2.2
theorem ra_r1 {M : Mem} {m : Nat} (R : RefAt M m) : vr M m 1 = some (m + 1) := (R.2 (1, 1, 15, 3) (List.mem_of_getElem? (i := 0) rfl)).1
theorem ra_k1 {M : Mem} {m : Nat} (R : RefAt M m) : mK M (m + 1) = 15 := (R.2 (1, 1, 15, 3) (List.mem_of_getElem? (i := 0) rfl)).2.1
theorem ra_l1 {M : Mem} {m : Nat} (R : RefAt M m) : mA M (m + 1) = 3 := (R.2 (1, 1, 15, 3) (List.mem_of_getElem? (i := 0) rfl)).2.2
theorem ra_r2 {M : Mem} {m : Nat} (R : RefAt M m) : vr M m 2 = some (m + 2) := (R.2 (2, 2, 15, 200) (List.mem_of_getElem? (i := 1) rfl)).1
theorem ra_k2 {M : Mem} {m : Nat} (R : RefAt M m) : mK M (m + 2) = 15 := (R.2 (2, 2, 15, 200) (List.mem_of_getElem? (i := 1) rfl)).2.1
theorem ra_l2 {M : Mem} {m : Nat} (R : RefAt M m) : mA M (m + 2) = 200 := (R.2 (2, 2, 15, 200) (List.mem_of_getElem? (i := 1) rfl)).2.2
theorem ra_r3 {M : Mem} {m : Nat} (R : RefAt M m) : vr M m 3 = some (m + 3) := (R.2 (3, 3, 15, 200) (List.mem_of_getElem? (i := 2) rfl)).1
theorem ra_k3 {M : Mem} {m : Nat} (R : RefAt M m) : mK M (m + 3) = 15 := (R.2 (3, 3, 15, 200) (List.mem_of_getElem? (i := 2) rfl)).2.1
theorem ra_l3 {M : Mem} {m : Nat} (R : RefAt M m) : mA M (m + 3) = 200 := (R.2 (3, 3, 15, 200) (List.mem_of_getElem? (i := 2) rfl)).2.2
theorem ra_r4 {M : Mem} {m : Nat} (R : RefAt M m) : vr M m 4 = some (m + 4) := (R.2 (4, 4, 15, 4) (List.mem_of_getElem? (i := 3) rfl)).1
theorem ra_k4 {M : Mem} {m : Nat} (R : RefAt M m) : mK M (m + 4) = 15 := (R.2 (4, 4, 15, 4) (List.mem_of_getElem? (i := 3) rfl)).2.1
theorem ra_l4 {M : Mem} {m : Nat} (R : RefAt M m) : mA M (m + 4) = 4 := (R.2 (4, 4, 15, 4) (List.mem_of_getElem? (i := 3) rfl)).2.2
theorem ra_r5 {M : Mem} {m : Nat} (R : RefAt M m) : vr M m 5 = some (m + 5) := (R.2 (5, 5, 15, 4) (List.mem_of_getElem? (i := 4) rfl)).1
theorem ra_k5 {M : Mem} {m : Nat} (R : RefAt M m) : mK M (m + 5) = 15 := (R.2 (5, 5, 15, 4) (List.mem_of_getElem? (i := 4) rfl)).2.1
theorem ra_l5 {M : Mem} {m : Nat} (R : RefAt M m) : mA M (m + 5) = 4 := (R.2 (5, 5, 15, 4) (List.mem_of_getElem? (i := 4) rfl)).2.2
theorem ra_r6 {M : Mem} {m : Nat} (R : RefAt M m) : vr M m 6 = some (m + 6) := (R.2 (6, 6, 15, 7) (List.mem_of_getElem? (i := 5) rfl)).1
theorem ra_k6 {M : Mem} {m : Nat} (R : RefAt M m) : mK M (m + 6) = 15 := (R.2 (6, 6, 15, 7) (List.mem_of_getElem? (i := 5) rfl)).2.1
theorem ra_l6 {M : Mem} {m : Nat} (R : RefAt M m) : mA M (m + 6) = 7 := (R.2 (6, 6, 15, 7) (List.mem_of_getElem? (i := 5) rfl)).2.2
theorem ra_r7 {M : Mem} {m : Nat} (R : RefAt M m) : vr M m 7 = some (m + 7) := (R.2 (7, 7, 15, 64) (List.mem_of_getElem? (i := 6) rfl)).1
theorem ra_k7 {M : Mem} {m : Nat} (R : RefAt M m) : mK M (m + 7) = 15 := (R.2 (7, 7, 15, 64) (List.mem_of_getElem? (i := 6) rfl)).2.1
theorem ra_l7 {M : Mem} {m : Nat} (R : RefAt M m) : mA M (m + 7) = 64 := (R.2 (7, 7, 15, 64) (List.mem_of_getElem? (i := 6) rfl)).2.2
theorem ra_r8 {M : Mem} {m : Nat} (R : RefAt M m) : vr M m 8 = some (m + 8) := (R.2 (8, 8, 15, 64) (List.mem_of_getElem? (i := 7) rfl)).1
theorem ra_k8 {M : Mem} {m : Nat} (R : RefAt M m) : mK M (m + 8) = 15 := (R.2 (8, 8, 15, 64) (List.mem_of_getElem? (i := 7) rfl)).2.1
theorem ra_l8 {M : Mem} {m : Nat} (R : RefAt M m) : mA M (m + 8) = 64 := (R.2 (8, 8, 15, 64) (List.mem_of_getElem? (i := 7) rfl)).2.2
theorem ra_r9 {M : Mem} {m : Nat} (R : RefAt M m) : vr M m 9 = some (m + 9) := (R.2 (9, 9, 15, 64) (List.mem_of_getElem? (i := 8) rfl)).1
theorem ra_k9 {M : Mem} {m : Nat} (R : RefAt M m) : mK M (m + 9) = 15 := (R.2 (9, 9, 15, 64) (List.mem_of_getElem? (i := 8) rfl)).2.1
theorem ra_l9 {M : Mem} {m : Nat} (R : RefAt M m) : mA M (m + 9) = 64 := (R.2 (9, 9, 15, 64) (List.mem_of_getElem? (i := 8) rfl)).2.2
theorem ra_r10 {M : Mem} {m : Nat} (R : RefAt M m) : vr M m 10 = some (m + 10) := (R.2 (10, 10, 15, 64) (List.mem_of_getElem? (i := 9) rfl)).1
theorem ra_k10 {M : Mem} {m : Nat} (R : RefAt M m) : mK M (m + 10) = 15 := (R.2 (10, 10, 15, 64) (List.mem_of_getElem? (i := 9) rfl)).2.1
theorem ra_l10 {M : Mem} {m : Nat} (R : RefAt M m) : mA M (m + 10) = 64 := (R.2 (10, 10, 15, 64) (List.mem_of_getElem? (i := 9) rfl)).2.2
theorem ra_r11 {M : Mem} {m : Nat} (R : RefAt M m) : vr M m 11 = some (m + 11) := (R.2 (11, 11, 15, 64) (List.mem_of_getElem? (i := 10) rfl)).1
theorem ra_k11 {M : Mem} {m : Nat} (R : RefAt M m) : mK M (m + 11) = 15 := (R.2 (11, 11, 15, 64) (List.mem_of_getElem? (i := 10) rfl)).2.1
theorem ra_l11 {M : Mem} {m : Nat} (R : RefAt M m) : mA M (m + 11) = 64 := (R.2 (11, 11, 15, 64) (List.mem_of_getElem? (i := 10) rfl)).2.2
theorem ra_r12 {M : Mem} {m : Nat} (R : RefAt M m) : vr M m 12 = some (m + 12) := (R.2 (12, 12, 15, 1280) (List.mem_of_getElem? (i := 11) rfl)).1
theorem ra_k12 {M : Mem} {m : Nat} (R : RefAt M m) : mK M (m + 12) = 15 := (R.2 (12, 12, 15, 1280) (List.mem_of_getElem? (i := 11) rfl)).2.1
theorem ra_l12 {M : Mem} {m : Nat} (R : RefAt M m) : mA M (m + 12) = 1280 := (R.2 (12, 12, 15, 1280) (List.mem_of_getElem? (i := 11) rfl)).2.2
theorem ra_r23 {M : Mem} {m : Nat} (R : RefAt M m) : vr M m 23 = some (m + 13) := (R.2 (23, 13, 14, 400) (List.mem_of_getElem? (i := 12) rfl)).1
theorem ra_k23 {M : Mem} {m : Nat} (R : RefAt M m) : mK M (m + 13) = 14 := (R.2 (23, 13, 14, 400) (List.mem_of_getElem? (i := 12) rfl)).2.1
theorem ra_l23 {M : Mem} {m : Nat} (R : RefAt M m) : mA M (m + 13) = 400 := (R.2 (23, 13, 14, 400) (List.mem_of_getElem? (i := 12) rfl)).2.2
theorem ra_r24 {M : Mem} {m : Nat} (R : RefAt M m) : vr M m 24 = some (m + 14) := (R.2 (24, 14, 15, 1200) (List.mem_of_getElem? (i := 13) rfl)).1
theorem ra_k24 {M : Mem} {m : Nat} (R : RefAt M m) : mK M (m + 14) = 15 := (R.2 (24, 14, 15, 1200) (List.mem_of_getElem? (i := 13) rfl)).2.1
theorem ra_l24 {M : Mem} {m : Nat} (R : RefAt M m) : mA M (m + 14) = 1200 := (R.2 (24, 14, 15, 1200) (List.mem_of_getElem? (i := 13) rfl)).2.2
theorem ra_r25 {M : Mem} {m : Nat} (R : RefAt M m) : vr M m 25 = some (m + 15) := (R.2 (25, 15, 15, 1200) (List.mem_of_getElem? (i := 14) rfl)).1
theorem ra_k25 {M : Mem} {m : Nat} (R : RefAt M m) : mK M (m + 15) = 15 := (R.2 (25, 15, 15, 1200) (List.mem_of_getElem? (i := 14) rfl)).2.1
theorem ra_l25 {M : Mem} {m : Nat} (R : RefAt M m) : mA M (m + 15) = 1200 := (R.2 (25, 15, 15, 1200) (List.mem_of_getElem? (i := 14) rfl)).2.2
theorem ra_r26 {M : Mem} {m : Nat} (R : RefAt M m) : vr M m 26 = some (m + 16) := (R.2 (26, 16, 15, 4) (List.mem_of_getElem? (i := 15) rfl)).1
theorem ra_k26 {M : Mem} {m : Nat} (R : RefAt M m) : mK M (m + 16) = 15 := (R.2 (26, 16, 15, 4) (List.mem_of_getElem? (i := 15) rfl)).2.1
theorem ra_l26 {M : Mem} {m : Nat} (R : RefAt M m) : mA M (m + 16) = 4 := (R.2 (26, 16, 15, 4) (List.mem_of_getElem? (i := 15) rfl)).2.2
theorem ra_r27 {M : Mem} {m : Nat} (R : RefAt M m) : vr M m 27 = some (m + 17) := (R.2 (27, 17, 15, 48) (List.mem_of_getElem? (i := 16) rfl)).1
theorem ra_k27 {M : Mem} {m : Nat} (R : RefAt M m) : mK M (m + 17) = 15 := (R.2 (27, 17, 15, 48) (List.mem_of_getElem? (i := 16) rfl)).2.1
theorem ra_l27 {M : Mem} {m : Nat} (R : RefAt M m) : mA M (m + 17) = 48 := (R.2 (27, 17, 15, 48) (List.mem_of_getElem? (i := 16) rfl)).2.2
theorem ra_r28 {M : Mem} {m : Nat} (R : RefAt M m) : vr M m 28 = some (m + 18) := (R.2 (28, 18, 15, 48) (List.mem_of_getElem? (i := 17) rfl)).1
theorem ra_k28 {M : Mem} {m : Nat} (R : RefAt M m) : mK M (m + 18) = 15 := (R.2 (28, 18, 15, 48) (List.mem_of_getElem? (i := 17) rfl)).2.1
theorem ra_l28 {M : Mem} {m : Nat} (R : RefAt M m) : mA M (m + 18) = 48 := (R.2 (28, 18, 15, 48) (List.mem_of_getElem? (i := 17) rfl)).2.2
theorem ra_r29 {M : Mem} {m : Nat} (R : RefAt M m) : vr M m 29 = some (m + 19) := (R.2 (29, 19, 15, 48) (List.mem_of_getElem? (i := 18) rfl)).1
theorem ra_k29 {M : Mem} {m : Nat} (R : RefAt M m) : mK M (m + 19) = 15 := (R.2 (29, 19, 15, 48) (List.mem_of_getElem? (i := 18) rfl)).2.1
theorem ra_l29 {M : Mem} {m : Nat} (R : RefAt M m) : mA M (m + 19) = 48 := (R.2 (29, 19, 15, 48) (List.mem_of_getElem? (i := 18) rfl)).2.2
theorem ra_r30 {M : Mem} {m : Nat} (R : RefAt M m) : vr M m 30 = some (m + 20) := (R.2 (30, 20, 15, 402) (List.mem_of_getElem? (i := 19) rfl)).1
theorem ra_k30 {M : Mem} {m : Nat} (R : RefAt M m) : mK M (m + 20) = 15 := (R.2 (30, 20, 15, 402) (List.mem_of_getElem? (i := 19) rfl)).2.1
theorem ra_l30 {M : Mem} {m : Nat} (R : RefAt M m) : mA M (m + 20) = 402 := (R.2 (30, 20, 15, 402) (List.mem_of_getElem? (i := 19) rfl)).2.2
theorem ra_r31 {M : Mem} {m : Nat} (R : RefAt M m) : vr M m 31 = some (m + 21) := (R.2 (31, 21, 16, 7) (List.mem_of_getElem? (i := 20) rfl)).1
theorem ra_k31 {M : Mem} {m : Nat} (R : RefAt M m) : mK M (m + 21) = 16 := (R.2 (31, 21, 16, 7) (List.mem_of_getElem? (i := 20) rfl)).2.1
theorem ra_l31 {M : Mem} {m : Nat} (R : RefAt M m) : mA M (m + 21) = 7 := (R.2 (31, 21, 16, 7) (List.mem_of_getElem? (i := 20) rfl)).2.2
theorem ra_r32 {M : Mem} {m : Nat} (R : RefAt M m) : vr M m 32 = some (m + 22) := (R.2 (32, 22, 16, 300) (List.mem_of_getElem? (i := 21) rfl)).1
theorem ra_k32 {M : Mem} {m : Nat} (R : RefAt M m) : mK M (m + 22) = 16 := (R.2 (32, 22, 16, 300) (List.mem_of_getElem? (i := 21) rfl)).2.1
theorem ra_l32 {M : Mem} {m : Nat} (R : RefAt M m) : mA M (m + 22) = 300 := (R.2 (32, 22, 16, 300) (List.mem_of_getElem? (i := 21) rfl)).2.2
theorem ra_r33 {M : Mem} {m : Nat} (R : RefAt M m) : vr M m 33 = some (m + 23) := (R.2 (33, 23, 16, 64) (List.mem_of_getElem? (i := 22) rfl)).1
theorem ra_k33 {M : Mem} {m : Nat} (R : RefAt M m) : mK M (m + 23) = 16 := (R.2 (33, 23, 16, 64) (List.mem_of_getElem? (i := 22) rfl)).2.1
theorem ra_l33 {M : Mem} {m : Nat} (R : RefAt M m) : mA M (m + 23) = 64 := (R.2 (33, 23, 16, 64) (List.mem_of_getElem? (i := 22) rfl)).2.2
theorem ra_r34 {M : Mem} {m : Nat} (R : RefAt M m) : vr M m 34 = some (m + 24) := (R.2 (34, 24, 15, 64) (List.mem_of_getElem? (i := 23) rfl)).1
theorem ra_k34 {M : Mem} {m : Nat} (R : RefAt M m) : mK M (m + 24) = 15 := (R.2 (34, 24, 15, 64) (List.mem_of_getElem? (i := 23) rfl)).2.1
theorem ra_l34 {M : Mem} {m : Nat} (R : RefAt M m) : mA M (m + 24) = 64 := (R.2 (34, 24, 15, 64) (List.mem_of_getElem? (i := 23) rfl)).2.2
theorem ra_r35 {M : Mem} {m : Nat} (R : RefAt M m) : vr M m 35 = some (m + 25) := (R.2 (35, 25, 17, 64) (List.mem_of_getElem? (i := 24) rfl)).1
theorem ra_k35 {M : Mem} {m : Nat} (R : RefAt M m) : mK M (m + 25) = 17 := (R.2 (35, 25, 17, 64) (List.mem_of_getElem? (i := 24) rfl)).2.1
theorem ra_l35 {M : Mem} {m : Nat} (R : RefAt M m) : mA M (m + 25) = 64 := (R.2 (35, 25, 17, 64) (List.mem_of_getElem? (i := 24) rfl)).2.2
theorem ra_r36 {M : Mem} {m : Nat} (R : RefAt M m) : vr M m 36 = some (m + 26) := (R.2 (36, 26, 17, 64) (List.mem_of_getElem? (i := 25) rfl)).1
theorem ra_k36 {M : Mem} {m : Nat} (R : RefAt M m) : mK M (m + 26) = 17 := (R.2 (36, 26, 17, 64) (List.mem_of_getElem? (i := 25) rfl)).2.1
theorem ra_l36 {M : Mem} {m : Nat} (R : RefAt M m) : mA M (m + 26) = 64 := (R.2 (36, 26, 17, 64) (List.mem_of_getElem? (i := 25) rfl)).2.2
theorem ra_r37 {M : Mem} {m : Nat} (R : RefAt M m) : vr M m 37 = some (m + 27) := (R.2 (37, 27, 15, 401) (List.mem_of_getElem? (i := 26) rfl)).1
theorem ra_k37 {M : Mem} {m : Nat} (R : RefAt M m) : mK M (m + 27) = 15 := (R.2 (37, 27, 15, 401) (List.mem_of_getElem? (i := 26) rfl)).2.1
theorem ra_l37 {M : Mem} {m : Nat} (R : RefAt M m) : mA M (m + 27) = 401 := (R.2 (37, 27, 15, 401) (List.mem_of_getElem? (i := 26) rfl)).2.2
theorem ra_r38 {M : Mem} {m : Nat} (R : RefAt M m) : vr M m 38 = some (m + 28) := (R.2 (38, 28, 15, 401) (List.mem_of_getElem? (i := 27) rfl)).1
theorem ra_k38 {M : Mem} {m : Nat} (R : RefAt M m) : mK M (m + 28) = 15 := (R.2 (38, 28, 15, 401) (List.mem_of_getElem? (i := 27) rfl)).2.1
theorem ra_l38 {M : Mem} {m : Nat} (R : RefAt M m) : mA M (m + 28) = 401 := (R.2 (38, 28, 15, 401) (List.mem_of_getElem? (i := 27) rfl)).2.2
theorem ra_r39 {M : Mem} {m : Nat} (R : RefAt M m) : vr M m 39 = some (m + 29) := (R.2 (39, 29, 15, 200) (List.mem_of_getElem? (i := 28) rfl)).1
theorem ra_k39 {M : Mem} {m : Nat} (R : RefAt M m) : mK M (m + 29) = 15 := (R.2 (39, 29, 15, 200) (List.mem_of_getElem? (i := 28) rfl)).2.1
theorem ra_l39 {M : Mem} {m : Nat} (R : RefAt M m) : mA M (m + 29) = 200 := (R.2 (39, 29, 15, 200) (List.mem_of_getElem? (i := 28) rfl)).2.2
theorem ra_r40 {M : Mem} {m : Nat} (R : RefAt M m) : vr M m 40 = some (m + 30) := (R.2 (40, 30, 15, 2000) (List.mem_of_getElem? (i := 29) rfl)).1
theorem ra_k40 {M : Mem} {m : Nat} (R : RefAt M m) : mK M (m + 30) = 15 := (R.2 (40, 30, 15, 2000) (List.mem_of_getElem? (i := 29) rfl)).2.1
theorem ra_l40 {M : Mem} {m : Nat} (R : RefAt M m) : mA M (m + 30) = 2000 := (R.2 (40, 30, 15, 2000) (List.mem_of_getElem? (i := 29) rfl)).2.2
theorem ra_r41 {M : Mem} {m : Nat} (R : RefAt M m) : vr M m 41 = some (m + 31) := (R.2 (41, 31, 17, 64) (List.mem_of_getElem? (i := 30) rfl)).1
theorem ra_k41 {M : Mem} {m : Nat} (R : RefAt M m) : mK M (m + 31) = 17 := (R.2 (41, 31, 17, 64) (List.mem_of_getElem? (i := 30) rfl)).2.1
theorem ra_l41 {M : Mem} {m : Nat} (R : RefAt M m) : mA M (m + 31) = 64 := (R.2 (41, 31, 17, 64) (List.mem_of_getElem? (i := 30) rfl)).2.2
theorem ra_r42 {M : Mem} {m : Nat} (R : RefAt M m) : vr M m 42 = some (m + 32) := (R.2 (42, 32, 17, 200) (List.mem_of_getElem? (i := 31) rfl)).1
theorem ra_k42 {M : Mem} {m : Nat} (R : RefAt M m) : mK M (m + 32) = 17 := (R.2 (42, 32, 17, 200) (List.mem_of_getElem? (i := 31) rfl)).2.1
theorem ra_l42 {M : Mem} {m : Nat} (R : RefAt M m) : mA M (m + 32) = 200 := (R.2 (42, 32, 17, 200) (List.mem_of_getElem? (i := 31) rfl)).2.2
theorem ra_r45 {M : Mem} {m : Nat} (R : RefAt M m) : vr M m 45 = some (m + 33) := (R.2 (45, 33, 15, 400) (List.mem_of_getElem? (i := 32) rfl)).1
theorem ra_k45 {M : Mem} {m : Nat} (R : RefAt M m) : mK M (m + 33) = 15 := (R.2 (45, 33, 15, 400) (List.mem_of_getElem? (i := 32) rfl)).2.1
theorem ra_l45 {M : Mem} {m : Nat} (R : RefAt M m) : mA M (m + 33) = 400 := (R.2 (45, 33, 15, 400) (List.mem_of_getElem? (i := 32) rfl)).2.2
theorem ra_r46 {M : Mem} {m : Nat} (R : RefAt M m) : vr M m 46 = some (m + 34) := (R.2 (46, 34, 15, 401) (List.mem_of_getElem? (i := 33) rfl)).1
theorem ra_k46 {M : Mem} {m : Nat} (R : RefAt M m) : mK M (m + 34) = 15 := (R.2 (46, 34, 15, 401) (List.mem_of_getElem? (i := 33) rfl)).2.1
theorem ra_l46 {M : Mem} {m : Nat} (R : RefAt M m) : mA M (m + 34) = 401 := (R.2 (46, 34, 15, 401) (List.mem_of_getElem? (i := 33) rfl)).2.2
theorem ra_r47 {M : Mem} {m : Nat} (R : RefAt M m) : vr M m 47 = some (m + 35) := (R.2 (47, 35, 15, 401) (List.mem_of_getElem? (i := 34) rfl)).1
theorem ra_k47 {M : Mem} {m : Nat} (R : RefAt M m) : mK M (m + 35) = 15 := (R.2 (47, 35, 15, 401) (List.mem_of_getElem? (i := 34) rfl)).2.1
theorem ra_l47 {M : Mem} {m : Nat} (R : RefAt M m) : mA M (m + 35) = 401 := (R.2 (47, 35, 15, 401) (List.mem_of_getElem? (i := 34) rfl)).2.2
theorem ra_r48 {M : Mem} {m : Nat} (R : RefAt M m) : vr M m 48 = some (m + 36) := (R.2 (48, 36, 15, 401) (List.mem_of_getElem? (i := 35) rfl)).1
theorem ra_k48 {M : Mem} {m : Nat} (R : RefAt M m) : mK M (m + 36) = 15 := (R.2 (48, 36, 15, 401) (List.mem_of_getElem? (i := 35) rfl)).2.1
theorem ra_l48 {M : Mem} {m : Nat} (R : RefAt M m) : mA M (m + 36) = 401 := (R.2 (48, 36, 15, 401) (List.mem_of_getElem? (i := 35) rfl)).2.2
theorem ra_r49 {M : Mem} {m : Nat} (R : RefAt M m) : vr M m 49 = some (m + 37) := (R.2 (49, 37, 15, 401) (List.mem_of_getElem? (i := 36) rfl)).1
theorem ra_k49 {M : Mem} {m : Nat} (R : RefAt M m) : mK M (m + 37) = 15 := (R.2 (49, 37, 15, 401) (List.mem_of_getElem? (i := 36) rfl)).2.1
theorem ra_l49 {M : Mem} {m : Nat} (R : RefAt M m) : mA M (m + 37) = 401 := (R.2 (49, 37, 15, 401) (List.mem_of_getElem? (i := 36) rfl)).2.2
theorem ra_r50 {M : Mem} {m : Nat} (R : RefAt M m) : vr M m 50 = some (m + 38) := (R.2 (50, 38, 15, 400) (List.mem_of_getElem? (i := 37) rfl)).1
theorem ra_k50 {M : Mem} {m : Nat} (R : RefAt M m) : mK M (m + 38) = 15 := (R.2 (50, 38, 15, 400) (List.mem_of_getElem? (i := 37) rfl)).2.1
theorem ra_l50 {M : Mem} {m : Nat} (R : RefAt M m) : mA M (m + 38) = 400 := (R.2 (50, 38, 15, 400) (List.mem_of_getElem? (i := 37) rfl)).2.2
theorem ra_r53 {M : Mem} {m : Nat} (R : RefAt M m) : vr M m 53 = some (m + 39) := (R.2 (53, 39, 17, 401) (List.mem_of_getElem? (i := 38) rfl)).1
theorem ra_k53 {M : Mem} {m : Nat} (R : RefAt M m) : mK M (m + 39) = 17 := (R.2 (53, 39, 17, 401) (List.mem_of_getElem? (i := 38) rfl)).2.1
theorem ra_l53 {M : Mem} {m : Nat} (R : RefAt M m) : mA M (m + 39) = 401 := (R.2 (53, 39, 17, 401) (List.mem_of_getElem? (i := 38) rfl)).2.2
theorem ra_r55 {M : Mem} {m : Nat} (R : RefAt M m) : vr M m 55 = some (m + 40) := (R.2 (55, 40, 15, 40401) (List.mem_of_getElem? (i := 39) rfl)).1
theorem ra_k55 {M : Mem} {m : Nat} (R : RefAt M m) : mK M (m + 40) = 15 := (R.2 (55, 40, 15, 40401) (List.mem_of_getElem? (i := 39) rfl)).2.1
theorem ra_l55 {M : Mem} {m : Nat} (R : RefAt M m) : mA M (m + 40) = 40401 := (R.2 (55, 40, 15, 40401) (List.mem_of_getElem? (i := 39) rfl)).2.2
theorem ra_r56 {M : Mem} {m : Nat} (R : RefAt M m) : vr M m 56 = some (m + 41) := (R.2 (56, 41, 15, 200) (List.mem_of_getElem? (i := 40) rfl)).1
theorem ra_k56 {M : Mem} {m : Nat} (R : RefAt M m) : mK M (m + 41) = 15 := (R.2 (56, 41, 15, 200) (List.mem_of_getElem? (i := 40) rfl)).2.1
theorem ra_l56 {M : Mem} {m : Nat} (R : RefAt M m) : mA M (m + 41) = 200 := (R.2 (56, 41, 15, 200) (List.mem_of_getElem? (i := 40) rfl)).2.2
theorem ra_r62 {M : Mem} {m : Nat} (R : RefAt M m) : vr M m 62 = some (m + 42) := (R.2 (62, 42, 15, 12) (List.mem_of_getElem? (i := 41) rfl)).1
theorem ra_k62 {M : Mem} {m : Nat} (R : RefAt M m) : mK M (m + 42) = 15 := (R.2 (62, 42, 15, 12) (List.mem_of_getElem? (i := 41) rfl)).2.1
theorem ra_l62 {M : Mem} {m : Nat} (R : RefAt M m) : mA M (m + 42) = 12 := (R.2 (62, 42, 15, 12) (List.mem_of_getElem? (i := 41) rfl)).2.2
theorem ra_r63 {M : Mem} {m : Nat} (R : RefAt M m) : vr M m 63 = some (m + 43) := (R.2 (63, 43, 15, 12) (List.mem_of_getElem? (i := 42) rfl)).1
theorem ra_k63 {M : Mem} {m : Nat} (R : RefAt M m) : mK M (m + 43) = 15 := (R.2 (63, 43, 15, 12) (List.mem_of_getElem? (i := 42) rfl)).2.1
theorem ra_l63 {M : Mem} {m : Nat} (R : RefAt M m) : mA M (m + 43) = 12 := (R.2 (63, 43, 15, 12) (List.mem_of_getElem? (i := 42) rfl)).2.2
theorem ra_r64 {M : Mem} {m : Nat} (R : RefAt M m) : vr M m 64 = some (m + 44) := (R.2 (64, 44, 15, 8400) (List.mem_of_getElem? (i := 43) rfl)).1
theorem ra_k64 {M : Mem} {m : Nat} (R : RefAt M m) : mK M (m + 44) = 15 := (R.2 (64, 44, 15, 8400) (List.mem_of_getElem? (i := 43) rfl)).2.1
theorem ra_l64 {M : Mem} {m : Nat} (R : RefAt M m) : mA M (m + 44) = 8400 := (R.2 (64, 44, 15, 8400) (List.mem_of_getElem? (i := 43) rfl)).2.2
theorem ra_r65 {M : Mem} {m : Nat} (R : RefAt M m) : vr M m 65 = some (m + 45) := (R.2 (65, 45, 17, 4) (List.mem_of_getElem? (i := 44) rfl)).1
theorem ra_k65 {M : Mem} {m : Nat} (R : RefAt M m) : mK M (m + 45) = 17 := (R.2 (65, 45, 17, 4) (List.mem_of_getElem? (i := 44) rfl)).2.1
theorem ra_l65 {M : Mem} {m : Nat} (R : RefAt M m) : mA M (m + 45) = 4 := (R.2 (65, 45, 17, 4) (List.mem_of_getElem? (i := 44) rfl)).2.2
