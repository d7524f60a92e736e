/-! NUMBERS: literals as numbers of the kit, order, truth values, memory's reads -/
def mI (n : Nat) : Int32 := - nI n
theorem il_0 : (0 : Int32) = nI 0 := rfl
theorem il_1 : (1 : Int32) = nI 1 := rfl
theorem il_2 : (2 : Int32) = nI 2 := rfl
theorem il_3 : (3 : Int32) = nI 3 := rfl
theorem il_4 : (4 : Int32) = nI 4 := rfl
theorem il_5 : (5 : Int32) = nI 5 := rfl
theorem il_6 : (6 : Int32) = nI 6 := rfl
theorem il_7 : (7 : Int32) = nI 7 := rfl
theorem il_8 : (8 : Int32) = nI 8 := rfl
theorem il_9 : (9 : Int32) = nI 9 := rfl
theorem il_10 : (10 : Int32) = nI 10 := rfl
theorem il_11 : (11 : Int32) = nI 11 := rfl
theorem il_12 : (12 : Int32) = nI 12 := rfl
theorem il_13 : (13 : Int32) = nI 13 := rfl
theorem il_14 : (14 : Int32) = nI 14 := rfl
theorem il_16 : (16 : Int32) = nI 16 := rfl
theorem il_20 : (20 : Int32) = nI 20 := rfl
theorem il_24 : (24 : Int32) = nI 24 := rfl
theorem il_31 : (31 : Int32) = nI 31 := rfl
theorem il_32 : (32 : Int32) = nI 32 := rfl
theorem il_39 : (39 : Int32) = nI 39 := rfl
theorem il_42 : (42 : Int32) = nI 42 := rfl
theorem il_43 : (43 : Int32) = nI 43 := rfl
theorem il_45 : (45 : Int32) = nI 45 := rfl
theorem il_47 : (47 : Int32) = nI 47 := rfl
theorem il_48 : (48 : Int32) = nI 48 := rfl
theorem il_57 : (57 : Int32) = nI 57 := rfl
theorem il_59 : (59 : Int32) = nI 59 := rfl
theorem il_60 : (60 : Int32) = nI 60 := rfl
theorem il_61 : (61 : Int32) = nI 61 := rfl
theorem il_62 : (62 : Int32) = nI 62 := rfl
theorem il_63 : (63 : Int32) = nI 63 := rfl
theorem il_64 : (64 : Int32) = nI 64 := rfl
theorem il_65 : (65 : Int32) = nI 65 := rfl
theorem il_90 : (90 : Int32) = nI 90 := rfl
theorem il_91 : (91 : Int32) = nI 91 := rfl
theorem il_93 : (93 : Int32) = nI 93 := rfl
theorem il_97 : (97 : Int32) = nI 97 := rfl
theorem il_99 : (99 : Int32) = nI 99 := rfl
theorem il_122 : (122 : Int32) = nI 122 := rfl
theorem il_126 : (126 : Int32) = nI 126 := rfl
theorem il_200 : (200 : Int32) = nI 200 := rfl
theorem il_201 : (201 : Int32) = nI 201 := rfl
theorem il_255 : (255 : Int32) = nI 255 := rfl
theorem il_300 : (300 : Int32) = nI 300 := rfl
theorem il_400 : (400 : Int32) = nI 400 := rfl
theorem il_401 : (401 : Int32) = nI 401 := rfl
theorem il_1000 : (1000 : Int32) = nI 1000 := rfl
theorem il_2100 : (2100 : Int32) = nI 2100 := rfl
theorem il_99999 : (99999 : Int32) = nI 99999 := rfl
theorem il_100000 : (100000 : Int32) = nI 100000 := rfl
theorem il_200000 : (200000 : Int32) = nI 200000 := rfl
theorem il_200001 : (200001 : Int32) = nI 200001 := rfl
theorem il_200002 : (200002 : Int32) = nI 200002 := rfl
theorem il_200003 : (200003 : Int32) = nI 200003 := rfl
theorem il_200004 : (200004 : Int32) = nI 200004 := rfl
theorem il_200005 : (200005 : Int32) = nI 200005 := rfl
theorem il_200006 : (200006 : Int32) = nI 200006 := rfl
theorem il_200007 : (200007 : Int32) = nI 200007 := rfl
theorem il_200008 : (200008 : Int32) = nI 200008 := rfl
theorem il_200009 : (200009 : Int32) = nI 200009 := rfl
theorem il_200010 : (200010 : Int32) = nI 200010 := rfl
theorem il_200011 : (200011 : Int32) = nI 200011 := rfl
theorem il_m1 : (-1 : Int32) = mI 1 := rfl
theorem il_m2 : (-2 : Int32) = mI 2 := rfl
theorem il_m8 : (-8 : Int32) = mI 8 := rfl
theorem ll_0 : (0 : Int64).toInt = 0 := by decide
theorem ll_1 : (1 : Int64).toInt = 1 := by decide
theorem ll_2 : (2 : Int64).toInt = 2 := by decide
theorem ll_3 : (3 : Int64).toInt = 3 := by decide
theorem ll_5 : (5 : Int64).toInt = 5 := by decide
theorem ll_6 : (6 : Int64).toInt = 6 := by decide
theorem ll_7 : (7 : Int64).toInt = 7 := by decide
theorem ll_9 : (9 : Int64).toInt = 9 := by decide
theorem ll_32 : (32 : Int64).toInt = 32 := by decide
theorem ll_48 : (48 : Int64).toInt = 48 := by decide
theorem ll_57 : (57 : Int64).toInt = 57 := by decide
theorem ll_60 : (60 : Int64).toInt = 60 := by decide
theorem ll_65 : (65 : Int64).toInt = 65 := by decide
theorem ll_90 : (90 : Int64).toInt = 90 := by decide
theorem ll_97 : (97 : Int64).toInt = 97 := by decide
theorem ll_99 : (99 : Int64).toInt = 99 := by decide
theorem ll_122 : (122 : Int64).toInt = 122 := by decide
theorem ll_126 : (126 : Int64).toInt = 126 := by decide
theorem ll_m1 : (-1 : Int64).toInt = -1 := by decide
theorem fa_lt (a b : Int32) : a < b ↔ a.toInt < b.toInt := Int32.lt_iff_toInt_lt
theorem fa_le (a b : Int32) : a ≤ b ↔ a.toInt ≤ b.toInt := Int32.le_iff_toInt_le
theorem fa_eq (a b : Int32) : a = b ↔ a.toInt = b.toInt := Int32.toInt_inj.symm
theorem fa_lt64 (a b : Int64) : a < b ↔ a.toInt < b.toInt := Int64.lt_iff_toInt_lt
theorem fa_le64 (a b : Int64) : a ≤ b ↔ a.toInt ≤ b.toInt := Int64.le_iff_toInt_le
theorem fa_eq64 (a b : Int64) : a = b ↔ a.toInt = b.toInt := Int64.toInt_inj.symm
theorem nI_toIntN {n : Nat} (h : n < 2147483648) : (nI n).toInt = (n : Int) := nI_toInt h
theorem mI_toInt {n : Nat} (h : n < 2147483648) : (mI n).toInt = -(n : Int) := sb_negT h
theorem nl_m (a d : Nat) : a - a / d * d = a % d := by
  have h := Nat.div_add_mod a d
  rw [Nat.mul_comm] at h
  omega
theorem vin_T {j N : Nat} (h : j < N) (hN : N < 2147483648) : vp_in (nI j) N = True := eq_true (vp_in_nI h hN)
theorem lt_T {a b : Nat} (h : a < b) (hb : b < 2147483648) : (nI a < nI b) = True := eq_true (nI_lt h hb)
theorem lt_F {a b : Nat} (h : b ≤ a) (ha : a < 2147483648) : (nI a < nI b) = False := eq_false (nI_nlt h ha)
theorem le_T {a b : Nat} (h : a ≤ b) (hb : b < 2147483648) : (nI a ≤ nI b) = True := eq_true (nI_le h hb)
theorem le_F {a b : Nat} (h : b < a) (ha : a < 2147483648) : (nI a ≤ nI b) = False := eq_false (nI_ge h ha)
theorem eq_T {a b : Nat} (h : a = b) : (nI a = nI b) = True := eq_true (by rw [h])
theorem eq_F {a b : Nat} (h : a ≠ b) (ha : a < 2147483648) (hb : b < 2147483648) : (nI a = nI b) = False := eq_false (fun e => h ((nI_eq ha hb).mp e))
theorem lt_I {a b : Nat} (ha : a < 2147483648) (hb : b < 2147483648) : (nI a < nI b) = (a < b) := propext (nI_ltI ha hb)
theorem le_I {a b : Nat} (ha : a < 2147483648) (hb : b < 2147483648) : (nI a ≤ nI b) = (a ≤ b) := propext (nI_leI ha hb)
theorem eq_I {a b : Nat} (ha : a < 2147483648) (hb : b < 2147483648) : (nI a = nI b) = (a = b) := propext (nI_eq ha hb)
theorem mn_eq {a b : Nat} (hb : 0 < b) (h2 : b < 2147483648) (ha : a < 2147483648) : (mI b = nI a) = False := eq_false (fun e => by rw [fa_eq, mI_toInt h2, nI_toIntN ha] at e; omega)
theorem nm_eq {a b : Nat} (hb : 0 < b) (h2 : b < 2147483648) (ha : a < 2147483648) : (nI a = mI b) = False := eq_false (fun e => by rw [fa_eq, mI_toInt h2, nI_toIntN ha] at e; omega)
theorem mn_lt {a b : Nat} (hb : 0 < b) (h2 : b < 2147483648) (ha : a < 2147483648) : (mI b < nI a) = True := eq_true (by rw [fa_lt, mI_toInt h2, nI_toIntN ha]; omega)
theorem nm_lt {a b : Nat} (hb : 0 < b) (h2 : b < 2147483648) (ha : a < 2147483648) : (nI a < mI b) = False := eq_false (by rw [fa_lt, mI_toInt h2, nI_toIntN ha]; omega)
theorem mn_le {a b : Nat} (hb : 0 < b) (h2 : b < 2147483648) (ha : a < 2147483648) : (mI b ≤ nI a) = True := eq_true (by rw [fa_le, mI_toInt h2, nI_toIntN ha]; omega)
theorem nm_le {a b : Nat} (hb : 0 < b) (h2 : b < 2147483648) (ha : a < 2147483648) : (nI a ≤ mI b) = False := eq_false (by rw [fa_le, mI_toInt h2, nI_toIntN ha]; omega)
theorem mm_eq {a b : Nat} (ha : a < 2147483648) (hb : b < 2147483648) : (mI a = mI b) = (a = b) := propext ⟨fun e => by rw [fa_eq, mI_toInt ha, mI_toInt hb] at e; omega, fun e => by rw [e]⟩
/-- a number in a range is one of the kit's -/
theorem asN {a : Int32} {N : Nat} (h : 0 ≤ a.toInt) (h2 : a.toInt < N) : ∃ j : Nat, j < N ∧ a = nI j := by
  obtain ⟨j, hj, e⟩ := nI_of (x := a) (by rw [fa_lt]; show ¬ a.toInt < 0; omega)
  subst e
  rw [nI_toIntN hj] at h2
  exact ⟨j, by omega, rfl⟩
/-- truth as a number -/
noncomputable def bI (p : Prop) : Int32 := @ite _ p (Classical.propDecidable p) 1 0
theorem bI_T {p : Prop} (h : p) : bI p = 1 := if_pos h
theorem bI_F {p : Prop} (h : ¬ p) : bI p = 0 := if_neg h
theorem bI_0 (p : Prop) : (bI p = nI 0) = ¬ p := propext ⟨fun e h => by rw [bI_T h] at e; exact absurd e (by decide), fun h => bI_F h⟩
theorem bI_1 (p : Prop) : (bI p = nI 1) = p := propext ⟨fun e => Classical.byContradiction (fun h => by rw [bI_F h] at e; exact absurd e (by decide)), fun h => bI_T h⟩
theorem bI_or (p : Prop) : bI p = 0 ∨ bI p = 1 := by
  rcases Classical.em p with h | h
  · exact Or.inr (bI_T h)
  · exact Or.inl (bI_F h)
theorem bI_c {p q : Prop} (h : p ↔ q) : bI p = bI q := by rw [propext h]
/-- both ways of a test of a truth value -/
theorem bz {p A B : Prop} (a : p → B) (b : ¬ p → A) : (bI p = 0 → A) ∧ (¬ bI p = 0 → B) := ⟨fun e => b (by rw [il_0, bI_0] at e; exact e), fun e => a (Classical.byContradiction (fun h => e (bI_F h)))⟩
theorem bnz {p A B : Prop} (a : p → B) (b : ¬ p → A) : (¬ bI p = 0 → B) ∧ (bI p = 0 → A) := ⟨(bz a b).2, (bz a b).1⟩
theorem b01 {p : Prop} {A : Prop} (h : A) : (bI p = 0 ∨ bI p = 1) ∧ A := ⟨bI_or p, h⟩
theorem cmp_lt (x y : Int64) : (lg_cmp x y < 0) = (x.toInt < y.toInt) := by
  unfold lg_cmp
  apply propext
  by_cases h1 : x > y
  · rw [if_pos h1]; have h1 : y < x := h1; rw [fa_lt64] at h1; constructor
    · intro h; exact absurd h (by decide)
    · intro h; omega
  · rw [if_neg h1]
    by_cases h2 : x = y
    · rw [if_pos h2, h2]; constructor
      · intro h; exact absurd h (by decide)
      · intro h; omega
    · rw [if_neg h2]; have h1 : ¬ y < x := h1; rw [fa_lt64] at h1; rw [fa_eq64] at h2; constructor
      · intro _; omega
      · intro _; decide
theorem cmp_gt (x y : Int64) : (0 < lg_cmp x y) = (y.toInt < x.toInt) := by
  unfold lg_cmp
  apply propext
  by_cases h1 : x > y
  · rw [if_pos h1]; have h1 : y < x := h1; rw [fa_lt64] at h1; constructor
    · intro _; exact h1
    · intro _; decide
  · rw [if_neg h1]
    have h1 : ¬ y < x := h1
    rw [fa_lt64] at h1
    by_cases h2 : x = y
    · rw [if_pos h2]; constructor
      · intro h; exact absurd h (by decide)
      · intro h; omega
    · rw [if_neg h2]; constructor
      · intro h; exact absurd h (by decide)
      · intro h; omega
theorem cmp_eq (x y : Int64) : (lg_cmp x y = 0) = (x = y) := by
  unfold lg_cmp
  apply propext
  by_cases h1 : x > y
  · rw [if_pos h1]; have h1 : y < x := h1; rw [fa_lt64] at h1; constructor
    · intro h; exact absurd h (by decide)
    · intro h; rw [h] at h1; omega
  · rw [if_neg h1]
    by_cases h2 : x = y
    · rw [if_pos h2]; exact ⟨fun _ => h2, fun _ => rfl⟩
    · rw [if_neg h2]; exact ⟨fun h => absurd h (by decide), fun h => absurd h h2⟩
/-! memory's reads -/
section
variable (M : Mem) (a k b j : Nat)
theorem vi_seti (x : Int32) : vi (seti M a k x) b j = if b = a ∧ j = k then x else vi M b j := rfl
theorem vi_setl (x : Int64) : vi (setl M a k x) = vi M := rfl
theorem vi_setr (x : Option Nat) : vi (setr M a k x) = vi M := rfl
theorem vl_seti (x : Int32) : vl (seti M a k x) = vl M := rfl
theorem vl_setl (x : Int64) : vl (setl M a k x) b j = if b = a ∧ j = k then x else vl M b j := rfl
theorem vl_setr (x : Option Nat) : vl (setr M a k x) = vl M := rfl
theorem vr_seti (x : Int32) : vr (seti M a k x) = vr M := rfl
theorem vr_setl (x : Int64) : vr (setl M a k x) = vr M := rfl
theorem vr_setr (x : Option Nat) : vr (setr M a k x) b j = if b = a ∧ j = k then x else vr M b j := rfl
theorem mK_seti (x : Int32) : mK (seti M a k x) = mK M := rfl
theorem mK_setl (x : Int64) : mK (setl M a k x) = mK M := rfl
theorem mK_setr (x : Option Nat) : mK (setr M a k x) = mK M := rfl
theorem mA_seti (x : Int32) : mA (seti M a k x) = mA M := rfl
theorem mA_setl (x : Int64) : mA (setl M a k x) = mA M := rfl
theorem mA_setr (x : Option Nat) : mA (setr M a k x) = mA M := rfl
theorem mN_seti (x : Int32) : mN (seti M a k x) = mN M := rfl
theorem mN_setl (x : Int64) : mN (setl M a k x) = mN M := rfl
theorem mN_setr (x : Option Nat) : mN (setr M a k x) = mN M := rfl
theorem mS_seti (x : Int32) : mS (seti M a k x) = mS M := rfl
theorem mS_setl (x : Int64) : mS (setl M a k x) = mS M := rfl
theorem mS_setr (x : Option Nat) : mS (setr M a k x) = mS M := rfl
end
/-! FRAMES: what is left as it was. Frl b F L: the object at b keeps all fields but those of F, cells b + o (o in L) may change, all other cells keep all -/
def Frl (b : Nat) (F L : List Nat) (M M' : Mem) : Prop :=
  mN M' = mN M ∧ mS M' = mS M ∧ mK M' = mK M ∧ mA M' = mA M ∧ vr M' = vr M ∧ ∀ a k, (a = b → k ∉ F) → (∀ o ∈ L, a ≠ b + o) → vi M' a k = vi M a k ∧ vl M' a k = vl M a k
section
variable {b : Nat} {F L F' L' : List Nat} {M M' M'' : Mem}
theorem Frl.refl : Frl b F L M M := ⟨rfl, rfl, rfl, rfl, rfl, fun _ _ _ _ => ⟨rfl, rfl⟩⟩
theorem Frl.trans (h : Frl b F L M M') (h2 : Frl b F L M' M'') : Frl b F L M M'' :=
  ⟨h2.1.trans h.1, h2.2.1.trans h.2.1, h2.2.2.1.trans h.2.2.1, h2.2.2.2.1.trans h.2.2.2.1, h2.2.2.2.2.1.trans h.2.2.2.2.1, fun a k h3 h4 => ⟨(h2.2.2.2.2.2 a k h3 h4).1.trans (h.2.2.2.2.2 a k h3 h4).1, (h2.2.2.2.2.2 a k h3 h4).2.trans (h.2.2.2.2.2 a k h3 h4).2⟩⟩
theorem Frl.sub (h : Frl b F L M M') (hF : ∀ o ∈ F, o ∈ F') (hL : ∀ o ∈ L, o ∈ L') : Frl b F' L' M M' :=
  ⟨h.1, h.2.1, h.2.2.1, h.2.2.2.1, h.2.2.2.2.1, fun a k h3 h4 => h.2.2.2.2.2 a k (fun e he => h3 e (hF k he)) (fun o ho => h4 o (hL o ho))⟩
/-- a cell b + o that is not in L keeps its ints, its longs -/
theorem Frl.i (h : Frl b F L M M') {o : Nat} (ho : o ∉ L) (h0 : 0 < o) (k : Nat) : vi M' (b + o) k = vi M (b + o) k := by
  refine (h.2.2.2.2.2 _ _ (fun e => by omega) (fun q hq e => ho ?_)).1
  have e2 : o = q := by omega
  rw [e2]; exact hq
theorem Frl.l (h : Frl b F L M M') {o : Nat} (ho : o ∉ L) (h0 : 0 < o) (k : Nat) : vl M' (b + o) k = vl M (b + o) k := by
  refine (h.2.2.2.2.2 _ _ (fun e => by omega) (fun q hq e => ho ?_)).2
  have e2 : o = q := by omega
  rw [e2]; exact hq
/-- a field that is not in F -/
theorem Frl.f (h : Frl b F L M M') {k : Nat} (hk : k ∉ F) (hL : 0 ∉ L) : vi M' b k = vi M b k := by
  refine (h.2.2.2.2.2 _ _ (fun _ => hk) (fun q hq e => hL ?_)).1
  have e2 : q = 0 := by omega
  rw [← e2]; exact hq
theorem Frl.si {k o : Nat} {x : Int32} (ho : o ∈ L) : Frl b F L M (seti M (b + o) k x) :=
  ⟨rfl, rfl, rfl, rfl, rfl, fun a j _ h4 => ⟨by rw [vi_seti, if_neg (fun e => h4 o ho e.1)], rfl⟩⟩
theorem Frl.sl {k o : Nat} {x : Int64} (ho : o ∈ L) : Frl b F L M (setl M (b + o) k x) :=
  ⟨rfl, rfl, rfl, rfl, rfl, fun a j _ h4 => ⟨rfl, by rw [vl_setl, if_neg (fun e => h4 o ho e.1)]⟩⟩
theorem Frl.sf {k : Nat} {x : Int32} (hk : k ∈ F) : Frl b F L M (seti M b k x) :=
  ⟨rfl, rfl, rfl, rfl, rfl, fun a j h3 _ => ⟨by rw [vi_seti, if_neg (fun e => h3 e.1 (by rw [e.2]; exact hk))], rfl⟩⟩
theorem Frl.ra {m : Nat} (h : Frl b F L M M') (R : RefAt M m) : RefAt M' m := by
  unfold RefAt
  rw [h.2.2.1, h.2.2.2.1, h.2.2.2.2.1]
  exact R
theorem Frl.ob {c a : Nat} (h : Frl b F L M M') (R : ObAt c M a) : ObAt c M' a := by
  unfold ObAt
  rw [h.2.2.1, h.2.2.2.1, h.2.2.2.2.1]
  exact R
end
