/-! THE CLASS'S PUBLIC METHODS, the plain questions -/
section
variable {G : GT} {d : Nat} {w : Nat → Nat} {M : Mem} {x : Nat} {T : StT} {Q : Int32 → Mem → Prop}
theorem fb_lt0 {k : Int32} : (k < 0) = (k.toInt < 0) := propext (fa_lt k 0)
theorem k_at {a b : Int32} (X : XAt M x) (W : CS w M (x + 3) (sh T)) (hq : Q (f_at T a b) M) : CI G (d + 1) 117 [.ref x, .int a, .int b] M Q := by
  have g2 := W.2.1.g
  have w2 := W.2.1.w
  unfold f_at at hq
  have e1 : ¬ a = 0 → (¬ a = 1 → Q (-1) M) ∧ (a = 1 → (b < 0 → Q (-1) M) ∧ (¬ b < 0 → ((vi M (x + 3) 3) ≤ b → Q (-1) M) ∧ (¬ (vi M (x + 3) 3) ≤ b → vp_in b 200 ∧ (Q (vi M ((x + 3) + 2) b.toNatClampNeg) M)))) := by
    intro c0
    rw [cif_F c0] at hq
    unfold f_byte at hq
    rw [W.ww, fb_lt0, fa_le, nI_toIntN (by omega)]
    refine ⟨fun c => by rw [cif_F c] at hq; exact hq, fun c => ?_⟩
    rw [cif_T c] at hq
    refine ⟨fun c2 => by rw [cif_F (by omega)] at hq; exact hq, fun c2 => ⟨fun c3 => by rw [cif_F (by omega)] at hq; exact hq, fun c3 => ?_⟩⟩
    rw [cif_T (by omega)] at hq
    obtain ⟨j, hj, e⟩ := asN (a := b) (N := wN (sh T)) (by omega) (by omega)
    subst e
    rw [nI_clamp (by omega)] at hq ⊢
    exact ⟨vp_in_nI (by omega) (by omega), qv hq (W.wb hj).symm⟩
  refine c_X11_at X ⟨e1, fun c0 => ?_⟩
  rw [cif_T c0] at hq
  unfold f_byte at hq
  rw [W.g, fb_lt0, fa_le (nI (gN (sh T))), nI_toIntN (by omega)]
  have n1 : ¬ a = 1 := fun e => absurd (c0.symm.trans e) (by decide)
  refine ⟨fun c2 => ⟨fun _ => by rw [cif_F (by omega)] at hq; exact hq, fun e => absurd e n1⟩, fun c2 => ⟨fun c3 => ⟨fun _ => by rw [cif_F (by omega)] at hq; exact hq, fun e => absurd e n1⟩, fun c3 => ?_⟩⟩
  rw [cif_T (by omega)] at hq
  obtain ⟨j, hj, e⟩ := asN (a := b) (N := gN (sh T)) (by omega) (by omega)
  subst e
  rw [nI_clamp (by omega)] at hq ⊢
  exact ⟨vp_in_nI (by omega) (by omega), qv hq (W.gb hj).symm⟩
theorem k_mark {a b v : Int32} (X : XAt M x) (W : CS w M (x + 3) (sh T)) (hq : Q (f_mark T a b v) M) : CI G (d + 3) 118 [.ref x, .int a, .int b, .int v] M Q := by
  unfold f_mark at hq
  refine c_X11_mark X (k_find W.t (fun c o e1 e2 => ⟨X, fun r er => ?_, fun er => (by cases er)⟩) (fun c => ⟨X, fun r er => (by cases er), fun _ => by rw [cif_F c] at hq; exact hq⟩))
  cases er
  obtain ⟨h1, h2, -, h3⟩ := isK_slo W.2.1 c
  rw [cif_T c] at hq
  have m := e2.1
  rw [m.f0, m.f1, m.f2, m.f3, m.f4]
  refine ⟨fun c2 => ?_, fun c2 => ⟨m.k, ?_⟩, fun c2 => ⟨m.k, ?_⟩, fun c2 => ⟨m.k, ?_⟩, fun c2 => ⟨m.k, ?_⟩, fun c2 => ⟨m.k, ?_⟩, fun c2 => c_X11_slotOf ⟨X, ?_⟩, trivial⟩
  · rw [cif_F (by omega), cif_F (by omega), cif_F (by omega), cif_F (by omega), cif_F (by omega), cif_F (by omega)] at hq
    exact hq
  · rw [cif_T c2] at hq
    exact hq
  · rw [cif_F (by omega), cif_T c2] at hq
    exact hq
  · rw [cif_F (by omega), cif_F (by omega), cif_T c2] at hq
    exact hq
  · rw [cif_F (by omega), cif_F (by omega), cif_F (by omega), cif_T c2] at hq
    exact hq
  · rw [cif_F (by omega), cif_F (by omega), cif_F (by omega), cif_F (by omega), cif_T c2] at hq
    exact hq
  · rw [cif_F (by omega), cif_F (by omega), cif_F (by omega), cif_F (by omega), cif_F (by omega), cif_T c2] at hq
    rw [h3, nI_clamp (by omega), W.ag h1]
    exact ⟨vp_in_nI h2 (by omega), hq⟩
theorem k_put {a b i : Int32} (X : XAt M x) (W : CS w M (x + 3) (sh T)) (hq : Q (f_put T a b i) M) : CI G (d + 3) 119 [.ref x, .int a, .int b, .int i] M Q := by
  unfold f_put f_byte at hq
  refine c_X11_put X (k_find W.t (fun c o e1 e2 => ⟨X, fun r er => ?_, fun er => (by cases er)⟩) (fun c => ⟨X, fun r er => (by cases er), fun _ => by rw [cif_F c] at hq; exact hq⟩))
  cases er
  obtain ⟨h1, h2, -, h3⟩ := isK_slo W.2.1 c
  rw [cif_T c] at hq
  have m := e2.1
  have l20 := len20 W.2.1 h1
  refine ⟨m.k, ?_⟩
  rcases m.f5 with ⟨c0, n0⟩ | ⟨c0, t, n0, k0, l0, b0⟩
  · rw [n0]
    refine ⟨fun r er => (by cases er), fun _ => ?_⟩
    rw [(W.2.1.m h1).x0 c0, cif_F (by show ¬ (0 ≤ i.toInt ∧ i.toInt < ((0 : Nat) : Int)); omega)] at hq
    exact hq
  · rw [n0, fb_lt0]
    refine ⟨fun r er => ⟨fun c2 => by rw [cif_F (by omega)] at hq; exact hq, fun c2 => ⟨m.k, fun r er => ?_, fun er => (by cases er)⟩⟩, fun er => (by cases er)⟩
    cases er
    rw [k0, l0, fa_lt, nI_toIntN (by omega)]
    refine ⟨by decide, fun c3 => ⟨m.k, fun r er => ?_, fun er => (by cases er)⟩, fun c3 => by rw [cif_F (by omega)] at hq; exact hq⟩
    cases er
    rw [cif_T (by omega)] at hq
    obtain ⟨j, hj, e⟩ := asN (a := i) (N := (kX (kM (sh T) (slo a b))).length) (by omega) (by omega)
    subst e
    rw [nI_clamp (by omega)] at hq
    rw [k0, l0, nI_clamp (by omega), b0 j hj]
    exact ⟨rfl, vp_in_nI hj (by omega), hq⟩
theorem k_clash {a b c e : Int32} (X : XAt M x) (W : CS w M (x + 3) (sh T)) (hq : Q (f_clash T a b c e) M) : CI G (d + 5) 120 [.ref x, .int a, .int b, .int c, .int e] M Q := by
  unfold f_clash at hq
  refine c_X11_clash X (k_find W.t (fun c1 o e1 e2 => ⟨X, fun r er => ?_, fun er => (by cases er)⟩) (fun c1 => ⟨X, fun r er => (by cases er), fun _ => ?_⟩))
  · cases er
    refine k_find W.t (fun c2 o2 e3 e4 => ⟨X, fun r er => ?_, fun er => (by cases er)⟩) (fun c2 => ⟨X, fun r er => (by cases er), fun _ => by rw [cif_F (fun h => c2 h.2.1)] at hq; exact hq⟩)
    cases er
    obtain ⟨h1, -⟩ := isK_slo W.2.1 c1
    obtain ⟨h2, -⟩ := isK_slo W.2.1 c2
    refine ⟨fun c3 => ?_, fun c3 => ⟨fun c4 => ?_, fun c4 => by rw [cif_F (fun h => h.2.2 ⟨c3, c4⟩)] at hq; exact hq⟩⟩
    · rw [cif_T ⟨c1, c2, fun h => c3 h.1⟩] at hq
      exact ⟨e2.1.k, k_meets e2.1 e4.1 (W.2.1.m h1) (W.2.1.m h2) ⟨X, hq⟩⟩
    · rw [cif_T ⟨c1, c2, fun h => c4 h.2⟩] at hq
      exact ⟨e2.1.k, k_meets e2.1 e4.1 (W.2.1.m h1) (W.2.1.m h2) ⟨X, hq⟩⟩
  · rw [cif_F (fun h => c1 h.1)] at hq
    exact k_find W.t (fun _ _ _ _ => ⟨X, fun _ _ => hq, fun _ => hq⟩) (fun _ => ⟨X, fun _ _ => hq, fun _ => hq⟩)
/-! twos of MARKS: counted by rows, or by columns -/
/-- those behind a, up to n -/
noncomputable def ctA (p : Nat → Prop) (a : Nat) : Nat → Nat
  | 0 => 0
  | n + 1 => ctA p a n + cif (a < n ∧ p n) 1 0
noncomputable def twosA (p : Nat → Nat → Prop) (n : Nat) : Nat → Nat
  | 0 => 0
  | i + 1 => twosA p n i + ctA (p i) i n
theorem ctA_0 (p : Nat → Prop) : ∀ n a, n ≤ a + 1 → ctA p a n = 0
  | 0, _, _ => rfl
  | n + 1, a, h => by
    show ctA p a n + cif (a < n ∧ p n) 1 0 = 0
    rw [ctA_0 p n a (by omega), cif_F (fun h2 => by omega)]
theorem twosA_s (p : Nat → Nat → Prop) (n : Nat) : ∀ i, i ≤ n → twosA p (n + 1) i = twosA p n i + ct (fun j => p j n) i
  | 0, _ => rfl
  | i + 1, h => by
    show twosA p (n + 1) i + (ctA (p i) i n + cif (i < n ∧ p i n) 1 0) = twosA p n i + ctA (p i) i n + (ct (fun j => p j n) i + cif (p i n) 1 0)
    rw [twosA_s p n i (by omega)]
    have e : cif (i < n ∧ p i n) 1 0 = cif (p i n) 1 0 := by
      by_cases c : p i n
      · rw [cif_T c, cif_T ⟨by omega, c⟩]
      · rw [cif_F c, cif_F (fun h => c h.2)]
    rw [e]
    omega
theorem twosA_eq (p q : Nat → Nat → Prop) (hpq : ∀ i j, p i j ↔ q j i) : ∀ n, twosA p n n = twos q n
  | 0 => rfl
  | n + 1 => by
    show twosA p (n + 1) n + ctA (p n) n (n + 1) = twos q n + ct (q n) n
    rw [ctA_0 (p n) (n + 1) n (by omega), twosA_s p n n (Nat.le_refl n), twosA_eq p q hpq n, ct_c (fun k _ => hpq k n)]
    omega
theorem mFit_c (x y : MkT) : mFit x y ↔ mFit y x := by
  unfold mFit
  constructor
  · intro h
    rcases h with h | h | h | h
    · exact Or.inl h.symm
    · exact Or.inr (Or.inl ⟨h.1.symm, fun e => h.2 e.symm⟩)
    · exact Or.inr (Or.inr (Or.inr h))
    · exact Or.inr (Or.inr (Or.inl h))
  · intro h
    rcases h with h | h | h | h
    · exact Or.inl h.symm
    · exact Or.inr (Or.inl ⟨h.1.symm, fun e => h.2 e.symm⟩)
    · exact Or.inr (Or.inr (Or.inr h))
    · exact Or.inr (Or.inr (Or.inl h))
/-- CLASH is the same both ways -/
theorem ck_c (x y : MkT) : ck x y = ck y x := by
  unfold ck
  by_cases c1 : kK y < kK x
  · rw [cif_T c1, cif_F (fun c2 => by rw [fa_lt] at c1 c2; omega)]
  · rw [cif_F c1]
    by_cases c2 : kK x < kK y
    · rw [cif_T c2]
    · rw [cif_F c2]
      have e : kK x = kK y := by rw [fa_lt] at c1 c2; rw [fa_eq]; omega
      unfold ck0
      rw [← e]
      by_cases c0 : kK x = 0
      · rw [cif_T c0, cif_T c0, cif_T c0, cif_T c0]
        have : (kF x = kF y ∧ x ≠ y) = (kF y = kF x ∧ y ≠ x) := propext ⟨fun h => ⟨h.1.symm, h.2.symm⟩, fun h => ⟨h.1.symm, h.2.symm⟩⟩
        rw [this]
      · rw [cif_F c0, cif_F c0]
        by_cases c4 : kK x = 4 ∧ kK x = 4
        · rw [cif_T c4, cif_T c4, propext (mFit_c x y)]
        · rw [cif_F c4, cif_F c4]
          have : mCo x y = mCo y x := propext ⟨fun h => ⟨h.2, h.1⟩, fun h => ⟨h.2, h.1⟩⟩
          rw [this]
theorem ck0_nn (x y : MkT) : 0 ≤ (ck0 x y).toInt := by
  unfold ck0 cif
  repeat' split
  all_goals decide
theorem ck_nn (x y : MkT) : 0 ≤ (ck x y).toInt := by
  unfold ck
  by_cases c : kK y < kK x
  · rw [cif_T c]; exact ck0_nn y x
  · rw [cif_F c]; exact ck0_nn x y
theorem ck_pos (x y : MkT) : 0 < ck x y ↔ ¬ ck x y = 0 := by
  have := ck_nn x y
  rw [fa_lt, fa_eq, show (0 : Int32).toInt = 0 from rfl]
  omega
theorem k_clashes_in {k : Int32} (X : XAt M x) (W : CS w M (x + 3) (sh T)) (a n0 : Nat) (ha : a < 64) (hx : At G (d + 5) 121 16 [(0, .ref x), (1, .int k), (2, .int (nI (n0 + ctA (isC (sh T) k a) a 64))), (3, .int (nI (a + 1)))] [] M (qI Q)) :
    ∀ n b : Nat, n + b = 64 → a < b → At G (d + 5) 121 27 [(0, .ref x), (1, .int k), (2, .int (nI (n0 + ctA (isC (sh T) k a) a b))), (3, .int (nI a)), (4, .int (nI b))] [] M (qI Q) := by
  intro n
  induction n with
  | zero => 
    intro b h1 h2
    refine c_X11_clashes_27 X ⟨fun _ => ?_, fun c => absurd (show (64 : Int32) ≤ nI b from nI_le (a := 64) (by omega) (by omega)) c⟩
    rw [nI_1, show b = 64 by omega]
    exact hx
  | succ n ih => 
    intro b h1 h2
    have e0 : ctA (isC (sh T) k a) a (b + 1) = ctA (isC (sh T) k a) a b + cif (a < b ∧ isC (sh T) k a b) 1 0 := rfl
    have y : isC (sh T) k a b → At G (d + 5) 121 27 [(0, .ref x), (1, .int k), (2, .int (nI (n0 + ctA (isC (sh T) k a) a b) + 1)), (3, .int (nI a)), (4, .int (nI (b + 1)))] [] M (qI Q) := fun h => by
      have := ih (b + 1) (by omega) (by omega)
      rw [e0, cif_T ⟨h2, h⟩] at this
      rw [nI_1]
      exact this
    have z : ¬ isC (sh T) k a b → At G (d + 5) 121 27 [(0, .ref x), (1, .int k), (2, .int (nI (n0 + ctA (isC (sh T) k a) a b))), (3, .int (nI a)), (4, .int (nI (b + 1)))] [] M (qI Q) := fun h => by
      have := ih (b + 1) (by omega) (by omega)
      rw [e0, cif_F (fun h2 => h h2.2)] at this
      exact this
    refine c_X11_clashes_27 X ⟨fun c => absurd c (nI_ge (a := b) (b := 64) (by omega) (by decide)), fun _ => ?_⟩
    rw [nI_clamp (by omega), nI_clamp (by omega), nI_1]
    refine ⟨vp_in_nI (by omega) (by omega), fun r1 e1 => ⟨vp_in_nI (by omega) (by omega), fun r2 e2 => ?_, fun e2 => ⟨fun _ => z ?_, fun c => absurd rfl c⟩⟩, fun e1 => ⟨vp_in_nI (by omega) (by omega), fun r2 e2 => ⟨fun _ => z ?_, fun c => absurd rfl c⟩, fun e2 => ⟨fun _ => z ?_, fun c => absurd rfl c⟩⟩⟩
    · have im1 : isM (sh T) a := Classical.byContradiction (fun c => by rw [W.n (by omega) c] at e1; cases e1)
      have im2 : isM (sh T) b := Classical.byContradiction (fun c => by rw [W.n (by omega) c] at e2; cases e2)
      obtain ⟨o1, q1, m1⟩ := W.m im1
      obtain ⟨o2, q2, m2⟩ := W.m im2
      have : r1 = o1 := some_inj q1 e1
      subst this
      have : r2 = o2 := some_inj q2 e2
      subst this
      refine ⟨m1.1.k, k_meets m1.1 m2.1 (W.2.1.m im1) (W.2.1.m im2) ⟨X, fun c => ?_, fun c => ⟨fun c3 => ?_, fun c3 => ⟨fun c4 => ?_, fun c4 => ?_⟩⟩⟩⟩
      · exact z (fun h => ((ck_pos _ _).mp h.2.2.1) c)
      · exact y ⟨im1, im2, (ck_pos _ _).mpr c, Or.inl c3⟩
      · exact z (fun h => h.2.2.2.elim c3 c4)
      · exact y ⟨im1, im2, (ck_pos _ _).mpr c, Or.inr c4⟩
    · intro h
      obtain ⟨o2, q2, m2⟩ := W.m h.2.1
      rw [q2] at e2; cases e2
    · intro h
      obtain ⟨o2, q2, m2⟩ := W.m h.1
      rw [q2] at e1; cases e1
    · intro h
      obtain ⟨o2, q2, m2⟩ := W.m h.1
      rw [q2] at e1; cases e1
theorem k_clashes {k : Int32} (X : XAt M x) (W : CS w M (x + 3) (sh T)) (hq : Q (f_clashes T k) M) : CI G (d + 5) 121 [.ref x, .int k] M Q := by
  unfold f_clashes at hq
  refine c_X11_clashes X ?_
  rw [fb_lt0, fa_le, show (6 : Int32).toInt = 6 from rfl]
  refine ⟨fun c => by rw [cif_F (by omega)] at hq; exact hq, fun c => ⟨fun c2 => ?_, fun c2 => by rw [cif_F (by omega)] at hq; exact hq⟩⟩
  rw [cif_T (by omega), ← twosA_eq (isC (sh T) k) (isC (sh T) k) (fun i j => ?_) 64] at hq
  · have key : ∀ n a : Nat, n + a = 64 → At G (d + 5) 121 16 [(0, .ref x), (1, .int k), (2, .int (nI (twosA (isC (sh T) k) 64 a))), (3, .int (nI a))] [] M (qI Q) := by
      intro n
      induction n with
      | zero => 
        intro a h1
        refine c_X11_clashes_16 X ⟨fun _ => ?_, fun c => absurd (show (64 : Int32) ≤ nI a from nI_le (a := 64) (by omega) (by omega)) c⟩
        rw [show a = 64 by omega]
        exact hq
      | succ n ih => 
        intro a h1
        refine c_X11_clashes_16 X ⟨fun c => absurd c (nI_ge (a := a) (b := 64) (by omega) (by decide)), fun _ => ?_⟩
        rw [nI_1]
        have := k_clashes_in X W a (twosA (isC (sh T) k) 64 a) (by omega) (ih (a + 1) (by omega)) (64 - (a + 1)) (a + 1) (by omega) (by omega)
        rw [ctA_0 _ (a + 1) a (by omega)] at this
        exact this
    exact key 64 0 rfl
  · unfold isC
    rw [ck_c (kM (sh T) i) (kM (sh T) j)]
    exact ⟨fun h => ⟨h.2.1, h.1, h.2.2⟩, fun h => ⟨h.2.1, h.1, h.2.2⟩⟩
theorem k_count {v : Int32} (X : XAt M x) (W : CS w M (x + 3) (sh T)) (ht : vi M (x + 1) 1 = nI (tN T)) (hl : vi M x 12 = nI (qN T)) (hq : Q (f_count T v) M) : CI G (d + 2) 138 [.ref x, .int v] M Q := by
  unfold f_count at hq
  have h4 := W.2.1.h
  refine c_X11_count X ?_
  rw [W.g, W.ww, W.h, ht, hl, fa_le, show (5 : Int32).toInt = 5 from rfl]
  refine ⟨fun c => ⟨fun c2 => ?_, fun c2 => ?_⟩, fun c => ?_, fun c => ?_, fun c => ?_, fun c => k_allTold W.t ⟨X, ?_⟩, fun c => ?_, fun c => ?_, trivial⟩
  · rw [cif_F (by omega), cif_F (by omega), cif_F (by omega), cif_F (by omega), cif_F (by omega), cif_F (by omega), cif_F (by omega)] at hq
    exact hq
  · rw [cif_F (by omega), cif_F (by omega), cif_F (by omega), cif_F (by omega), cif_F (by omega), cif_F (by omega)] at hq
    have e6 : (v - 6).toInt = v.toInt - 6 := by
      rw [Int32.toInt_sub]
      have h1 := Int32.toInt_lt v
      exact Int.bmod_eq_of_le (by show -((4294967296 : Nat) / 2 : Int) ≤ v.toInt - 6; omega) (by show v.toInt - 6 < ((4294967296 : Nat) + 1 : Int) / 2; omega)
    refine k_hasHand W.1 W.h h4 ⟨X, bz (fun c3 => ?_) (fun c3 => ?_)⟩
    · rw [e6] at c3
      rw [cif_T (by omega)] at hq
      obtain ⟨j, hj, e⟩ := asN (a := v - 6) (N := 4) (by rw [e6]; omega) (by rw [e6]; omega)
      have e7 : (v.toInt - 6).toNat = j := by rw [← e6, e, nI_toIntN (by omega)]; omega
      rw [e7] at hq
      rw [e, nI_clamp (by omega), W.c hj]
      exact ⟨vp_in_nI hj (by omega), hq⟩
    · rw [e6] at c3
      rw [cif_F (by omega)] at hq
      exact hq
  · rw [cif_T c] at hq
    exact hq
  · rw [cif_F (by omega), cif_T c] at hq
    exact hq
  · rw [cif_F (by omega), cif_F (by omega), cif_T c] at hq
    exact hq
  · rw [cif_F (by omega), cif_F (by omega), cif_F (by omega), cif_T c] at hq
    rw [allM_4 W.2.1]
    exact hq
  · rw [cif_F (by omega), cif_F (by omega), cif_F (by omega), cif_F (by omega), cif_T c] at hq
    exact hq
  · rw [cif_F (by omega), cif_F (by omega), cif_F (by omega), cif_F (by omega), cif_F (by omega), cif_T c] at hq
    exact hq
end
