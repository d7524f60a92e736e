/-! UNSEEN and RATE -/
theorem bI_eq (p q : Prop) : (bI p = bI q) ↔ (p ↔ q) := by
  by_cases h1 : p
  · by_cases h2 : q
    · rw [bI_T h1, bI_T h2]; exact ⟨fun _ => ⟨fun _ => h2, fun _ => h1⟩, fun _ => rfl⟩
    · rw [bI_T h1, bI_F h2]; exact ⟨fun e => absurd e (by decide), fun e => absurd (e.mp h1) h2⟩
  · by_cases h2 : q
    · rw [bI_F h1, bI_T h2]; exact ⟨fun e => absurd e (by decide), fun e => absurd (e.mpr h2) h1⟩
    · rw [bI_F h1, bI_F h2]; exact ⟨fun _ => ⟨fun h => absurd h h1, fun h => absurd h h2⟩, fun _ => rfl⟩
theorem ct_lim {p : Nat → Prop} {n : Nat} : ∀ m, n ≤ m → ct (fun k => k < n ∧ p k) m = ct p n
  | 0, h => by rw [show n = 0 by omega]; rfl
  | m + 1, h => by
    rcases Nat.lt_or_ge n (m + 1) with z | z
    · rw [ct_n (fun h2 => by omega)]
      exact ct_lim m (by omega)
    · have e : n = m + 1 := by omega
      subst e
      exact ct_c (fun k hk => ⟨fun h => h.2, fun h => ⟨hk, h⟩⟩)
section
variable {G : GT} {d : Nat} {M : Mem} {m : Nat} {S : ShT} {Q : Int32 → Mem → Prop}
theorem s_divisor {b : Nat} (hb : b < 2147483648) : ∀ (a : Nat) (b : Nat), a < 2147483648 → b < 2147483648 → Q (nI (Nat.gcd a b)) M → CI G (d + 1) 158 [.int (nI a), .int (nI b)] M Q := by
  intro a b ha hb hq
  refine r_divisor ?_
  have key : ∀ (n a b : Nat), a < n → a < 2147483648 → b < 2147483648 → Q (nI (Nat.gcd a b)) M → At G (d + 1) 158 4 [(2, .int (nI a)), (3, .int (nI b))] [] M (qI Q) := by
    intro n
    induction n with
    | zero => intro a b h; exact absurd h (by omega)
    | succ n ih => 
      intro a b h1 ha hb hq
      refine r_divisor_4 ?_
      rw [il_0, eq_I ha (by omega)]
      refine ⟨fun c => ?_, fun c => ⟨c, ?_⟩⟩
      · subst c
        rw [Nat.gcd_zero_left] at hq
        exact hq
      · rw [pk_rem hb (by omega) ha]
        have h2 : b % a < a := Nat.mod_lt _ (by omega)
        refine ih (b % a) a (by omega) (by omega) ha ?_
        rw [← Nat.gcd_rec]
        exact hq
  exact key (a + 1) a b (by omega) ha hb hq
/-- a part of a / b in lowest terms -/
noncomputable def f_part (a b : Nat) (p : Int32) : Int32 := cif (b = 0) (-2) (cif (p = 0) (nI (a / Nat.gcd a b)) (nI (b / Nat.gcd a b)))
theorem k_partOf {a b : Nat} {p : Int32} (ha : a < 2147483648) (hb : b ≤ 60) (hq : Q (f_part a b p) M) : CI G (d + 1) 153 [.int (nI a), .int (nI b), .int p] M Q := by
  unfold f_part at hq
  refine c_X11_partOf ⟨fun c0 => ?_, fun c0 => ?_⟩
  · rw [il_0, eq_I (by omega) (by omega)] at c0
    rw [cif_F c0] at hq
    have gl : Nat.gcd a b ≤ b := Nat.gcd_le_right _ (by omega)
    have gp : 0 < Nat.gcd a b := Nat.gcd_pos_of_pos_right _ (by omega)
    have fin : ∀ g, g = Nat.gcd a b → (¬ nI g = 0 → (¬ p = 0 → ¬ nI g = 0 ∧ (Q (nI b / nI g) M)) ∧ (p = 0 → ¬ nI g = 0 ∧ (Q (nI a / nI g) M))) ∧ (nI g = 0 → Q (-2) M) := by
      intro g e
      subst e
      have ng : ¬ nI (Nat.gcd a b) = 0 := nI_ne0 gp (by omega)
      refine ⟨fun _ => ⟨fun c => ⟨ng, ?_⟩, fun c => ⟨ng, ?_⟩⟩, fun c => absurd c ng⟩
      · rw [cif_F c] at hq
        rw [pk_div (by omega) gp (by omega)]
        exact hq
      · rw [cif_T c] at hq
        rw [pk_div ha gp (by omega)]
        exact hq
    have key : ∀ (n r cm i : Nat), r < n → cm < 2147483648 → i + r ≤ 62 → Nat.gcd r cm = Nat.gcd a b → At G (d + 1) 153 15 [(0, .int (nI a)), (1, .int (nI b)), (2, .int p), (3, .int (nI cm)), (4, .int (nI r)), (5, .int (nI i))] [] M (qI Q) := by
      intro n
      induction n with
      | zero => intro r cm i h; exact absurd h (by omega)
      | succ n ih => 
        intro r cm i h1 hcm hi hg
        refine c_X11_partOf_15 ⟨fun c => absurd c (nI_ge (a := i) (b := 64) (by omega) (by decide)), fun _ => ⟨fun c => ?_, fun c => ⟨c, ?_⟩⟩⟩
        · rw [il_0, eq_I (by omega) (by omega)] at c
          rw [c, Nat.gcd_zero_left] at hg
          exact fin cm hg
        · rw [il_0, eq_I (by omega) (by omega)] at c
          rw [pk_rem hcm (by omega) (by omega), nI_1]
          have h2 : cm % r < r := Nat.mod_lt _ (by omega)
          refine ih (cm % r) r (i + 1) (by omega) (by omega) (by omega) ?_
          rw [← Nat.gcd_rec]
          exact hg
    refine c_X11_partOf_15 ⟨fun c => absurd c (by decide), fun _ => ⟨fun c => ?_, fun c => ⟨c, ?_⟩⟩⟩
    · rw [il_0, eq_I (by omega) (by omega)] at c
      refine fin b ?_
      rw [c, Nat.gcd_zero_left]
    · rw [il_0, eq_I (by omega) (by omega)] at c
      rw [pk_rem (by omega) (by omega) ha, il_0, nI_1]
      have h2 : b % a ≤ b := Nat.mod_le _ _
      refine key (b % a + 1) (b % a) a 1 (by omega) ha (by omega) ?_
      rw [← Nat.gcd_rec]
  · rw [il_0, eq_I (by omega) (by omega)] at c0
    rw [cif_T c0] at hq
    exact hq
/-- the k-th MARK of a HAND is none like an earlier one -/
def firs (S : ShT) (h k : Nat) : Prop := ¬ ∃ j, j < k ∧ kM S (16 * h + j) = kM S (16 * h + k)
theorem s_isFirst {h k : Nat} (W : RS M m S) (hk : k < hC S h) (hq : Q (bI (firs S h k)) M) : CI G (d + 2) 263 [.ref m, .int (nI (16 * h + k))] M Q := by
  have im := isM_of W.2.1 hk
  have h4 := W.2.1.h
  refine r_isFirst W.1 ⟨by decide, ?_⟩
  rw [show (16 : Int32) = nI 16 from rfl, pk_div (by omega) (by omega) (by omega), pk_mul, show 16 * ((16 * h + k) / 16) = 16 * h by omega]
  have key : ∀ n i : Nat, n + i = k → At G (d + 2) 263 10 [(0, .ref m), (1, .int (nI (16 * h + k))), (2, .int (bI (¬ ∃ j, j < i ∧ kM S (16 * h + j) = kM S (16 * h + k)))), (3, .int (nI (16 * h + i)))] [] M (qI Q) := by
    intro n
    induction n with
    | zero => 
      intro i h1
      refine r_isFirst_10 W.1 ⟨fun _ => ?_, fun c => absurd (nI_le (by omega) (by omega)) c⟩
      rw [show i = k by omega]
      exact b01 hq
    | succ n ih => 
      intro i h1
      have hi := isM_of W.2.1 (show i < hC S h by omega)
      refine r_isFirst_10 W.1 ⟨fun c => absurd c (nI_ge (by omega) (by omega)), fun _ => ?_⟩
      rw [nI_1]
      have nx := ih (i + 1) (by omega)
      refine bz (fun c => s_areAlike W hi.1 im.1 ⟨W.1, bnz (fun c2 => ?_) (fun c2 => ?_)⟩) (fun c => ?_)
      · rw [bI_F (fun h => h ⟨i, by omega, c2⟩)] at nx
        exact nx
      · have hn : ¬ ∃ j, j < i + 1 ∧ kM S (16 * h + j) = kM S (16 * h + k) := fun ⟨j, h1, h2⟩ => by
          rcases Nat.lt_or_ge j i with z | z
          · exact c ⟨j, z, h2⟩
          · rw [show j = i by omega] at h2; exact c2 h2
        rw [bI_T hn] at nx
        exact nx
      · rw [bI_F (fun h => c (fun ⟨j, h1, h2⟩ => h ⟨j, by omega, h2⟩))] at nx
        exact nx
  have := key k 0 rfl
  rw [bI_T (fun ⟨j, h1, _⟩ => by omega)] at this
  exact this
def isTd (S : ShT) (h o : Nat) (k : Int32) (b : Prop) (i : Nat) : Prop := firs S h i ∧ (k = 6 ∨ kK (kM S (16 * h + i)) = k) ∧ (tell S o (kM S (16 * h + i)) ↔ b)
noncomputable def tld (S : ShT) (h o : Nat) (k : Int32) (b : Prop) : Nat := ct (isTd S h o k b) (hC S h)
theorem s_told {h o : Nat} {k : Int32} {b : Prop} (W : RS M m S) (hh : h < hN S) (ho : o < hN S) (hq : Q (nI (tld S h o k b)) M) : CI G (d + 3) 264 [.ref m, .int (nI h), .int (nI o), .int k, .int (bI b)] M Q := by
  have h4 := W.2.1.h
  have h16 := W.2.1.c h
  refine r_told W.1 ?_
  rw [show (16 : Int32) = nI 16 from rfl, pk_mul]
  have key : ∀ n i : Nat, n + i = hC S h → At G (d + 3) 264 9 [(0, .ref m), (1, .int (nI h)), (2, .int (nI o)), (3, .int k), (4, .int (bI b)), (5, .int (nI (ct (isTd S h o k b) i))), (6, .int (nI (16 * h + i)))] [] M (qI Q) := by
    intro n
    induction n with
    | zero => 
      intro i h1
      refine r_told_9 W.1 ?_
      rw [nI_clamp (by omega), W.2.2.c hh, show (16 : Int32) = nI 16 from rfl, pk_mul, nI_add]
      refine ⟨vp_in_nI (by omega) (by omega), fun _ => ?_, fun c => absurd (nI_le (by omega) (by omega)) c⟩
      rw [show i = hC S h by omega]
      exact hq
    | succ n ih => 
      intro i h1
      have im := isM_of W.2.1 (show i < hC S h by omega)
      have nx := ih (i + 1) (by omega)
      have y : isTd S h o k b i → At G (d + 3) 264 9 [(0, .ref m), (1, .int (nI h)), (2, .int (nI o)), (3, .int k), (4, .int (bI b)), (5, .int (nI (ct (isTd S h o k b) i) + 1)), (6, .int (nI (16 * h + i) + 1))] [] M (qI Q) := fun z => by
        rw [ct_y z] at nx
        rw [nI_1, nI_1]
        exact nx
      have no : ¬ isTd S h o k b i → At G (d + 3) 264 9 [(0, .ref m), (1, .int (nI h)), (2, .int (nI o)), (3, .int k), (4, .int (bI b)), (5, .int (nI (ct (isTd S h o k b) i) + 0)), (6, .int (nI (16 * h + i) + 1))] [] M (qI Q) := fun z => by
        rw [ct_n z] at nx
        rw [il_0, nI_add, nI_1]
        exact nx
      refine r_told_9 W.1 ?_
      rw [nI_clamp (by omega), W.2.2.c hh, show (16 : Int32) = nI 16 from rfl, pk_mul, nI_add]
      refine ⟨vp_in_nI (by omega) (by omega), fun c => absurd c (nI_ge (by omega) (by omega)), fun _ => s_isFirst W (by omega) ⟨W.1, bz (fun c1 => ⟨fun c2 => s_tells W ho im.1 ⟨W.1, ?_⟩, fun c2 => ⟨vp_in_nI (by omega) (by omega), ?_⟩⟩) (fun c1 => no (fun z => c1 z.1))⟩⟩
      · rw [bI_eq]
        exact ⟨fun c3 => no (fun z => c3 z.2.2), fun c3 => y ⟨c1, Or.inl c2, c3⟩⟩
      · rw [nI_clamp (by omega), W.2.2.m7 im.1]
        refine ⟨fun c3 => no (fun z => z.2.1.elim c2 c3), fun c3 => s_tells W ho im.1 ⟨W.1, ?_⟩⟩
        rw [bI_eq]
        exact ⟨fun c4 => no (fun z => c4 z.2.2), fun c4 => y ⟨c1, Or.inr c3, c4⟩⟩
  exact key (hC S h) 0 (by omega)
end
section
variable {G : GT} {d : Nat} {M : Mem} {m x : Nat} {T : StT} {Q : Int32 → Mem → Prop}
def uOk (S : ShT) (a b k p : Int32) : Prop := (0 ≤ a.toInt ∧ a.toInt < hN S) ∧ (0 ≤ b.toInt ∧ b.toInt < hN S) ∧ a ≠ b ∧ (0 ≤ k.toInt ∧ k.toInt ≤ 6) ∧ 0 ≤ p.toInt ∧ p.toInt ≤ 1
noncomputable def f_unseen (T : StT) (a b k p : Int32) : Int32 := cif (uOk (sh T) a b k p)
  (f_part (tld (sh T) a.toNatClampNeg b.toNatClampNeg k False * tld (sh T) b.toNatClampNeg a.toNatClampNeg k False) (tld (sh T) a.toNatClampNeg b.toNatClampNeg k True) p) (-1)
theorem tld_le {S : ShT} (V : okS S) {h o : Nat} {k : Int32} {b : Prop} : tld S h o k b ≤ 16 := Nat.le_trans (ct_le _ _) (V.c h)
theorem mul_le16 {a b : Nat} (ha : a ≤ 16) (hb : b ≤ 16) : a * b ≤ 256 := Nat.le_trans (Nat.mul_le_mul ha hb) (by decide)
theorem m_unseen {a b k p : Int32} (W : RX M m T) (hq : Q (f_unseen T a b k p) M) : CI G (d + 4) 265 [.ref m, .int a, .int b, .int k, .int p] M Q := by
  have V := W.rs.2.1
  have h4 := V.h
  unfold f_unseen at hq
  have no : ¬ uOk (sh T) a b k p → Q (-1) M := fun n => by rw [cif_F n] at hq; exact hq
  refine r_unseen W.1 (s_isHand W.rs ⟨W.1, bz (fun c1 => s_isHand W.rs ⟨W.1, bz (fun c2 => ⟨fun c3 => no (fun z => z.2.2.1 c3), fun c3 => ?_⟩) (fun c2 => no (fun z => c2 z.2.1))⟩) (fun c1 => no (fun z => c1 z.1))⟩)
  refine s_in (0 ≤ k.toInt ∧ k.toInt ≤ 6) (by rw [Int32.toInt_toInt64, ll_0, ll_6]) ⟨W.1, bz (fun c4 => ?_) (fun c4 => no (fun z => c4 z.2.2.2.1))⟩
  refine s_in (0 ≤ p.toInt ∧ p.toInt ≤ 1) (by rw [Int32.toInt_toInt64, ll_0, ll_1]) ⟨W.1, bnz (fun c5 => ?_) (fun c5 => no (fun z => c5 z.2.2.2.2))⟩
  rw [cif_T ⟨c1, c2, c3, c4, c5⟩] at hq
  obtain ⟨i, hi, e1⟩ := asN c1.1 c1.2
  obtain ⟨j, hj, e2⟩ := asN c2.1 c2.2
  subst e1 e2
  rw [nI_clamp (by omega), nI_clamp (by omega)] at hq
  have l1 := tld_le (k := k) (b := False) V (h := i) (o := j)
  have l2 := tld_le (k := k) (b := False) V (h := j) (o := i)
  have l3 := tld_le (k := k) (b := True) V (h := i) (o := j)
  have l4 := mul_le16 l1 l2
  unfold f_part at hq
  rw [show (1 : Int32) = bI True from (bI_T trivial).symm]
  refine s_told W.rs hi hj ⟨W.1, fun c6 => ?_, fun c6 => ?_⟩
  · rw [il_0, eq_I (by omega) (by omega)] at c6
    rw [cif_F c6] at hq
    rw [show (0 : Int32) = bI False from (bI_F (fun h => h)).symm]
    refine s_told W.rs hi hj ⟨W.1, s_told W.rs hj hi ⟨W.1, ?_⟩⟩
    rw [pk_mul]
    have gp : 0 < Nat.gcd (tld (sh T) i j k False * tld (sh T) j i k False) (tld (sh T) i j k True) := Nat.gcd_pos_of_pos_right _ (by omega)
    have gl : Nat.gcd (tld (sh T) i j k False * tld (sh T) j i k False) (tld (sh T) i j k True) ≤ tld (sh T) i j k True := Nat.gcd_le_right _ (by omega)
    refine s_divisor (b := 0) (by omega) _ _ (by omega) (by omega) ⟨W.1, ?_⟩
    rw [bI_F (fun h => h)]
    have ng := nI_ne0 gp (by omega)
    refine ⟨fun c7 => ⟨ng, ?_⟩, fun c7 => ⟨ng, ?_⟩⟩
    · rw [cif_F c7] at hq
      rw [pk_div (by omega) gp (by omega)]
      exact hq
    · rw [cif_T c7] at hq
      rw [pk_div (by omega) gp (by omega)]
      exact hq
  · rw [il_0, eq_I (by omega) (by omega)] at c6
    rw [cif_T c6] at hq
    exact hq
/-! RATE -/
/-- told by others, the first of those ALIKE -/
def isR (S : ShT) (h s : Nat) : Prop := isM S s ∧ s / 16 ≠ h ∧ ¬ ∃ o, o < s ∧ isM S o ∧ o / 16 ≠ h ∧ kM S o = kM S s
def rOk (S : ShT) (a p : Int32) : Prop := (0 ≤ a.toInt ∧ a.toInt < hN S) ∧ 0 ≤ p.toInt ∧ p.toInt ≤ 1
noncomputable def rAl (S : ShT) (h : Nat) : Nat := ct (isR S h) 64
noncomputable def rSe (S : ShT) (h : Nat) : Nat := ct (fun s => isR S h s ∧ tell S h (kM S s)) 64
noncomputable def f_rate (T : StT) (a p : Int32) : Int32 := cif (rOk (sh T) a p) (f_part (rSe (sh T) a.toNatClampNeg) (rAl (sh T) a.toNatClampNeg) p) (-1)
theorem s_rate_in {h : Nat} {p : Int32} {al se s : Nat} (W : RX M m T) (hh : h < hN (sh T)) (hs : s < 64)
    (hx : ∀ al' se', al' = al + cif (isR (sh T) h s) 1 0 → se' = se + cif (isR (sh T) h s ∧ tell (sh T) h (kM (sh T) s)) 1 0 → At G (d + 5) 266 28 [(0, .ref m), (1, .int (nI h)), (2, .int p), (3, .int (nI al')), (4, .int (nI se')), (5, .int (nI (s + 1)))] [] M (qI Q)) :
    ∀ (n o : Nat) (P : Prop), n + o = s → (P ↔ isM (sh T) s ∧ s / 16 ≠ h ∧ ¬ ∃ q, q < o ∧ isM (sh T) q ∧ q / 16 ≠ h ∧ kM (sh T) q = kM (sh T) s) → At G (d + 5) 266 63 [(0, .ref m), (1, .int (nI h)), (2, .int p), (3, .int (nI al)), (4, .int (nI se)), (5, .int (nI s)), (6, .int (bI P)), (7, .int (nI o))] [] M (qI Q) := by
  have h4 := W.rs.2.1.h
  have fin0 : ¬ isR (sh T) h s → At G (d + 5) 266 28 [(0, .ref m), (1, .int (nI h)), (2, .int p), (3, .int (nI al + 0)), (4, .int (nI se + 0)), (5, .int (nI s + 1))] [] M (qI Q) := fun z => by
    rw [il_0, nI_add, nI_add, nI_1]
    exact hx _ _ (by rw [cif_F z]) (by rw [cif_F (fun h => z h.1)])
  have fin1 : isR (sh T) h s → CI G (d + 4) 205 [.ref m, .int (nI h), .int (nI s)] M (fun v12 M11 => RefAt M11 m ∧ ((v12 = 0 → At G (d + 5) 266 28 [(0, .ref m), (1, .int (nI h)), (2, .int p), (3, .int (nI al + 1)), (4, .int (nI se + 0)), (5, .int (nI s + 1))] [] M11 (qI Q)) ∧ (¬ v12 = 0 → At G (d + 5) 266 28 [(0, .ref m), (1, .int (nI h)), (2, .int p), (3, .int (nI al + 1)), (4, .int (nI se + 1)), (5, .int (nI s + 1))] [] M11 (qI Q)))) := fun z => by
    refine s_tells W.rs hh z.1 ⟨W.1, bz (fun c => ?_) (fun c => ?_)⟩
    · rw [nI_1, nI_1, nI_1]
      exact hx _ _ (by rw [cif_T z]) (by rw [cif_T ⟨z, c⟩])
    · rw [il_0, nI_add, nI_1, nI_1]
      exact hx _ _ (by rw [cif_T z]) (by rw [cif_F (fun h => c h.2)])
  intro n
  induction n with
  | zero => 
    intro o P h1 h2
    have e : o = s := by omega
    subst e
    have eP : P ↔ isR (sh T) h o := h2
    refine r_rate_63 W.1 ⟨fun _ => bz (fun c => ⟨fun c2 => absurd c2 (by rw [bI_T c]; decide), fun _ => fin1 (eP.mp c)⟩) (fun c => ⟨fun _ => fin0 (fun z => c (eP.mpr z)), fun c2 => absurd (bI_F c) c2⟩), fun c => absurd (nI_le (by omega) (by omega)) c⟩
  | succ n ih => 
    intro o P h1 h2
    refine r_rate_63 W.1 ⟨fun c => absurd c (nI_ge (by omega) (by omega)), fun _ => bz (fun c => ?_) (fun c => bz (fun c2 => absurd c2 c) (fun _ => ⟨fun _ => fin0 (fun z => c (h2.mpr ⟨z.1, z.2.1, fun ⟨q, q1, q2⟩ => z.2.2 ⟨q, by omega, q2⟩⟩)), fun c2 => absurd (bI_F c) c2⟩))⟩
    have hP := h2.mp c
    rw [nI_1]
    have stay : ¬ (isM (sh T) o ∧ o / 16 ≠ h ∧ kM (sh T) o = kM (sh T) s) → At G (d + 5) 266 63 [(0, .ref m), (1, .int (nI h)), (2, .int p), (3, .int (nI al)), (4, .int (nI se)), (5, .int (nI s)), (6, .int 1), (7, .int (nI (o + 1)))] [] M (qI Q) := fun z => by
      have := ih (o + 1) True (by omega) ⟨fun _ => ⟨hP.1, hP.2.1, fun ⟨q, q1, q2⟩ => ?_⟩, fun _ => trivial⟩
      · rw [bI_T trivial] at this
        exact this
      · rcases Nat.lt_or_ge q o with y | y
        · exact hP.2.2 ⟨q, y, q2⟩
        · rw [show q = o by omega] at q2; exact z q2
    refine s_isThere W.rs (by omega) ⟨W.1, bz (fun c3 => ⟨by decide, ?_⟩) (fun c3 => stay (fun z => c3 z.1))⟩
    rw [show (16 : Int32) = nI 16 from rfl, pk_div (by omega) (by omega) (by omega), eq_I (by omega) (by omega)]
    refine ⟨fun c4 => stay (fun z => z.2.1 c4), fun c4 => s_areAlike W.rs c3 hP.1 ⟨W.1, bnz (fun c5 => ?_) (fun c5 => stay (fun z => c5 z.2.2))⟩⟩
    have := ih (o + 1) False (by omega) ⟨False.elim, fun z => z.2.2 ⟨o, by omega, c3, c4, c5⟩⟩
    rw [bI_F (fun h => h)] at this
    exact this
theorem m_rate {a p : Int32} (W : RX M m T) (hq : Q (f_rate T a p) M) : CI G (d + 5) 266 [.ref m, .int a, .int p] M Q := by
  have V := W.rs.2.1
  have h4 := V.h
  unfold f_rate at hq
  have no : ¬ rOk (sh T) a p → Q (-1) M := fun n => by rw [cif_F n] at hq; exact hq
  refine r_rate W.1 (s_isHand W.rs ⟨W.1, bz (fun c1 => ?_) (fun c1 => no (fun z => c1 z.1))⟩)
  refine s_in (0 ≤ p.toInt ∧ p.toInt ≤ 1) (by rw [Int32.toInt_toInt64, ll_0, ll_1]) ⟨W.1, bnz (fun c5 => ?_) (fun c5 => no (fun z => c5 z.2))⟩
  rw [cif_T ⟨c1, c5⟩] at hq
  obtain ⟨h, hh, e1⟩ := asN c1.1 c1.2
  subst e1
  rw [nI_clamp (by omega)] at hq
  have key : ∀ n s : Nat, n + s = 64 → At G (d + 5) 266 28 [(0, .ref m), (1, .int (nI h)), (2, .int p), (3, .int (nI (ct (isR (sh T) h) s))), (4, .int (nI (ct (fun s => isR (sh T) h s ∧ tell (sh T) h (kM (sh T) s)) s))), (5, .int (nI s))] [] M (qI Q) := by
    intro n
    induction n with
    | zero => 
      intro s h1
      have e : s = 64 := by omega
      subst e
      have l1 : rAl (sh T) h ≤ 64 := ct_le _ _
      have l2 : rSe (sh T) h ≤ 64 := ct_le _ _
      unfold f_part at hq
      refine r_rate_28 W.1 ⟨fun _ => ⟨fun c6 => ?_, fun c6 => ?_⟩, fun c => absurd (by decide) c⟩
      · have c6 : ¬ nI (rAl (sh T) h) = 0 := c6
        rw [il_0, eq_I (by omega) (by omega)] at c6
        rw [cif_F c6] at hq
        have gp : 0 < Nat.gcd (rSe (sh T) h) (rAl (sh T) h) := Nat.gcd_pos_of_pos_right _ (by omega)
        have gl : Nat.gcd (rSe (sh T) h) (rAl (sh T) h) ≤ rAl (sh T) h := Nat.gcd_le_right _ (by omega)
        have ng := nI_ne0 gp (by omega)
        refine s_divisor (b := 0) (by omega) (rSe (sh T) h) (rAl (sh T) h) (by omega) (by omega) ⟨W.1, fun c7 => ⟨ng, ?_⟩, fun c7 => ⟨ng, ?_⟩⟩
        · rw [cif_F c7] at hq
          exact qv hq (pk_div (by omega) gp (by omega)).symm
        · rw [cif_T c7] at hq
          exact qv hq (pk_div (by omega) gp (by omega)).symm
      · have c6 : nI (rAl (sh T) h) = 0 := c6
        rw [il_0, eq_I (by omega) (by omega)] at c6
        rw [cif_T c6] at hq
        exact hq
    | succ n ih => 
      intro s h1
      have inn := s_rate_in (G := G) (d := d) (p := p) (Q := Q) (al := ct (isR (sh T) h) s) (se := ct (fun s => isR (sh T) h s ∧ tell (sh T) h (kM (sh T) s)) s) (s := s) W hh (by omega) (fun al' se' e1 e2 => by
        have := ih (s + 1) (by omega)
        rw [e1, e2]
        exact this)
      have no0 : ∀ P : Prop, (P ↔ isM (sh T) s ∧ s / 16 ≠ h) → At G (d + 5) 266 63 [(0, .ref m), (1, .int (nI h)), (2, .int p), (3, .int (nI (ct (isR (sh T) h) s))), (4, .int (nI (ct (fun s => isR (sh T) h s ∧ tell (sh T) h (kM (sh T) s)) s))), (5, .int (nI s)), (6, .int (bI P)), (7, .int 0)] [] M (qI Q) := fun P hP =>
        inn s 0 P (by omega) ⟨fun z => ⟨(hP.mp z).1, (hP.mp z).2, fun ⟨q, q1, _⟩ => by omega⟩, fun z => hP.mpr ⟨z.1, z.2.1⟩⟩
      refine r_rate_28 W.1 ⟨fun c => absurd c (nI_ge (a := s) (b := 64) (by omega) (by decide)), fun _ => s_isThere W.rs (by omega) ⟨W.1, bz (fun c3 => ⟨by decide, ?_⟩) (fun c3 => ?_)⟩⟩
      · rw [show (16 : Int32) = nI 16 from rfl, pk_div (by omega) (by omega) (by omega), eq_I (by omega) (by omega)]
        refine ⟨fun c4 => ?_, fun c4 => ?_⟩
        · have := no0 False ⟨False.elim, fun z => z.2 c4⟩
          rw [bI_F (fun h => h)] at this
          exact this
        · have := no0 True ⟨fun _ => ⟨c3, c4⟩, fun _ => trivial⟩
          rw [bI_T trivial] at this
          exact this
      · have := no0 False ⟨False.elim, fun z => c3 z.1⟩
        rw [bI_F (fun h => h)] at this
        exact this
  exact key 64 0 rfl
end
section
variable {G : GT} {d : Nat} {w : Nat → Nat} {M : Mem} {x a : Nat} {S : ShT} {T : StT} {Q : Int32 → Mem → Prop}
/-! the class -/
theorem firs_u {h k : Nat} (hk : k < hC S h) : firs S h k ↔ ¬ tellU S h k (kM S (16 * h + k)) := by
  unfold firs tellU
  constructor
  · intro z ⟨j, h1, h2, h3⟩; exact z ⟨j, h1, h3⟩
  · intro z ⟨j, h1, h3⟩; exact z ⟨j, h1, by omega, h3⟩
theorem k_toldBeside {h o : Nat} {k : Int32} {b : Prop} (W : CT w M a S) (hh : h < hN S) (ho : o < hN S) (hq : Q (nI (tld S h o k b)) M) : CI G (d + 4) 84 [.ref a, .int (nI h), .int (nI o), .int k, .int (bI b)] M Q := by
  have h4 := W.2.1.h
  have h16 := W.2.1.c h
  refine c_X8_toldBeside W.1 ?_
  have key : ∀ n i : Nat, n + i = 16 → At G (d + 4) 84 6 [(0, .ref a), (1, .int (nI h)), (2, .int (nI o)), (3, .int k), (4, .int (bI b)), (5, .int (nI (ct (fun i => i < hC S h ∧ isTd S h o k b i) i))), (6, .int (nI i))] [] M (qI Q) := by
    intro n
    induction n with
    | zero => 
      intro i h1
      refine c_X8_toldBeside_6 W.1 ⟨fun _ => ?_, fun c => absurd (show (16 : Int32) ≤ nI i from nI_le (a := 16) (by omega) (by omega)) c⟩
      rw [show i = 16 by omega, ct_lim 16 h16]
      exact hq
    | succ n ih => 
      intro i h1
      have nx := ih (i + 1) (by omega)
      have y : i < hC S h → isTd S h o k b i → At G (d + 4) 84 6 [(0, .ref a), (1, .int (nI h)), (2, .int (nI o)), (3, .int k), (4, .int (bI b)), (5, .int (nI (ct (fun i => i < hC S h ∧ isTd S h o k b i) i) + 1)), (6, .int (nI (i + 1)))] [] M (qI Q) := fun z1 z => by
        rw [ct_y ⟨z1, z⟩] at nx
        rw [nI_1]
        exact nx
      have no : ¬ (i < hC S h ∧ isTd S h o k b i) → At G (d + 4) 84 6 [(0, .ref a), (1, .int (nI h)), (2, .int (nI o)), (3, .int k), (4, .int (bI b)), (5, .int (nI (ct (fun i => i < hC S h ∧ isTd S h o k b i) i))), (6, .int (nI (i + 1)))] [] M (qI Q) := fun z => by
        rw [ct_n z] at nx
        exact nx
      refine c_X8_toldBeside_6 W.1 ⟨fun c => absurd c (nI_ge (a := i) (b := 16) (by omega) (by decide)), fun _ => ?_⟩
      rw [nI_1]
      refine k_find W (fun c p e1 e2 => ⟨W.1, fun r er => ?_, fun er => (by cases er)⟩) (fun c => ⟨W.1, fun r er => (by cases er), fun _ => no (fun z => c ?_)⟩)
      · cases er
        rw [isK_iff W.2.1 (by omega) (by omega)] at c
        rw [slo_n (by omega) (by omega)] at e2
        have im := isM_of W.2.1 c.2
        have vx := W.2.1.m im.1
        have t1 : ∀ {Q2 : Int32 → Mem → Prop}, Q2 (bI (¬ firs S h i)) M → CI G (d + 3) 82 [.ref a, .int (nI h), .int (nI i), .ref p] M Q2 := fun hq2 => k_tells W (by omega) (by omega) e2.1 vx (qv hq2 (bI_c (by rw [firs_u c.2]; exact Classical.not_not)))
        have t2 : ∀ {Q2 : Int32 → Mem → Prop}, Q2 (bI (tell S o (kM S (16 * h + i)))) M → CI G (d + 3) 82 [.ref a, .int (nI o), .int 16, .ref p] M Q2 := fun hq2 => k_tells (u := 16) W (by omega) (by omega) e2.1 vx (qv hq2 (bI_c (tellU_16 W.2.1).symm))
        refine ⟨fun c2 => t1 ⟨W.1, bz (fun c3 => no (fun z => c3 z.2.1)) (fun c3 => t2 ⟨W.1, ?_⟩)⟩, fun c2 => ⟨e2.1.k, ?_⟩⟩
        · rw [bI_eq]
          exact ⟨fun c4 => no (fun z => c4 z.2.2.2), fun c4 => y c.2 ⟨Classical.byContradiction c3, Or.inl c2, c4⟩⟩
        · rw [e2.1.f0]
          refine ⟨fun c3 => no (fun z => z.2.2.1.elim c2 c3), fun c5 => t1 ⟨W.1, bz (fun c3 => no (fun z => c3 z.2.1)) (fun c3 => t2 ⟨W.1, ?_⟩)⟩⟩
          rw [bI_eq]
          exact ⟨fun c4 => no (fun z => c4 z.2.2.2), fun c4 => y c.2 ⟨Classical.byContradiction c3, Or.inr c5, c4⟩⟩
      · rw [isK_iff W.2.1 (by omega) (by omega)]
        exact ⟨hh, z.1⟩
  exact key 16 0 rfl
theorem k_unseen {i j k p : Int32} (X : XAt M x) (W : CS w M (x + 3) (sh T)) (hq : Q (f_unseen T i j k p) M) : CI G (d + 5) 136 [.ref x, .int i, .int j, .int k, .int p] M Q := by
  have V := W.2.1
  have h4 := V.h
  unfold f_unseen at hq
  have no : ¬ uOk (sh T) i j k p → Q (-1) M := fun n => by rw [cif_F n] at hq; exact hq
  refine c_X11_unseen X (k_hasHand W.1 W.h h4 ⟨X, bz (fun c1 => k_hasHand W.1 W.h h4 ⟨X, bz (fun c2 => ⟨fun c3 => ?_, fun c3 => no (fun z => z.2.2.1 c3)⟩) (fun c2 => no (fun z => c2 z.2.1))⟩) (fun c1 => no (fun z => c1 z.1))⟩)
  rw [fb_lt0, fa_lt 6 k, show (6 : Int32).toInt = 6 from rfl, fb_lt0, fa_le p 1, show (1 : Int32).toInt = 1 from rfl]
  refine ⟨fun c4 => no (fun z => by have := z.2.2.2.1; omega), fun c4 => ⟨fun c5 => no (fun z => by have := z.2.2.2.1; omega), fun c5 => ⟨fun c6 => no (fun z => by have := z.2.2.2.2; omega), fun c6 => ⟨fun c7 => ?_, fun c7 => no (fun z => by have := z.2.2.2.2; omega)⟩⟩⟩⟩
  rw [cif_T ⟨c1, c2, c3, by omega, by omega⟩] at hq
  obtain ⟨u, hu, e1⟩ := asN c1.1 c1.2
  obtain ⟨v, hv, e2⟩ := asN c2.1 c2.2
  subst e1 e2
  rw [nI_clamp (by omega), nI_clamp (by omega)] at hq
  have l1 := tld_le (k := k) (b := False) V (h := u) (o := v)
  have l2 := tld_le (k := k) (b := False) V (h := v) (o := u)
  have l3 := tld_le (k := k) (b := True) V (h := u) (o := v)
  have l4 := mul_le16 l1 l2
  rw [show (0 : Int32) = bI False from (bI_F (fun h => h)).symm, show (1 : Int32) = bI True from (bI_T trivial).symm]
  refine k_toldBeside W.t hu hv ⟨X, k_toldBeside W.t hv hu ⟨X, k_toldBeside W.t hu hv ⟨X, ?_⟩⟩⟩
  rw [pk_mul]
  exact k_partOf (by omega) (by omega) ⟨X, hq⟩
theorem k_toldEarlier {s h p : Nat} (W : CT w M a S) (hs : s < 64) (hh : h < 2147483648) (im : isM S s) (hp : mkAt M p (kM S s)) (hq : Q (bI (∃ o, o < s ∧ isM S o ∧ o / 16 ≠ h ∧ kM S o = kM S s)) M) : CI G (d + 3) 86 [.ref a, .int (nI s), .int (nI h), .ref p] M Q := by
  have vx := W.2.1.m im
  refine c_X8_toldEarlier W.1 hp.k ?_
  have key : ∀ n i : Nat, n + i = s → (¬ ∃ o, o < i ∧ isM S o ∧ o / 16 ≠ h ∧ kM S o = kM S s) → At G (d + 3) 86 3 [(0, .ref a), (1, .int (nI s)), (2, .int (nI h)), (3, .ref p), (4, .int (nI i))] [] M (qI Q) := by
    intro n
    induction n with
    | zero => 
      intro i h1 h2
      exact c_X8_toldEarlier_3 W.1 hp.k ⟨fun _ => qF2 hq (fun ⟨o, o1, o2⟩ => h2 ⟨o, by omega, o2⟩), fun c => absurd (nI_le (by omega) (by omega)) c⟩
    | succ n ih => 
      intro i h1 h2
      refine c_X8_toldEarlier_3 W.1 hp.k ⟨fun c => absurd c (nI_ge (by omega) (by omega)), fun _ => ⟨fun c => absurd c (nI_ge (a := i) (b := 64) (by omega) (by decide)), fun _ => ⟨vp_in_nI (by omega) (by omega), ?_⟩⟩⟩
      rw [nI_clamp (by omega), nI_1]
      have nx : ¬ (isM S i ∧ i / 16 ≠ h ∧ kM S i = kM S s) → At G (d + 3) 86 3 [(0, .ref a), (1, .int (nI s)), (2, .int (nI h)), (3, .ref p), (4, .int (nI (i + 1)))] [] M (qI Q) := fun z => by
        refine ih (i + 1) (by omega) (fun ⟨o, o1, o2⟩ => ?_)
        rcases Nat.lt_or_ge o i with y | y
        · exact h2 ⟨o, y, o2⟩
        · rw [show o = i by omega] at o2; exact z o2
      by_cases ii : isM S i
      · obtain ⟨q, e1, e2⟩ := W.m ii
        refine ⟨fun r e => ?_, fun e => by rw [e1] at e; cases e⟩
        have : r = q := some_inj e1 e
        subst this
        rw [show (16 : Int32) = nI 16 from rfl, pk_div (by omega) (by omega) (by omega), eq_I (by omega) hh]
        refine ⟨by decide, fun c => nx (fun z => z.2.1 c), fun c => ⟨e2.1.k, k_isAlike e2.1 hp (W.2.1.m ii) vx ⟨⟨W.1, hp.k⟩, bz (fun c2 => ?_) (fun c2 => nx (fun z => c2 z.2.2))⟩⟩⟩
        exact qT2 hq ⟨i, by omega, ii, c, c2⟩
      · refine ⟨fun r e => (by rw [W.n (by omega) ii] at e; cases e), fun _ => nx (fun z => ii z.1)⟩
  exact key s 0 (by omega) (fun ⟨o, o1, _⟩ => absurd o1 (by omega))
theorem k_toldByOthers {h : Nat} {b : Prop} (W : CT w M a S) (hh : h < hN S) (hq : Q (nI (ct (fun s => isR S h s ∧ (b → tell S h (kM S s))) 64)) M) : CI G (d + 4) 85 [.ref a, .int (nI h), .int (bI b)] M Q := by
  have h4 := W.2.1.h
  refine c_X8_toldByOthers W.1 ?_
  have key : ∀ n i : Nat, n + i = 64 → At G (d + 4) 85 5 [(0, .ref a), (1, .int (nI h)), (2, .int (bI b)), (3, .int (nI (ct (fun s => isR S h s ∧ (b → tell S h (kM S s))) i))), (4, .int (nI i))] [] M (qI Q) := by
    intro n
    induction n with
    | zero => 
      intro i h1
      refine c_X8_toldByOthers_5 W.1 ⟨fun _ => ?_, fun c => absurd (show (64 : Int32) ≤ nI i from nI_le (a := 64) (by omega) (by omega)) c⟩
      rw [show i = 64 by omega]
      exact hq
    | succ n ih => 
      intro i h1
      have nx := ih (i + 1) (by omega)
      have y : (isR S h i ∧ (b → tell S h (kM S i))) → At G (d + 4) 85 5 [(0, .ref a), (1, .int (nI h)), (2, .int (bI b)), (3, .int (nI (ct (fun s => isR S h s ∧ (b → tell S h (kM S s))) i) + 1)), (4, .int (nI (i + 1)))] [] M (qI Q) := fun z => by
        rw [ct_y z] at nx
        rw [nI_1]
        exact nx
      have no : ¬ (isR S h i ∧ (b → tell S h (kM S i))) → At G (d + 4) 85 5 [(0, .ref a), (1, .int (nI h)), (2, .int (bI b)), (3, .int (nI (ct (fun s => isR S h s ∧ (b → tell S h (kM S s))) i))), (4, .int (nI (i + 1)))] [] M (qI Q) := fun z => by
        rw [ct_n z] at nx
        exact nx
      refine c_X8_toldByOthers_5 W.1 ⟨fun c => absurd c (nI_ge (a := i) (b := 64) (by omega) (by decide)), fun _ => ⟨vp_in_nI (by omega) (by omega), ?_⟩⟩
      rw [nI_clamp (by omega), nI_1 i]
      by_cases ii : isM S i
      · obtain ⟨q, e1, e2⟩ := W.m ii
        refine ⟨fun r e => ?_, fun e => by rw [e1] at e; cases e⟩
        have : r = q := some_inj e1 e
        subst this
        rw [show (16 : Int32) = nI 16 from rfl, pk_div (by omega) (by omega) (by omega), eq_I (by omega) (by omega)]
        refine ⟨by decide, fun c => no (fun z => z.1.2.1 c), fun c => k_toldEarlier W (by omega) (by omega) ii e2.1 ⟨W.1, bz (fun c2 => no (fun z => z.1.2.2 c2)) (fun c2 => bz (fun c3 => ?_) (fun c3 => y ⟨⟨ii, c, c2⟩, fun z => absurd z c3⟩))⟩⟩
        refine k_tells (u := 16) W (by omega) (by omega) e2.1 (W.2.1.m ii) ⟨W.1, bz (fun c4 => y ⟨⟨ii, c, c2⟩, fun _ => (tellU_16 W.2.1).mp c4⟩) (fun c4 => no (fun z => c4 ((tellU_16 W.2.1).mpr (z.2 c3))))⟩
      · refine ⟨fun r e => (by rw [W.n (by omega) ii] at e; cases e), fun _ => ⟨by decide, no (fun z => ii z.1.1)⟩⟩
  exact key 64 0 rfl
theorem rAl_48 (V : okS S) {h : Nat} (hh : h < hN S) : rAl S h ≤ 48 := by
  have h4 := V.h
  have key : ∀ n, ct (isR S h) n + (min n (16 * h + 16) - min n (16 * h)) ≤ n := by
    intro n
    induction n with
    | zero => show 0 + (min 0 _ - min 0 _) ≤ 0; omega
    | succ n ih => 
      by_cases c : isR S h n
      · rw [ct_y c]
        have := c.2.1
        omega
      · rw [ct_n c]
        omega
  have := key 64
  unfold rAl
  omega
theorem k_rate {i p : Int32} (X : XAt M x) (W : CS w M (x + 3) (sh T)) (hq : Q (f_rate T i p) M) : CI G (d + 5) 137 [.ref x, .int i, .int p] M Q := by
  have V := W.2.1
  have h4 := V.h
  unfold f_rate at hq
  have no : ¬ rOk (sh T) i p → Q (-1) M := fun n => by rw [cif_F n] at hq; exact hq
  refine c_X11_rate X (k_hasHand W.1 W.h h4 ⟨X, bz (fun c1 => ?_) (fun c1 => no (fun z => c1 z.1))⟩)
  rw [fb_lt0, fa_le p 1, show (1 : Int32).toInt = 1 from rfl]
  refine ⟨fun c6 => no (fun z => by have := z.2; omega), fun c6 => ⟨fun c7 => ?_, fun c7 => no (fun z => by have := z.2; omega)⟩⟩
  rw [cif_T ⟨c1, by omega, by omega⟩] at hq
  obtain ⟨u, hu, e1⟩ := asN c1.1 c1.2
  subst e1
  rw [nI_clamp (by omega)] at hq
  rw [show (0 : Int32) = bI False from (bI_F (fun h => h)).symm, show (1 : Int32) = bI True from (bI_T trivial).symm]
  have e1 : ct (fun s => isR (sh T) u s ∧ (True → tell (sh T) u (kM (sh T) s))) 64 = rSe (sh T) u := ct_c (fun k _ => ⟨fun h => ⟨h.1, h.2 trivial⟩, fun h => ⟨h.1, fun _ => h.2⟩⟩)
  have e2 : ct (fun s => isR (sh T) u s ∧ (False → tell (sh T) u (kM (sh T) s))) 64 = rAl (sh T) u := ct_c (fun k _ => ⟨fun h => h.1, fun h => ⟨h, fun f => f.elim⟩⟩)
  have l1 := rAl_48 V hu
  have l2 : rSe (sh T) u ≤ 64 := ct_le _ _
  refine k_toldByOthers W.t hu ⟨X, k_toldByOthers W.t hu ⟨X, ?_⟩⟩
  rw [e1, e2]
  exact k_partOf (by omega) (by omega) ⟨X, hq⟩
end
