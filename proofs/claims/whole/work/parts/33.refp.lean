/-! THE REFERENCE'S PUBLIC METHODS, the plain ones: f_ what is answered, u_ what becomes of the state -/
def Ou (m : Nat) (M M' : Mem) : Prop := mN M' = mN M ∧ mS M' = mS M ∧ mK M' = mK M ∧ mA M' = mA M ∧ vr M' = vr M ∧ ∀ a k, (a < m ∨ m + 46 ≤ a) → vi M' a k = vi M a k ∧ vl M' a k = vl M a k
theorem Frl.ou {m : Nat} {F L : List Nat} {M M' : Mem} (f : Frl m F L M M') (hL : ∀ o ∈ L, o < 46) : Ou m M M' :=
  ⟨f.1, f.2.1, f.2.2.1, f.2.2.2.1, f.2.2.2.2.1, fun a k h => f.2.2.2.2.2 a k (fun e => by omega) (fun o ho e => by have := hL o ho; omega)⟩
theorem Ou.refl {m : Nat} {M : Mem} : Ou m M M := ⟨rfl, rfl, rfl, rfl, rfl, fun _ _ _ => ⟨rfl, rfl⟩⟩
theorem Ou.trans {m : Nat} {M M' M'' : Mem} (h : Ou m M M') (h2 : Ou m M' M'') : Ou m M M'' :=
  ⟨h2.1.trans h.1, h2.2.1.trans h.2.1, h2.2.2.1.trans h.2.2.1, h2.2.2.2.1.trans h.2.2.2.1, h2.2.2.2.2.1.trans h.2.2.2.2.1, fun a k h3 => ⟨(h2.2.2.2.2.2 a k h3).1.trans (h.2.2.2.2.2 a k h3).1, (h2.2.2.2.2.2 a k h3).2.trans (h.2.2.2.2.2 a k h3).2⟩⟩
section
variable {G : GT} {d : Nat} {M : Mem} {m : Nat} {T : StT} {Q : Int32 → Mem → Prop}
/-- BYTE k of n of them -/
noncomputable def f_byte (n : Nat) (g : Nat → Int32) (k : Int32) : Int32 := cif (0 ≤ k.toInt ∧ k.toInt < n) (g k.toNatClampNeg) (-1)
noncomputable def f_at (T : StT) (a b : Int32) : Int32 := cif (a = 0) (f_byte (gN (sh T)) (gB (sh T)) b) (cif (a = 1) (f_byte (wN (sh T)) (wB (sh T)) b) (-1))
theorem m_at {a b : Int32} (W : RX M m T) (hq : Q (f_at T a b) M) : CI G (d + 2) 203 [.ref m, .int a, .int b] M Q := by
  have g2 := W.rs.2.1.g
  have w2 := W.rs.2.1.w
  unfold f_at at hq
  refine r_at W.1 (s_in (a = 0 ∨ a = 1) ?_ ⟨W.1, bz (fun c => ⟨fun c2 => ⟨v13, ?_⟩, fun c2 => ⟨v03, ?_⟩⟩) (fun c => ?_)⟩)
  · rw [Int32.toInt_toInt64, ll_0, ll_1, fa_eq, fa_eq, show (0 : Int32).toInt = 0 from rfl, show (1 : Int32).toInt = 1 from rfl]
    omega
  · have c3 := c.resolve_left c2
    rw [cif_F c2, cif_T c3] at hq
    rw [show (1 : Int32).toNatClampNeg = 1 from rfl, W.rs.2.2.w]
    refine s_in (0 ≤ b.toInt ∧ b.toInt < wN (sh T)) ?_ ⟨W.1, bnz (fun c4 => ⟨fun _ => ?_, fun c5 => absurd c5 c2⟩) (fun c4 => ?_)⟩
    · rw [Int32.toInt_toInt64, Int32.toInt_toInt64, ll_0, show (1 : Int32) = nI 1 from rfl, pk_sub_toInt (by omega) (by omega)]
      omega
    · obtain ⟨j, hj, e⟩ := asN c4.1 c4.2
      unfold f_byte at hq
      rw [cif_T c4] at hq
      subst e
      rw [nI_clamp (by omega)] at hq ⊢
      exact ⟨vp_in_nI (by omega) (by omega), qv hq (W.rs.2.2.wb hj).symm⟩
    · unfold f_byte at hq
      rw [cif_F c4] at hq
      exact hq
  · rw [cif_T c2] at hq
    rw [show (0 : Int32).toNatClampNeg = 0 from rfl, W.rs.2.2.g]
    refine s_in (0 ≤ b.toInt ∧ b.toInt < gN (sh T)) ?_ ⟨W.1, bnz (fun c4 => ⟨fun c5 => absurd c2 c5, fun _ => ?_⟩) (fun c4 => ?_)⟩
    · rw [Int32.toInt_toInt64, Int32.toInt_toInt64, ll_0, show (1 : Int32) = nI 1 from rfl, pk_sub_toInt (by omega) (by omega)]
      omega
    · obtain ⟨j, hj, e⟩ := asN c4.1 c4.2
      unfold f_byte at hq
      rw [cif_T c4] at hq
      subst e
      rw [nI_clamp (by omega)] at hq ⊢
      exact ⟨vp_in_nI (by omega) (by omega), qv hq (W.rs.2.2.gb hj).symm⟩
    · unfold f_byte at hq
      rw [cif_F c4] at hq
      exact hq
  · rw [cif_F (fun h => c (Or.inl h)), cif_F (fun h => c (Or.inr h))] at hq
    exact hq
/-- the slot of a MARK -/
def slo (h k : Int32) : Nat := 16 * h.toNatClampNeg + k.toNatClampNeg
theorem isK_slo {S : ShT} {h k : Int32} (V : okS S) (c : isK S h k) : isM S (slo h k) ∧ slo h k < 64 ∧ 16 * h + k = nI (slo h k) ∧ h * 16 + k = nI (slo h k) := by
  obtain ⟨i, j, e1, e2, h1, h2⟩ := c
  have h4 := V.h
  have h5 := isM_of V h2
  subst e1 e2
  unfold slo
  rw [nI_clamp (by omega), nI_clamp (by omega), show (16 : Int32) = nI 16 from rfl, pk_mul, nI_add, pk_mul, nI_add, Nat.mul_comm i 16]
  exact ⟨h5.1, by omega, rfl, rfl⟩
noncomputable def f_mark (T : StT) (a b w : Int32) : Int32 :=
  cif (isK (sh T) a b) (cif (w.toInt = 0) (kK (kM (sh T) (slo a b))) (cif (w.toInt = 1) (kF (kM (sh T) (slo a b))) (cif (w.toInt = 2) (kS (kM (sh T) (slo a b))) (cif (w.toInt = 3) (kT (kM (sh T) (slo a b)))
  (cif (w.toInt = 4) (kL (kM (sh T) (slo a b))) (cif (w.toInt = 5) (nI (agr (sh T) (kM (sh T) (slo a b)))) (-2))))))) (-2)
theorem m_mark {a b w : Int32} (W : RX M m T) (hq : Q (f_mark T a b w) M) : CI G (d + 4) 207 [.ref m, .int a, .int b, .int w] M Q := by
  unfold f_mark at hq
  refine r_mark W.1 (s_isMark W.rs ⟨W.1, bnz (fun c => ?_) (fun c => by rw [cif_F c] at hq; exact hq)⟩)
  obtain ⟨h1, h2, h3, -⟩ := isK_slo W.rs.2.1 c
  rw [cif_T c] at hq
  rw [h3, nI_clamp (by omega), W.rs.2.2.m7 h1, W.rs.2.2.m8 h1, W.rs.2.2.m9 h1, W.rs.2.2.m10 h1, W.rs.2.2.m11 h1]
  have v1 : vp_in (nI (slo a b)) 64 := vp_in_nI h2 (by omega)
  refine ⟨fun c2 => ?_, fun c2 => ⟨v1, ?_⟩, fun c2 => ⟨v1, ?_⟩, fun c2 => ⟨v1, ?_⟩, fun c2 => ⟨v1, ?_⟩, fun c2 => ⟨v1, ?_⟩, fun c2 => s_agree W.rs h1 ⟨W.1, ?_⟩, trivial⟩
  · rw [cif_F (by omega), cif_F (by omega), cif_F (by omega), cif_F (by omega), cif_F (by omega), cif_F (by omega)] at hq
    exact hq
  · rw [cif_T c2] at hq
    exact hq
  · rw [cif_F (by omega), cif_T c2] at hq
    exact hq
  · rw [cif_F (by omega), cif_F (by omega), cif_T c2] at hq
    exact hq
  · rw [cif_F (by omega), cif_F (by omega), cif_F (by omega), cif_T c2] at hq
    exact hq
  · rw [cif_F (by omega), cif_F (by omega), cif_F (by omega), cif_F (by omega), cif_T c2] at hq
    exact hq
  · rw [cif_F (by omega), cif_F (by omega), cif_F (by omega), cif_F (by omega), cif_F (by omega), cif_T c2] at hq
    exact hq
noncomputable def f_put (T : StT) (a b i : Int32) : Int32 :=
  cif (isK (sh T) a b) (f_byte (kX (kM (sh T) (slo a b))).length (fun j => (kX (kM (sh T) (slo a b))).getD j 0) i) (-1)
theorem m_put {a b i : Int32} (W : RX M m T) (hq : Q (f_put T a b i) M) : CI G (d + 4) 208 [.ref m, .int a, .int b, .int i] M Q := by
  unfold f_put f_byte at hq
  refine r_put W.1 (s_isMark W.rs ⟨W.1, bz (fun c => ?_) (fun c => by rw [cif_F c] at hq; exact hq)⟩)
  obtain ⟨h1, h2, h3, -⟩ := isK_slo W.rs.2.1 c
  have h5 := len20 W.rs.2.1 h1
  have om := W.rs.2.1.m h1
  rw [cif_T c] at hq
  rw [h3, nI_clamp (by omega), W.rs.2.2.m7 h1, W.rs.2.2.m11 h1]
  have v1 : vp_in (nI (slo a b)) 64 := vp_in_nI h2 (by omega)
  refine ⟨v1, fun c2 => ?_, fun c2 => ⟨v1, ?_⟩⟩
  · rw [(om.2.2.2.1 c2).1, cif_F (by show ¬ (0 ≤ i.toInt ∧ i.toInt < ((0 : Nat) : Int)); omega)] at hq
    exact hq
  · unfold kL
    rw [if_pos c2]
    refine s_in (0 ≤ i.toInt ∧ i.toInt < (kX (kM (sh T) (slo a b))).length) ?_ ⟨W.1, bz (fun c4 => ?_) (fun c4 => ?_)⟩
    · rw [Int32.toInt_toInt64, Int32.toInt_toInt64, ll_0, show (1 : Int32) = nI 1 from rfl, pk_sub_toInt (by omega) (by omega)]
      omega
    · obtain ⟨j, hj, e⟩ := asN c4.1 c4.2
      rw [cif_T c4] at hq
      subst e
      rw [nI_clamp (by omega)] at hq
      rw [show (20 : Int32) = nI 20 from rfl, pk_mul, nI_add, nI_clamp (by omega)]
      exact ⟨vp_in_nI (by omega) (by omega), qv hq (W.rs.2.2.m12 h1 hj).symm⟩
    · rw [cif_F c4] at hq
      exact hq
noncomputable def f_clash (T : StT) (a b c e : Int32) : Int32 :=
  cif (isK (sh T) a b ∧ isK (sh T) c e ∧ ¬ (a = c ∧ b = e)) (ck (kM (sh T) (slo a b)) (kM (sh T) (slo c e))) (-1)
theorem m_clash {a b c e : Int32} (W : RX M m T) (hq : Q (f_clash T a b c e) M) : CI G (d + 5) 217 [.ref m, .int a, .int b, .int c, .int e] M Q := by
  unfold f_clash at hq
  refine r_clash W.1 (s_isMark W.rs ⟨W.1, bz (fun c1 => s_isMark W.rs ⟨W.1, bz (fun c2 => ?_) (fun c2 => ?_)⟩) (fun c1 => ?_)⟩)
  · obtain ⟨h1, h2, h3, -⟩ := isK_slo W.rs.2.1 c1
    obtain ⟨h4, h5, h6, -⟩ := isK_slo W.rs.2.1 c2
    rw [h3, h6]
    refine ⟨fun c3 => ?_, fun c3 => ⟨fun c4 => ?_, fun c4 => ?_⟩⟩
    · rw [cif_T ⟨c1, c2, fun h => c3 h.1⟩] at hq
      exact s_clashOf W.rs h1 h4 ⟨W.1, hq⟩
    · rw [cif_T ⟨c1, c2, fun h => c4 h.2⟩] at hq
      exact s_clashOf W.rs h1 h4 ⟨W.1, hq⟩
    · rw [cif_F (fun h => h.2.2 ⟨c3, c4⟩)] at hq
      exact hq
  · rw [cif_F (fun h => c2 h.2.1)] at hq
    exact hq
  · rw [cif_F (fun h => c1 h.1)] at hq
    exact hq
/-- how many twos of MARKS (the second one less) below n -/
noncomputable def twos (p : Nat → Nat → Prop) : Nat → Nat
  | 0 => 0
  | n + 1 => twos p n + ct (p n) n
def isC (S : ShT) (k : Int32) (a b : Nat) : Prop := isM S a ∧ isM S b ∧ 0 < ck (kM S a) (kM S b) ∧ (k = 0 ∨ ck (kM S a) (kM S b) = k)
noncomputable def f_clashes (T : StT) (k : Int32) : Int32 := cif (0 ≤ k.toInt ∧ k.toInt ≤ 6) (nI (twos (isC (sh T) k) 64)) (-1)
theorem s_clashes_in {k : Int32} (W : RX M m T) (a n0 : Nat) (ha : a < 64) (hx : At G (d + 5) 218 18 [(0, .ref m), (1, .int k), (2, .int (nI (n0 + ct (isC (sh T) k a) a))), (3, .int (nI (a + 1)))] [] M (qI Q)) :
    ∀ n b : Nat, n + b = a → At G (d + 5) 218 27 [(0, .ref m), (1, .int k), (2, .int (nI (n0 + ct (isC (sh T) k a) b))), (3, .int (nI a)), (4, .int (nI b))] [] M (qI Q) := by
  intro n
  induction n with
  | zero => 
    intro b h1
    refine r_clashes_27 W.1 ⟨fun _ => ?_, fun c => absurd (nI_le (by omega) (by omega)) c⟩
    rw [show (1 : Int32) = nI 1 from rfl, nI_add, show b = a by omega]
    exact hx
  | succ n ih => 
    intro b h1
    have y : isC (sh T) k a b → At G (d + 5) 218 27 [(0, .ref m), (1, .int k), (2, .int (nI (n0 + ct (isC (sh T) k a) b) + 1)), (3, .int (nI a)), (4, .int (nI b + 1))] [] M (qI Q) := fun h => by
      have := ih (b + 1) (by omega)
      rw [ct_y h] at this
      rw [nI_1, nI_1]
      exact this
    have z : ¬ isC (sh T) k a b → At G (d + 5) 218 27 [(0, .ref m), (1, .int k), (2, .int (nI (n0 + ct (isC (sh T) k a) b) + 0)), (3, .int (nI a)), (4, .int (nI b + 1))] [] M (qI Q) := fun h => by
      have := ih (b + 1) (by omega)
      rw [ct_n h] at this
      rw [nI_1, show (0 : Int32) = nI 0 from rfl, nI_add]
      exact this
    refine r_clashes_27 W.1 ⟨fun c => absurd c (nI_ge (by omega) (by omega)), fun _ => ?_⟩
    refine s_isThere W.rs (by omega) ⟨W.1, bz (fun c1 => s_isThere W.rs (by omega) ⟨W.1, bz (fun c2 => s_clashOf W.rs c1 c2 ⟨W.1, fun c => ?_, fun c => ⟨fun c3 => ?_, fun c3 => ⟨fun c4 => ?_, fun c4 => ?_⟩⟩⟩) (fun c2 => ⟨fun _ => ?_, fun c => absurd (show (0 : Int32) ≤ 0 by decide) c⟩)⟩) (fun c1 => ⟨fun _ => ?_, fun c => absurd (show (0 : Int32) ≤ 0 by decide) c⟩)⟩
    · exact z (fun h => lt_nle h.2.2.1 c)
    · exact y ⟨c1, c2, nle_lt c, Or.inl c3⟩
    · exact z (fun h => h.2.2.2.elim c3 c4)
    · exact y ⟨c1, c2, nle_lt c, Or.inr c4⟩
    · exact z (fun h => c2 h.2.1)
    · exact z (fun h => c1 h.1)
theorem m_clashes {k : Int32} (W : RX M m T) (hq : Q (f_clashes T k) M) : CI G (d + 5) 218 [.ref m, .int k] M Q := by
  unfold f_clashes at hq
  refine r_clashes W.1 (s_in (0 ≤ k.toInt ∧ k.toInt ≤ 6) ?_ ⟨W.1, bnz (fun c => ?_) (fun c => by rw [cif_F c] at hq; exact hq)⟩)
  · rw [Int32.toInt_toInt64, ll_0, ll_6]
  · rw [cif_T c] at hq
    have key : ∀ n a : Nat, n + a = 64 → At G (d + 5) 218 18 [(0, .ref m), (1, .int k), (2, .int (nI (twos (isC (sh T) k) a))), (3, .int (nI a))] [] M (qI Q) := by
      intro n
      induction n with
      | zero => 
        intro a h1
        refine r_clashes_18 W.1 ⟨fun _ => ?_, fun c => absurd (show (64 : Int32) ≤ nI a from nI_le (show 64 ≤ a by omega) (by omega)) c⟩
        rw [show a = 64 by omega]
        exact hq
      | succ n ih => 
        intro a h1
        refine r_clashes_18 W.1 ⟨fun c => absurd c (nI_ge (a := a) (b := 64) (by omega) (by decide)), fun _ => ?_⟩
        exact s_clashes_in W a _ (by omega) (ih (a + 1) (by omega)) a 0 rfl
    exact key 64 0 rfl
/-- MARKS together -/
def allM (S : ShT) : Nat → Nat
  | 0 => 0
  | n + 1 => allM S n + hC S n
theorem allM_le {S : ShT} (V : okS S) : ∀ n, allM S n ≤ 16 * n
  | 0 => Nat.le_refl 0
  | n + 1 => by
    have h := allM_le V n
    have h2 := V.c n
    show allM S n + hC S n ≤ _
    omega
theorem s_allMarks (W : RX M m T) (hq : Q (nI (allM (sh T) (hN (sh T)))) M) : CI G (d + 1) 259 [.ref m] M Q := by
  refine r_allMarks W.1 ?_
  have h4 := W.rs.2.1.h
  have key : ∀ n a : Nat, n + a = hN (sh T) → At G (d + 1) 259 4 [(0, .ref m), (1, .int (nI (allM (sh T) a))), (2, .int (nI a))] [] M (qI Q) := by
    intro n
    induction n with
    | zero => 
      intro a h1
      refine r_allMarks_4 W.1 ?_
      rw [show (2 : Int32).toNatClampNeg = 2 from rfl, W.rs.2.2.h]
      refine ⟨v23, fun _ => ?_, fun c => absurd (nI_le (by omega) (by omega)) c⟩
      rw [show a = hN (sh T) by omega]
      exact hq
    | succ n ih => 
      intro a h1
      refine r_allMarks_4 W.1 ?_
      rw [show (2 : Int32).toNatClampNeg = 2 from rfl, W.rs.2.2.h]
      refine ⟨v23, fun c => absurd c (nI_ge (by omega) (by omega)), fun _ => ⟨vp_in_nI (by omega) (by omega), ?_⟩⟩
      rw [nI_clamp (by omega), W.rs.2.2.c (by omega), nI_add, nI_1]
      exact ih (a + 1) (by omega)
  exact key (hN (sh T)) 0 rfl
noncomputable def f_count (T : StT) (w : Int32) : Int32 :=
  cif (w.toInt = 0) (nI (gN (sh T))) (cif (w.toInt = 1) (nI (wN (sh T))) (cif (w.toInt = 2) (nI (hN (sh T))) (cif (w.toInt = 3) (nI (allM (sh T) (hN (sh T)))) (cif (w.toInt = 4) (nI (qN T)) (cif (w.toInt = 5) (nI (tN T))
  (cif (6 ≤ w.toInt ∧ w.toInt < 6 + hN (sh T)) (nI (hC (sh T) (w.toInt - 6).toNat)) (-1)))))))
theorem m_count {w : Int32} (W : RX M m T) (hq : Q (f_count T w) M) : CI G (d + 3) 267 [.ref m, .int w] M Q := by
  unfold f_count at hq
  have h4 := W.rs.2.1.h
  refine r_count W.1 ?_
  rw [show (0 : Int32).toNatClampNeg = 0 from rfl, show (1 : Int32).toNatClampNeg = 1 from rfl, show (2 : Int32).toNatClampNeg = 2 from rfl, W.rs.2.2.h, W.rs.2.2.g, W.rs.2.2.w, W.q, W.t]
  refine ⟨fun c => ?_, fun c => ⟨v03, ?_⟩, fun c => ⟨v13, ?_⟩, fun c => ⟨v23, ?_⟩, fun c => s_allMarks W ⟨W.1, ?_⟩, fun c => ?_, fun c => ?_, trivial⟩
  · rw [cif_F (by omega), cif_F (by omega), cif_F (by omega), cif_F (by omega), cif_F (by omega), cif_F (by omega)] at hq
    refine s_in (6 ≤ w.toInt ∧ w.toInt ≤ 9) ?_ ⟨W.1, bz (fun c2 => ?_) (fun c2 => ?_)⟩
    · rw [Int32.toInt_toInt64, ll_6, ll_9]
    · obtain ⟨j, hj, e⟩ := asN (a := w) (N := 10) (by omega) (by omega)
      subst e
      rw [nI_toIntN (by omega)] at hq c2
      rw [show (6 : Int32) = nI 6 from rfl, pk_sub (by omega)]
      refine s_isHandN W.rs (by omega) ⟨W.1, bz (fun c3 => ?_) (fun c3 => ?_)⟩
      · rw [cif_T (by omega), show ((j : Int) - 6).toNat = j - 6 by omega] at hq
        rw [nI_clamp (by omega), W.rs.2.2.c (by omega)]
        exact ⟨vp_in_nI (by omega) (by omega), hq⟩
      · rw [cif_F (by omega)] at hq
        exact hq
    · rw [cif_F (by omega)] at hq
      exact hq
  · rw [cif_T c] at hq
    exact hq
  · rw [cif_F (by omega), cif_T c] at hq
    exact hq
  · rw [cif_F (by omega), cif_F (by omega), cif_T c] at hq
    exact hq
  · rw [cif_F (by omega), cif_F (by omega), cif_F (by omega), cif_T c] at hq
    exact hq
  · rw [cif_F (by omega), cif_F (by omega), cif_F (by omega), cif_F (by omega), cif_T c] at hq
    exact hq
  · rw [cif_F (by omega), cif_F (by omega), cif_F (by omega), cif_F (by omega), cif_F (by omega), cif_T c] at hq
    exact hq
end
