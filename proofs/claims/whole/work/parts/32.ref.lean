/-! THE REFERENCE'S METHODS: leaves; HANDS, MARKS, what is alike, CLASHES -/
noncomputable def cif {α : Type} (p : Prop) (a b : α) : α := @ite α p (Classical.propDecidable p) a b
theorem cif_T {α : Type} {p : Prop} {a b : α} (h : p) : cif p a b = a := if_pos h
theorem cif_F {α : Type} {p : Prop} {a b : α} (h : ¬ p) : cif p a b = b := if_neg h
theorem qv {α : Type} {Q : α → Mem → Prop} {M : Mem} {x v : α} (hq : Q x M) (e : x = v) : Q v M := e ▸ hq
theorem qF {Q : Int32 → Mem → Prop} {M : Mem} {p : Prop} (hq : Q (bI p) M) (h : ¬ p) : Q 0 M := qv hq (bI_F h)
theorem qT {Q : Int32 → Mem → Prop} {M : Mem} {p : Prop} (hq : Q (bI p) M) (h : p) : Q 1 M := qv hq (bI_T h)
theorem qF2 {Q : Int32 → Mem → Prop} {M : Mem} {p : Prop} (hq : Q (bI p) M) (h : ¬ p) : ((0 : Int32) = 0 ∨ (0 : Int32) = 1) ∧ Q 0 M := ⟨Or.inl rfl, qF hq h⟩
theorem qT2 {Q : Int32 → Mem → Prop} {M : Mem} {p : Prop} (hq : Q (bI p) M) (h : p) : ((1 : Int32) = 0 ∨ (1 : Int32) = 1) ∧ Q 1 M := ⟨Or.inr rfl, qT hq h⟩
theorem v03 : vp_in (0 : Int32) 3 := vp_in_nI (n := 0) (by decide) (by decide)
theorem v13 : vp_in (1 : Int32) 3 := vp_in_nI (n := 1) (by decide) (by decide)
theorem v23 : vp_in (2 : Int32) 3 := vp_in_nI (n := 2) (by decide) (by decide)
section
variable {G : GT} {d : Nat} {M : Mem} {m : Nat} {S : ShT}
theorem s_in {a1 a2 a3 : Int64} {Q : Int32 → Mem → Prop} (P : Prop) (hP : (a2.toInt ≤ a1.toInt ∧ a1.toInt ≤ a3.toInt) ↔ P) (hq : Q (bI P) M) : CI G (d + 1) 155 [.long a1, .long a2, .long a3] M Q := by
  refine r_in ?_
  rw [cmp_lt, cmp_gt]
  refine ⟨fun c => qF2 hq (fun h => ?_), fun c => ⟨fun c2 => qF2 hq (fun h => ?_), fun c2 => qT2 hq ?_⟩⟩
  · have := hP.mpr h; omega
  · have := hP.mpr h; omega
  · exact hP.mp ⟨by omega, by omega⟩
/-- the same for an int between two literals -/
theorem s_isByte {a1 : Int32} {Q : Int32 → Mem → Prop} (hq : Q (bI (okB a1)) M) : CI G (d + 2) 167 [.int a1] M Q := by
  refine r_isByte ?_
  refine s_in (okB a1) ?_ (b01 hq)
  unfold okB
  rw [Int32.toInt_toInt64, ll_32, ll_126]
theorem s_isHand {a1 : Int32} {Q : Int32 → Mem → Prop} (W : RS M m S) (hq : Q (bI (0 ≤ a1.toInt ∧ a1.toInt < hN S)) M) : CI G (d + 2) 159 [.ref m, .int a1] M Q := by
  refine r_isHand W.1 ⟨v23, ?_⟩
  have h4 := W.2.1.h
  refine s_in (0 ≤ a1.toInt ∧ a1.toInt < hN S) ?_ ⟨W.1, b01 hq⟩
  rw [show (2 : Int32).toNatClampNeg = 2 from rfl, W.2.2.h, Int32.toInt_toInt64, Int32.toInt_toInt64, ll_0, show (1 : Int32) = nI 1 from rfl, pk_sub_toInt (by omega) (by omega)]
  omega
theorem s_isHandN {h : Nat} {Q : Int32 → Mem → Prop} (W : RS M m S) (hh : h < 2147483648) (hq : Q (bI (h < hN S)) M) : CI G (d + 2) 159 [.ref m, .int (nI h)] M Q := by
  refine s_isHand W ?_
  rw [nI_toIntN hh]
  refine qv hq (bI_c ?_)
  omega
/-- hand and number of a MARK that is there -/
def isK (S : ShT) (h k : Int32) : Prop := ∃ i j : Nat, h = nI i ∧ k = nI j ∧ i < hN S ∧ j < hC S i
theorem s_isMark {a1 a2 : Int32} {Q : Int32 → Mem → Prop} (W : RS M m S) (hq : Q (bI (isK S a1 a2)) M) : CI G (d + 3) 160 [.ref m, .int a1, .int a2] M Q := by
  have h4 := W.2.1.h
  refine r_isMark W.1 ?_
  refine s_isHand W ⟨W.1, bz (fun c => ?_) (fun c => qF2 hq ?_)⟩
  · obtain ⟨i, hi, e⟩ := asN c.1 c.2
    subst e
    have h16 := W.2.1.c i
    refine ⟨vp_in_nI (by omega) (by omega), ?_⟩
    rw [nI_clamp (by omega), W.2.2.c hi]
    refine s_in (0 ≤ a2.toInt ∧ a2.toInt < hC S i) ?_ ⟨W.1, bz (fun c => ?_) (fun c => qF2 hq ?_)⟩
    · rw [Int32.toInt_toInt64, Int32.toInt_toInt64, ll_0, show (1 : Int32) = nI 1 from rfl, pk_sub_toInt (by omega) (by omega)]
      omega
    · obtain ⟨j, hj, e⟩ := asN c.1 c.2
      exact qT2 hq ⟨i, j, rfl, e, hi, hj⟩
    · intro ⟨i', j, e1, e2, h1, h2⟩
      have h17 := W.2.1.c i'
      rw [eq_I (by omega) (by omega)] at e1
      subst e1
      subst e2
      rw [nI_toIntN (by omega)] at c
      omega
  · intro ⟨i', j, e1, e2, h1, h2⟩
    subst e1
    rw [nI_toIntN (by omega)] at c
    omega
theorem isK_iff {h k : Nat} (V : okS S) (hh : h < 2147483648) (hk : k < 2147483648) : isK S (nI h) (nI k) ↔ h < hN S ∧ k < hC S h := by
  constructor
  · intro ⟨i, j, e1, e2, h1, h2⟩
    have := V.h
    have := V.c i
    rw [eq_I (by omega) (by omega)] at e1 e2
    subst e1 e2
    exact ⟨h1, h2⟩
  · intro c
    exact ⟨h, k, rfl, rfl, c.1, c.2⟩
theorem s_isThere {s : Nat} {Q : Int32 → Mem → Prop} (W : RS M m S) (hs : s < 2147483648) (hq : Q (bI (isM S s)) M) : CI G (d + 4) 161 [.ref m, .int (nI s)] M Q := by
  refine r_isThere W.1 ⟨by decide, by decide, ?_⟩
  rw [show (16 : Int32) = nI 16 from rfl, pk_rem (by omega) (by omega) (by omega), pk_div (by omega) (by omega) (by omega)]
  refine s_isMark W ⟨W.1, b01 ?_⟩
  refine qv hq (bI_c ?_)
  rw [isK_iff W.2.1 (by omega) (by omega)]
  exact Iff.rfl
/-! what is ALIKE -/
theorem getD_eq {x y : List Int32} (h : x.length = y.length) (e : ∀ i, i < x.length → x.getD i 0 = y.getD i 0) : x = y := by
  apply List.ext_getElem h
  intro i h1 h2
  have := e i h1
  rw [List.getD_eq_getElem?_getD, List.getD_eq_getElem?_getD, List.getElem?_eq_getElem h1, List.getElem?_eq_getElem h2] at this
  exact this
theorem s_areAlike_l {a b : Nat} {Q : Int32 → Mem → Prop} (W : RS M m S) (ha : isM S a) (hb : isM S b) (hk : kK (kM S a) = kK (kM S b)) (hf : kF (kM S a) = kF (kM S b)) (hs : kS (kM S a) = kS (kM S b)) (ht : kT (kM S a) = kT (kM S b)) (hl : kL (kM S a) = kL (kM S b)) (hq : Q (bI (kM S a = kM S b)) M) :
    ∀ n i : Nat, n + i = (kX (kM S a)).length + 1 → (∀ j, j < i → (kX (kM S a)).getD j 0 = (kX (kM S b)).getD j 0) → At G (d + 1) 204 84 [(0, .ref m), (1, .int (nI a)), (2, .int (nI b)), (3, .int 1), (4, .int (nI i))] [] M (qI Q) := by
  have la := isM_lt W.2.1 ha
  have lb := isM_lt W.2.1 hb
  have oa := W.2.1.m ha
  have ob := W.2.1.m hb
  have lx : (kX (kM S a)).length = (kX (kM S b)).length := by
    by_cases z : kK (kM S a) = 0
    · have h1 := oa.2.2.1 z
      have h2 := ob.2.2.1 (by rw [← hk]; exact z)
      unfold kL at hl
      rw [if_pos z, if_pos (by rw [← hk]; exact z), eq_I (by omega) (by omega)] at hl
      exact hl
    · have h1 := oa.2.2.2.1 z
      have h2 := ob.2.2.2.1 (by rw [← hk]; exact z)
      rw [h1.1, h2.1]
  have l20 : (kX (kM S a)).length ≤ 20 := by
    by_cases z : kK (kM S a) = 0
    · exact (oa.2.2.1 z).2.2.2.1
    · rw [(oa.2.2.2.1 z).1]; decide
  intro n
  induction n with
  | zero => 
    intro i h1 h2
    refine r_areAlike_84 W.1 ?_
    rw [nI_clamp (by omega), W.2.2.m11 ha, W.2.2.m7 ha]
    have e : kM S a = kM S b := mk_ext hk hf hs ht (getD_eq lx (fun j hj => h2 j (by omega)))
    refine ⟨vp_in_nI (by omega) (by omega), fun _ => qT2 hq e, fun c => ⟨fun c => absurd c (by decide), fun _ => ⟨vp_in_nI (by omega) (by omega), fun _ => qT2 hq e, fun z => ?_⟩⟩⟩
    exfalso
    apply c
    unfold kL
    rw [if_pos z]
    exact nI_le (by omega) (by omega)
  | succ n ih => 
    intro i h1 h2
    refine r_areAlike_84 W.1 ?_
    rw [nI_clamp (by omega), W.2.2.m11 ha, W.2.2.m7 ha]
    refine ⟨vp_in_nI (by omega) (by omega), fun c => ?_, fun c => ⟨fun c => absurd c (by decide), fun _ => ⟨vp_in_nI (by omega) (by omega), fun z => ?_, fun z => ?_⟩⟩⟩
    · have z : kX (kM S a) = kX (kM S b) := by
        apply getD_eq lx
        intro j hj
        by_cases z : kK (kM S a) = 0
        · unfold kL at c
          rw [if_pos z, le_I (by omega) (by omega)] at c
          exact h2 j (by omega)
        · rw [(oa.2.2.2.1 z).1] at hj; exact absurd hj (by simp)
      exact qT2 hq (mk_ext hk hf hs ht z)
    · refine qT2 hq (mk_ext hk hf hs ht ?_)
      rw [(oa.2.2.2.1 z).1, (ob.2.2.2.1 (by rw [← hk]; exact z)).1]
    · unfold kL at c
      rw [if_pos z, le_I (by omega) (by omega)] at c
      rw [show (20 : Int32) = nI 20 from rfl, pk_mul, pk_mul, nI_add, nI_add, nI_clamp (by omega), nI_clamp (by omega), W.2.2.m12 ha (by omega), W.2.2.m12 hb (by omega), show (1 : Int32) = nI 1 from rfl, nI_add]
      refine ⟨vp_in_nI (by omega) (by omega), vp_in_nI (by omega) (by omega), fun c2 => ?_, fun c2 => ?_⟩
      · have ne : ¬ kM S a = kM S b := fun e => c2 (by rw [e])
        refine r_areAlike_84 W.1 ?_
        rw [nI_clamp (by omega)]
        exact ⟨vp_in_nI (by omega) (by omega), fun _ => qF2 hq ne, fun _ => ⟨fun _ => qF2 hq ne, fun c => absurd rfl c⟩⟩
      · refine ih (i + 1) (by omega) (fun j hj => ?_)
        rcases Nat.lt_or_ge j i with z | z
        · exact h2 j z
        · rw [show j = i by omega]; exact c2
theorem s_areAlike {a b : Nat} {Q : Int32 → Mem → Prop} (W : RS M m S) (ha : isM S a) (hb : isM S b) (hq : Q (bI (kM S a = kM S b)) M) : CI G (d + 1) 204 [.ref m, .int (nI a), .int (nI b)] M Q := by
  have la := isM_lt W.2.1 ha
  have lb := isM_lt W.2.1 hb
  have ne : ¬ kM S a = kM S b → At G (d + 1) 204 84 [(0, .ref m), (1, .int (nI a)), (2, .int (nI b)), (3, .int 0), (4, .int 0)] [] M (qI Q) := fun ne => by
    refine r_areAlike_84 W.1 ?_
    exact ⟨vp_in_nI (by omega) (by omega), fun _ => qF2 hq ne, fun _ => ⟨fun _ => qF2 hq ne, fun c => absurd rfl c⟩⟩
  refine r_areAlike W.1 ?_
  rw [nI_clamp (by omega), nI_clamp (by omega), W.2.2.m7 ha, W.2.2.m7 hb, W.2.2.m8 ha, W.2.2.m8 hb, W.2.2.m9 ha, W.2.2.m9 hb, W.2.2.m10 ha, W.2.2.m10 hb, W.2.2.m11 ha, W.2.2.m11 hb]
  have v1 : vp_in (nI a) 64 := vp_in_nI (by omega) (by omega)
  have v2 : vp_in (nI b) 64 := vp_in_nI (by omega) (by omega)
  refine ⟨v1, v2, fun c => ne (fun e => c (by rw [e])), fun hk => ⟨v1, v2, fun c => ne (fun e => c (by rw [e])), fun hf => ⟨v1, v2, fun c => ne (fun e => c (by rw [e])), fun hs => ⟨v1, v2, fun c => ne (fun e => c (by rw [e])), fun ht => ⟨v1, v2, fun c => ne (fun e => c (by rw [e])), fun hl => ?_⟩⟩⟩⟩⟩
  exact s_areAlike_l W ha hb hk hf hs ht hl hq _ 0 rfl (fun j hj => absurd hj (by omega))
/-- HAND h tells one ALIKE x -/
def tell (S : ShT) (h : Nat) (x : MkT) : Prop := ∃ k, k < hC S h ∧ kM S (16 * h + k) = x
theorem s_tells {h b : Nat} {Q : Int32 → Mem → Prop} (W : RS M m S) (hh : h < hN S) (hb : isM S b) (hq : Q (bI (tell S h (kM S b))) M) : CI G (d + 2) 205 [.ref m, .int (nI h), .int (nI b)] M Q := by
  refine r_tells W.1 ?_
  have lb := isM_lt W.2.1 hb
  have h4 := W.2.1.h
  have h16 := W.2.1.c h
  have key : ∀ n i : Nat, n + i = hC S h → At G (d + 2) 205 5 [(0, .ref m), (1, .int (nI h)), (2, .int (nI b)), (3, .int (bI (∃ k, k < i ∧ kM S (16 * h + k) = kM S b))), (4, .int (nI i))] [] M (qI Q) := by
    intro n
    induction n with
    | zero => 
      intro i h1
      refine r_tells_5 W.1 ?_
      rw [nI_clamp (by omega), W.2.2.c hh]
      refine ⟨vp_in_nI (by omega) (by omega), fun _ => ?_, fun c => absurd (nI_le (by omega) (by omega)) c⟩
      rw [show i = hC S h by omega]
      exact b01 hq
    | succ n ih => 
      intro i h1
      refine r_tells_5 W.1 ?_
      rw [nI_clamp (by omega), W.2.2.c hh, show (16 : Int32) = nI 16 from rfl, pk_mul, nI_add, show (1 : Int32) = nI 1 from rfl, nI_add]
      have hi := isM_of W.2.1 (show i < hC S h by omega)
      refine ⟨vp_in_nI (by omega) (by omega), fun c => absurd c (nI_ge (by omega) (by omega)), fun _ => bnz (fun c => ?_) (fun c => ?_)⟩
      · have := ih (i + 1) (by omega)
        rw [bI_T] at this
        · exact this
        · obtain ⟨k, h2, h3⟩ := c
          exact ⟨k, by omega, h3⟩
      · refine s_areAlike W hi.1 hb ⟨W.1, bz (fun c2 => ?_) (fun c2 => ?_)⟩
        · have := ih (i + 1) (by omega)
          rw [bI_T] at this
          · exact this
          · exact ⟨i, by omega, c2⟩
        · have := ih (i + 1) (by omega)
          rw [bI_F] at this
          · exact this
          · intro ⟨k, h2, h3⟩
            rcases Nat.lt_or_ge k i with z | z
            · exact c ⟨k, z, h3⟩
            · rw [show k = i by omega] at h3; exact c2 h3
  have := key (hC S h) 0 rfl
  rw [bI_F (fun ⟨k, h2, _⟩ => absurd h2 (by omega))] at this
  exact this
/-- how many below n -/
noncomputable def ct (p : Nat → Prop) : Nat → Nat
  | 0 => 0
  | n + 1 => ct p n + cif (p n) 1 0
theorem ct_le (p : Nat → Prop) : ∀ n, ct p n ≤ n
  | 0 => Nat.le_refl 0
  | n + 1 => by
    have h := ct_le p n
    show ct p n + cif (p n) 1 0 ≤ n + 1
    by_cases c : p n
    · rw [cif_T c]; omega
    · rw [cif_F c]; omega
theorem ct_y {p : Nat → Prop} {n : Nat} (h : p n) : ct p (n + 1) = ct p n + 1 := by show ct p n + cif (p n) 1 0 = _; rw [cif_T h]
theorem ct_n {p : Nat → Prop} {n : Nat} (h : ¬ p n) : ct p (n + 1) = ct p n := by show ct p n + cif (p n) 1 0 = _; rw [cif_F h]; rfl
theorem ct_c {p q : Nat → Prop} : ∀ {n : Nat}, (∀ k, k < n → (p k ↔ q k)) → ct p n = ct q n
  | 0, _ => rfl
  | n + 1, h => by
    show ct p n + cif (p n) 1 0 = ct q n + cif (q n) 1 0
    rw [ct_c (fun k hk => h k (by omega)), propext (h n (by omega))]
/-- AGREE -/
noncomputable def agr (S : ShT) (x : MkT) : Nat := ct (fun h => tell S h x) (hN S)
theorem s_agree {b : Nat} {Q : Int32 → Mem → Prop} (W : RS M m S) (hb : isM S b) (hq : Q (nI (agr S (kM S b))) M) : CI G (d + 3) 206 [.ref m, .int (nI b)] M Q := by
  refine r_agree W.1 ?_
  have h4 := W.2.1.h
  have key : ∀ n i : Nat, n + i = hN S → At G (d + 3) 206 4 [(0, .ref m), (1, .int (nI b)), (2, .int (nI (ct (fun h => tell S h (kM S b)) i))), (3, .int (nI i))] [] M (qI Q) := by
    intro n
    induction n with
    | zero => 
      intro i h1
      refine r_agree_4 W.1 ?_
      rw [show (2 : Int32).toNatClampNeg = 2 from rfl, W.2.2.h]
      refine ⟨v23, fun _ => ?_, fun c => absurd (nI_le (by omega) (by omega)) c⟩
      rw [show i = hN S by omega]
      exact hq
    | succ n ih => 
      intro i h1
      refine r_agree_4 W.1 ?_
      rw [show (2 : Int32).toNatClampNeg = 2 from rfl, W.2.2.h, show (1 : Int32) = nI 1 from rfl, show (0 : Int32) = nI 0 from rfl, nI_add, nI_add, nI_add]
      refine ⟨v23, fun c => absurd c (nI_ge (by omega) (by omega)), fun _ => s_tells W (by omega) hb ⟨W.1, bz (fun c => ?_) (fun c => ?_)⟩⟩
      · have := ih (i + 1) (by omega)
        rw [ct_y c] at this
        exact this
      · have := ih (i + 1) (by omega)
        rw [ct_n c] at this
        exact this
  exact key (hN S) 0 rfl
/-! CLASH -/
def mLo (x : MkT) : Int32 := if kT x < kF x then kT x else kF x
def mHi (x : MkT) : Int32 := if kS x < kT x then kT x else kS x
def mBt (x : MkT) (lo hi : Int32) : Prop := lo ≤ kF x ∧ kS x ≤ hi ∧ lo < kT x ∧ kT x < hi
def oFr (y : MkT) : Int32 := if kT y < kF y then kT y else kS y
def oTo (y : MkT) : Int32 := if kT y < kF y then kF y else kT y
def mIn (x y : MkT) : Prop := mBt x (kF y) (kS y) ∨ mBt x (oFr y) (oTo y)
def mFit (x y : MkT) : Prop := x = y ∨ ((mHi x ≤ mLo y ∨ mHi y ≤ mLo x) ∧ kT x ≠ kT y) ∨ mIn x y ∨ mIn y x
def mCo (x y : MkT) : Prop := kF x < kS y ∧ kF y < kS x
def mIs (x y : MkT) : Prop := kF y < kF x ∧ kF x < kS y
noncomputable def ck0 (x y : MkT) : Int32 :=
  cif (kK x = 0) (cif (kK y = 0) (cif (kF x = kF y ∧ x ≠ y) 3 0) (cif ((kK y = 1 ∨ kK y = 5) ∧ mIs x y) (cif (kK y = 1) 4 5) 0))
  (cif (kK x = 4 ∧ kK y = 4) (cif (mFit x y) 0 6)
  (cif (mCo x y) (cif (kK x = 1 ∧ (kK y = 2 ∨ kK y = 3)) 1 (cif (kK x = 2 ∧ kK y = 3) 2 (cif (kK y = 5 ∧ kK x ≠ 5) 5 0))) 0))
/-- CLASH of two MARKS -/
noncomputable def ck (x y : MkT) : Int32 := cif (kK y < kK x) (ck0 y x) (ck0 x y)
theorem nlt_le {a b : Int32} (h : ¬ a < b) : b ≤ a := by rw [fa_lt] at h; rw [fa_le]; omega
theorem nle_lt {a b : Int32} (h : ¬ a ≤ b) : b < a := by rw [fa_le] at h; rw [fa_lt]; omega
theorem le_nlt {a b : Int32} (h : a ≤ b) : ¬ b < a := by rw [fa_le] at h; rw [fa_lt]; omega
theorem lt_nle {a b : Int32} (h : a < b) : ¬ b ≤ a := by rw [fa_lt] at h; rw [fa_le]; omega
section
variable {a b : Nat} {Q : Int32 → Mem → Prop}
theorem s_areCommon (W : RS M m S) (ha : isM S a) (hb : isM S b) (hq : Q (bI (mCo (kM S a) (kM S b))) M) : CI G (d + 1) 209 [.ref m, .int (nI a), .int (nI b)] M Q := by
  have v1 : vp_in (nI a) 64 := vp_in_nI (isM_lt W.2.1 ha) (by omega)
  have v2 : vp_in (nI b) 64 := vp_in_nI (isM_lt W.2.1 hb) (by omega)
  have la := isM_lt W.2.1 ha
  have lb := isM_lt W.2.1 hb
  refine r_areCommon W.1 ?_
  rw [nI_clamp (by omega), nI_clamp (by omega), W.2.2.m8 ha, W.2.2.m8 hb, W.2.2.m9 ha, W.2.2.m9 hb]
  exact ⟨v1, v2, fun c => qF2 hq (fun h => lt_nle h.1 c), fun c => ⟨v2, v1, fun c2 => qF2 hq (fun h => lt_nle h.2 c2), fun c2 => qT2 hq ⟨nle_lt c, nle_lt c2⟩⟩⟩
theorem s_isInside (W : RS M m S) (ha : isM S a) (hb : isM S b) (hq : Q (bI (mIs (kM S a) (kM S b))) M) : CI G (d + 1) 215 [.ref m, .int (nI a), .int (nI b)] M Q := by
  have v1 : vp_in (nI a) 64 := vp_in_nI (isM_lt W.2.1 ha) (by omega)
  have v2 : vp_in (nI b) 64 := vp_in_nI (isM_lt W.2.1 hb) (by omega)
  have la := isM_lt W.2.1 ha
  have lb := isM_lt W.2.1 hb
  refine r_isInside W.1 ?_
  rw [nI_clamp (by omega), nI_clamp (by omega), W.2.2.m8 ha, W.2.2.m8 hb, W.2.2.m9 hb]
  exact ⟨v1, v2, fun c => qF2 hq (fun h => lt_nle h.1 c), fun c => ⟨v1, v2, fun c2 => qF2 hq (fun h => lt_nle h.2 c2), fun c2 => qT2 hq ⟨nle_lt c, nle_lt c2⟩⟩⟩
theorem s_least (W : RS M m S) (ha : isM S a) (hq : Q (mLo (kM S a)) M) : CI G (d + 1) 210 [.ref m, .int (nI a)] M Q := by
  have la := isM_lt W.2.1 ha
  have v1 : vp_in (nI a) 64 := vp_in_nI la (by omega)
  refine r_least W.1 ?_
  rw [nI_clamp (by omega), W.2.2.m8 ha, W.2.2.m10 ha]
  exact ⟨v1, v1, fun c => ⟨v1, qv hq (if_neg (le_nlt c))⟩, fun c => ⟨v1, qv hq (if_pos (nle_lt c))⟩⟩
theorem s_greatest (W : RS M m S) (ha : isM S a) (hq : Q (mHi (kM S a)) M) : CI G (d + 1) 211 [.ref m, .int (nI a)] M Q := by
  have la := isM_lt W.2.1 ha
  have v1 : vp_in (nI a) 64 := vp_in_nI la (by omega)
  refine r_greatest W.1 ?_
  rw [nI_clamp (by omega), W.2.2.m9 ha, W.2.2.m10 ha]
  exact ⟨v1, v1, fun c => ⟨v1, qv hq (if_neg (le_nlt c))⟩, fun c => ⟨v1, qv hq (if_pos (nle_lt c))⟩⟩
theorem s_isBetween {lo hi : Int32} (W : RS M m S) (ha : isM S a) (hq : Q (bI (mBt (kM S a) lo hi)) M) : CI G (d + 1) 212 [.ref m, .int (nI a), .int lo, .int hi] M Q := by
  have la := isM_lt W.2.1 ha
  have v1 : vp_in (nI a) 64 := vp_in_nI la (by omega)
  refine r_isBetween W.1 ?_
  rw [nI_clamp (by omega), W.2.2.m8 ha, W.2.2.m9 ha, W.2.2.m10 ha]
  exact ⟨v1, fun c => qF2 hq (fun h => le_nlt h.1 c), fun c1 => ⟨v1, fun c => qF2 hq (fun h => le_nlt h.2.1 c), fun c2 => ⟨v1, fun c => qF2 hq (fun h => lt_nle h.2.2.1 c), fun c3 => ⟨v1, fun c => qF2 hq (fun h => lt_nle h.2.2.2 c), fun c4 => qT2 hq ⟨nlt_le c1, nlt_le c2, nle_lt c3, nle_lt c4⟩⟩⟩⟩⟩
theorem s_isWithin (W : RS M m S) (ha : isM S a) (hb : isM S b) (hq : Q (bI (mIn (kM S a) (kM S b))) M) : CI G (d + 2) 213 [.ref m, .int (nI a), .int (nI b)] M Q := by
  have la := isM_lt W.2.1 ha
  have lb := isM_lt W.2.1 hb
  have v1 : vp_in (nI a) 64 := vp_in_nI la (by omega)
  have v2 : vp_in (nI b) 64 := vp_in_nI lb (by omega)
  have e99 : ∀ {t0 : Int32}, (t0 = 0 ∨ t0 = 1) → Q t0 M → At G (d + 2) 213 99 [] [.int t0] M (qI Q) := fun h1 h2 => r_isWithin_99 W.1 ⟨h1, h2⟩
  have e61 : At G (d + 2) 213 61 [(0, .ref m), (1, .int (nI a)), (2, .int (nI b)), (3, .int (oFr (kM S b)))] [.int (oTo (kM S b))] M (qI Q) := by
    refine r_isWithin_61 W.1 ?_
    rw [nI_clamp (by omega), W.2.2.m8 hb, W.2.2.m9 hb]
    refine ⟨v2, v2, s_isBetween W ha ⟨W.1, bnz (fun c => ?_) (fun c => s_isBetween W ha ⟨W.1, bz (fun c2 => ?_) (fun c2 => ?_)⟩)⟩⟩
    · exact r_isWithin_94 W.1 (e99 (Or.inr rfl) (qT hq (Or.inl c)))
    · exact r_isWithin_94 W.1 (e99 (Or.inr rfl) (qT hq (Or.inr c2)))
    · exact e99 (Or.inl rfl) (qF hq (fun h => h.elim c c2))
  have e30 : At G (d + 2) 213 30 [(0, .ref m), (1, .int (nI a)), (2, .int (nI b))] [.int (oFr (kM S b))] M (qI Q) := by
    refine r_isWithin_30 W.1 ?_
    rw [nI_clamp (by omega), W.2.2.m8 hb, W.2.2.m10 hb]
    refine ⟨v2, v2, fun c => ⟨v2, ?_⟩, fun c => ⟨v2, ?_⟩⟩
    · rw [show kT (kM S b) = oTo (kM S b) from (if_neg (le_nlt c)).symm]
      exact e61
    · rw [show kF (kM S b) = oTo (kM S b) from (if_pos (nle_lt c)).symm]
      exact e61
  refine r_isWithin W.1 ?_
  rw [nI_clamp (by omega), W.2.2.m8 hb, W.2.2.m10 hb, W.2.2.m9 hb]
  refine ⟨v2, v2, fun c => ⟨v2, ?_⟩, fun c => ⟨v2, ?_⟩⟩
  · rw [show kS (kM S b) = oFr (kM S b) from (if_neg (le_nlt c)).symm]
    exact e30
  · rw [show kT (kM S b) = oFr (kM S b) from (if_pos (nle_lt c)).symm]
    exact e30
theorem s_moveClash (W : RS M m S) (ha : isM S a) (hb : isM S b) (hq : Q (bI (¬ mFit (kM S a) (kM S b))) M) : CI G (d + 3) 214 [.ref m, .int (nI a), .int (nI b)] M Q := by
  have la := isM_lt W.2.1 ha
  have lb := isM_lt W.2.1 hb
  have v1 : vp_in (nI a) 64 := vp_in_nI la (by omega)
  have v2 : vp_in (nI b) 64 := vp_in_nI lb (by omega)
  have e82 : mFit (kM S a) (kM S b) → At G (d + 3) 214 82 [] [] M (qI Q) := fun h => r_moveClash_82 W.1 (r_moveClash_83 W.1 ⟨Or.inl rfl, qF hq (fun h2 => h2 h)⟩)
  have e46 : ∀ P : Prop, (P ↔ ((mHi (kM S a) ≤ mLo (kM S b) ∨ mHi (kM S b) ≤ mLo (kM S a)) ∧ kT (kM S a) ≠ kT (kM S b))) → At G (d + 3) 214 46 [(0, .ref m), (1, .int (nI a)), (2, .int (nI b))] [.int (bI P)] M (qI Q) := by
    intro P hP
    refine r_moveClash_46 W.1 (s_areAlike W ha hb ⟨W.1, bnz (fun c => e82 (Or.inl c)) (fun c1 => bnz (fun c => e82 (Or.inr (Or.inl (hP.mp c)))) (fun c2 => ?_))⟩)
    refine s_isWithin W ha hb ⟨W.1, bnz (fun c => e82 (Or.inr (Or.inr (Or.inl c)))) (fun c3 => ?_)⟩
    refine s_isWithin W hb ha ⟨W.1, bnz (fun c => e82 (Or.inr (Or.inr (Or.inr c)))) (fun c4 => ?_)⟩
    refine r_moveClash_83 W.1 ⟨Or.inr rfl, qT hq (fun h => ?_)⟩
    rcases h with h | h | h | h
    · exact c1 h
    · exact c2 (hP.mpr h)
    · exact c3 h
    · exact c4 h
  have e26 : (mHi (kM S a) ≤ mLo (kM S b) ∨ mHi (kM S b) ≤ mLo (kM S a)) → At G (d + 3) 214 26 [(0, .ref m), (1, .int (nI a)), (2, .int (nI b))] [] M (qI Q) := by
    intro h
    refine r_moveClash_26 W.1 ?_
    rw [nI_clamp (by omega), nI_clamp (by omega), W.2.2.m10 ha, W.2.2.m10 hb]
    refine ⟨v1, v2, fun c => r_moveClash_45 W.1 ?_, fun c => ?_⟩
    · have := e46 False ⟨False.elim, fun h => h.2 c⟩
      rw [bI_F (fun h => h)] at this
      exact this
    · have := e46 True ⟨fun _ => ⟨h, c⟩, fun _ => trivial⟩
      rw [bI_T trivial] at this
      exact this
  refine r_moveClash W.1 ?_
  refine s_greatest W ha ⟨W.1, s_least W hb ⟨W.1, fun c => e26 (Or.inl c), fun c => s_greatest W hb ⟨W.1, s_least W ha ⟨W.1, fun c2 => r_moveClash_45 W.1 ?_, fun c2 => e26 (Or.inr (nlt_le c2))⟩⟩⟩⟩
  have := e46 False ⟨False.elim, fun h => h.1.elim c (lt_nle c2)⟩
  rw [bI_F (fun h => h)] at this
  exact this
theorem s_clashOf0 (W : RS M m S) (ha : isM S a) (hb : isM S b) (hq : Q (ck0 (kM S a) (kM S b)) M) : At G (d + 4) 216 31 [(0, .ref m), (3, .int (nI a))] [.int (nI b)] M (qI Q) := by
  have la := isM_lt W.2.1 ha
  have lb := isM_lt W.2.1 hb
  have v1 : vp_in (nI a) 64 := vp_in_nI la (by omega)
  have v2 : vp_in (nI b) 64 := vp_in_nI lb (by omega)
  unfold ck0 at hq
  have e159 : ¬ kK (kM S a) = 0 → ¬ (kK (kM S a) = 4 ∧ kK (kM S b) = 4) → At G (d + 4) 216 159 [(0, .ref m), (3, .int (nI a)), (4, .int (nI b)), (5, .int (kK (kM S a))), (6, .int (kK (kM S b)))] [] M (qI Q) := by
    intro c1 c2
    rw [cif_F c1, cif_F c2] at hq
    refine r_clashOf_159 W.1 (s_areCommon W ha hb ⟨W.1, bnz (fun c3 => ?_) (fun c3 => by rw [cif_F c3] at hq; exact hq)⟩)
    rw [cif_T c3] at hq
    have e205 : ¬ (kK (kM S a) = 1 ∧ (kK (kM S b) = 2 ∨ kK (kM S b) = 3)) → ¬ (kK (kM S a) = 2 ∧ kK (kM S b) = 3) → At G (d + 4) 216 205 [(5, .int (kK (kM S a))), (6, .int (kK (kM S b)))] [] M (qI Q) := by
      intro c4 c5
      rw [cif_F c4, cif_F c5] at hq
      refine r_clashOf_205 W.1 ⟨fun c => ?_, fun c => ⟨fun c6 => ?_, fun c6 => ?_⟩⟩
      · rw [cif_F (fun h => c h.1)] at hq
        exact r_clashOf_221 W.1 (r_clashOf_222 W.1 hq)
      · rw [cif_F (fun h => h.2 c6)] at hq
        exact r_clashOf_221 W.1 (r_clashOf_222 W.1 hq)
      · rw [cif_T ⟨c, c6⟩] at hq
        exact r_clashOf_222 W.1 hq
    have e191 : ¬ (kK (kM S a) = 1 ∧ (kK (kM S b) = 2 ∨ kK (kM S b) = 3)) → At G (d + 4) 216 191 [(5, .int (kK (kM S a))), (6, .int (kK (kM S b)))] [] M (qI Q) := by
      intro c4
      refine r_clashOf_191 W.1 ⟨fun c => e205 c4 (fun h => c h.1), fun c => ⟨fun c6 => e205 c4 (fun h => c6 h.2), fun c6 => ?_⟩⟩
      rw [cif_F c4, cif_T ⟨c, c6⟩] at hq
      exact hq
    refine ⟨fun c => e191 (fun h => c h.1), fun c => ⟨fun c6 => r_clashOf_189 W.1 ?_, fun c6 => ⟨fun c7 => e191 (fun h => h.2.elim c6 c7), fun c7 => r_clashOf_189 W.1 ?_⟩⟩⟩
    · rw [cif_T ⟨c, Or.inl c6⟩] at hq
      exact hq
    · rw [cif_T ⟨c, Or.inr c7⟩] at hq
      exact hq
  refine r_clashOf_31 W.1 ?_
  rw [nI_clamp (by omega), nI_clamp (by omega), W.2.2.m7 ha, W.2.2.m7 hb, W.2.2.m8 ha, W.2.2.m8 hb]
  refine ⟨v1, v2, fun c1 => ⟨fun c2 => e159 c1 (fun h => c2 h.1), fun c2 => ⟨fun c3 => e159 c1 (fun h => c3 h.2), fun c3 => ?_⟩⟩, fun c1 => ⟨fun c2 => ?_, fun c2 => ⟨v1, v2, fun c3 => ?_, fun c3 => ?_⟩⟩⟩
  · rw [cif_F c1, cif_T ⟨c2, c3⟩] at hq
    refine s_moveClash W ha hb ⟨W.1, bz (fun c => ?_) (fun c => ?_)⟩
    · rw [cif_F c] at hq
      exact r_clashOf_158 W.1 hq
    · rw [cif_T (Classical.byContradiction c)] at hq
      exact r_clashOf_158 W.1 hq
  · rw [cif_T c1, cif_F c2] at hq
    have e104 : (kK (kM S b) = 1 ∨ kK (kM S b) = 5) → At G (d + 4) 216 104 [(0, .ref m), (3, .int (nI a)), (4, .int (nI b)), (6, .int (kK (kM S b)))] [] M (qI Q) := by
      intro c3
      refine r_clashOf_104 W.1 (s_isInside W ha hb ⟨W.1, bz (fun c => ⟨fun c4 => ?_, fun c4 => ?_⟩) (fun c => ?_)⟩)
      · rw [cif_T ⟨c3, c⟩, cif_F c4] at hq
        exact r_clashOf_129 W.1 hq
      · rw [cif_T ⟨c3, c⟩, cif_T c4] at hq
        exact r_clashOf_129 W.1 hq
      · rw [cif_F (fun h => c h.2)] at hq
        exact r_clashOf_128 W.1 (r_clashOf_129 W.1 hq)
    refine ⟨fun c3 => e104 (Or.inl c3), fun c3 => ⟨fun c4 => ?_, fun c4 => e104 (Or.inr c4)⟩⟩
    rw [cif_F (fun h => h.1.elim c3 c4)] at hq
    exact r_clashOf_128 W.1 (r_clashOf_129 W.1 hq)
  · rw [cif_T c1, cif_T c2, cif_F (fun h => c3 h.1)] at hq
    exact r_clashOf_90 W.1 (r_clashOf_91 W.1 hq)
  · rw [cif_T c1, cif_T c2] at hq
    refine s_areAlike W ha hb ⟨W.1, bnz (fun c => ?_) (fun c => ?_)⟩
    · rw [cif_F (fun h => h.2 c)] at hq
      exact r_clashOf_90 W.1 (r_clashOf_91 W.1 hq)
    · rw [cif_T ⟨c3, c⟩] at hq
      exact r_clashOf_91 W.1 hq
theorem s_clashOf (W : RS M m S) (ha : isM S a) (hb : isM S b) (hq : Q (ck (kM S a) (kM S b)) M) : CI G (d + 4) 216 [.ref m, .int (nI a), .int (nI b)] M Q := by
  have la := isM_lt W.2.1 ha
  have lb := isM_lt W.2.1 hb
  have v1 : vp_in (nI a) 64 := vp_in_nI la (by omega)
  have v2 : vp_in (nI b) 64 := vp_in_nI lb (by omega)
  refine r_clashOf W.1 ?_
  rw [nI_clamp (by omega), nI_clamp (by omega), W.2.2.m7 ha, W.2.2.m7 hb]
  refine ⟨v1, v2, fun c => r_clashOf_20 W.1 ⟨fun c2 => ?_, fun c2 => ?_⟩, fun c => r_clashOf_20 W.1 ⟨fun c2 => absurd rfl c2, fun c2 => ?_⟩⟩
  · unfold ck at hq
    rw [cif_T c] at hq
    exact s_clashOf0 W hb ha hq
  · rw [eq_I (by omega) (by omega)] at c2
    subst c2
    exact absurd c (by rw [fa_lt]; omega)
  · unfold ck at hq
    rw [cif_F c] at hq
    exact s_clashOf0 W ha hb hq
end
end
