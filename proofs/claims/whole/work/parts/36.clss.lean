/-! THE CLASS'S SHEET at a; w: to whom each cell belongs (0 the class's fixed cells, 1 the reference, 2 MARKS, 10 + k image k, 20 + l law l, 30 + l verdict l, 40 the draft) -/
def bit (x : Int64) (o : Nat) : Prop := x.toBitVec.getLsbD o = true
def cMk (w : Nat → Nat) (M : Mem) (o : Nat) (x : MkT) : Prop := mkAt M o x ∧ w o = 2 ∧ ∀ t, vr M o 5 = some t → w t = 2
def cMs (w : Nat → Nat) (M : Mem) (a : Nat) (S : ShT) : Prop := ∀ s, s < 64 → (isM S s → ∃ o, vr M (a + 5) s = some o ∧ cMk w M o (kM S s)) ∧ (¬ isM S s → vr M (a + 5) s = none)
def cSh (w : Nat → Nat) (M : Mem) (a : Nat) (S : ShT) : Prop :=
  (vi M a 1 = nI (gN S) ∧ vi M a 3 = nI (wN S) ∧ vi M a 6 = nI (hN S)) ∧ (∀ k, k < gN S → vi M (a + 1) k = gB S k) ∧ (∀ k, k < wN S → vi M (a + 2) k = wB S k) ∧ (∀ h, h < hN S → vi M (a + 3) h = hR S h) ∧ (∀ h, h < 4 → vi M (a + 4) h = nI (hC S h)) ∧
  cMs w M a S ∧ (∀ k, k < 7 → vi M (a + 6) k = cC S k) ∧ (∀ s, isM S s → vi M (a + 7) s = nI (agr S (kM S s))) ∧ (∀ s, isM S s → ∀ o, o < 64 → (bit (vl M (a + 8) s) o ↔ isM S o ∧ ¬ ck (kM S s) (kM S o) = 0))
def CS (w : Nat → Nat) (M : Mem) (a : Nat) (S : ShT) : Prop := ObAt 8 M a ∧ okS S ∧ cSh w M a S
section
variable {w : Nat → Nat} {M : Mem} {a : Nat} {S : ShT}
theorem CS.g (h : CS w M a S) : vi M a 1 = nI (gN S) := h.2.2.1.1
theorem CS.ww (h : CS w M a S) : vi M a 3 = nI (wN S) := h.2.2.1.2.1
theorem CS.h (h : CS w M a S) : vi M a 6 = nI (hN S) := h.2.2.1.2.2
theorem CS.gb (h : CS w M a S) {k : Nat} (hk : k < gN S) : vi M (a + 1) k = gB S k := h.2.2.2.1 k hk
theorem CS.wb (h : CS w M a S) {k : Nat} (hk : k < wN S) : vi M (a + 2) k = wB S k := h.2.2.2.2.1 k hk
theorem CS.r (h : CS w M a S) {k : Nat} (hk : k < hN S) : vi M (a + 3) k = hR S k := h.2.2.2.2.2.1 k hk
theorem CS.c (h : CS w M a S) {k : Nat} (hk : k < 4) : vi M (a + 4) k = nI (hC S k) := h.2.2.2.2.2.2.1 k hk
theorem CS.m (h : CS w M a S) {s : Nat} (hs : isM S s) : ∃ o, vr M (a + 5) s = some o ∧ cMk w M o (kM S s) := (h.2.2.2.2.2.2.2.1 s (isM_lt h.2.1 hs)).1 hs
theorem CS.n (h : CS w M a S) {s : Nat} (h6 : s < 64) (hs : ¬ isM S s) : vr M (a + 5) s = none := (h.2.2.2.2.2.2.2.1 s h6).2 hs
theorem CS.k (h : CS w M a S) {k : Nat} (hk : k < 7) : vi M (a + 6) k = cC S k := h.2.2.2.2.2.2.2.2.1 k hk
theorem CS.ag (h : CS w M a S) {s : Nat} (hs : isM S s) : vi M (a + 7) s = nI (agr S (kM S s)) := h.2.2.2.2.2.2.2.2.2.1 s hs
theorem CS.cl (h : CS w M a S) {s : Nat} (hs : isM S s) {o : Nat} (ho : o < 64) : bit (vl M (a + 8) s) o ↔ isM S o ∧ ¬ ck (kM S s) (kM S o) = 0 := h.2.2.2.2.2.2.2.2.2.2 s hs o ho
end
/-- what the methods below need of a sheet: all but what follows from the MARKS -/
def CT (w : Nat → Nat) (M : Mem) (a : Nat) (S : ShT) : Prop := ObAt 8 M a ∧ okS S ∧ vi M a 6 = nI (hN S) ∧ (∀ h, h < 4 → vi M (a + 4) h = nI (hC S h)) ∧ cMs w M a S
theorem CS.t {w : Nat → Nat} {M : Mem} {a : Nat} {S : ShT} (h : CS w M a S) : CT w M a S := ⟨h.1, h.2.1, h.h, fun k hk => h.c hk, h.2.2.2.2.2.2.2.1⟩
section
variable {G : GT} {d : Nat} {w : Nat → Nat} {M : Mem} {a : Nat} {S : ShT}
theorem CT.h (h : CT w M a S) : vi M a 6 = nI (hN S) := h.2.2.1
theorem CT.c (h : CT w M a S) {k : Nat} (hk : k < 4) : vi M (a + 4) k = nI (hC S k) := h.2.2.2.1 k hk
theorem CT.m (h : CT w M a S) {s : Nat} (hs : isM S s) : ∃ o, vr M (a + 5) s = some o ∧ cMk w M o (kM S s) := (h.2.2.2.2 s (isM_lt h.2.1 hs)).1 hs
theorem CT.n (h : CT w M a S) {s : Nat} (h6 : s < 64) (hs : ¬ isM S s) : vr M (a + 5) s = none := (h.2.2.2.2 s h6).2 hs
theorem k_hasHand {i : Int32} {Q : Int32 → Mem → Prop} (O : ObAt 8 M a) (hh : vi M a 6 = nI (hN S)) (h4 : hN S ≤ 4) (hq : Q (bI (0 ≤ i.toInt ∧ i.toInt < hN S)) M) : CI G (d + 1) 77 [.ref a, .int i] M Q := by
  refine c_X8_hasHand O ?_
  rw [hh, fa_lt, fa_le, fa_le, nI_toIntN (by omega), show (0 : Int32).toInt = 0 from rfl, show (4 : Int32).toInt = 4 from rfl]
  exact ⟨fun c => qF2 hq (by omega), fun c => ⟨fun c2 => qF2 hq (by omega), fun c2 => ⟨fun c3 => qF2 hq (by omega), fun c3 => qT2 hq (by omega)⟩⟩⟩
theorem k_find {i k : Int32} {Q : Option Nat → Mem → Prop} (W : CT w M a S) (hy : isK S i k → ∀ o, vr M (a + 5) (slo i k) = some o → cMk w M o (kM S (slo i k)) → Q (some o) M) (hn : ¬ isK S i k → Q none M) : CR G (d + 2) 80 [.ref a, .int i, .int k] M Q := by
  have h4 := W.2.1.h
  refine c_X8_find W.1 (k_hasHand W.1 W.h h4 ⟨W.1, bz (fun c => ?_) (fun c => hn ?_)⟩)
  · obtain ⟨j, hj, e⟩ := asN c.1 c.2
    subst e
    have h16 := W.2.1.c j
    refine ⟨fun c1 => hn ?_, fun c1 => ⟨fun c2 => ?_, fun c2 => hn ?_⟩⟩
    · intro ⟨i', j', e1, e2, h1, h2⟩
      have := W.2.1.c i'
      rw [e2] at c1
      exact absurd c1 (nI_pos (by omega))
    · rw [fa_lt, show (0 : Int32).toInt = 0 from rfl] at c1
      rw [fa_lt, show (16 : Int32).toInt = 16 from rfl] at c2
      obtain ⟨l, hl, e⟩ := asN (a := k) (N := 16) (by omega) (by omega)
      subst e
      refine c_X11_slotOf ⟨W.1, ?_⟩
      have es : nI j * 16 + nI l = nI (slo (nI j) (nI l)) := by
        unfold slo
        rw [nI_clamp (by omega), nI_clamp (by omega), show (16 : Int32) = nI 16 from rfl, pk_mul, nI_add, Nat.mul_comm j 16]
      have sl : slo (nI j) (nI l) = 16 * j + l := by
        unfold slo
        rw [nI_clamp (by omega), nI_clamp (by omega)]
      rw [es]
      refine ⟨vp_in_nI (by omega) (by omega), ?_⟩
      rw [nI_clamp (by omega)]
      by_cases c3 : l < hC S j
      · have ik : isK S (nI j) (nI l) := ⟨j, l, rfl, rfl, hj, c3⟩
        have im : isM S (slo (nI j) (nI l)) := by rw [sl]; exact (isM_of W.2.1 c3).1
        obtain ⟨o, e1, e2⟩ := W.m im
        refine ⟨fun r e => ?_, fun e => ?_⟩
        · have : r = o := some_inj e1 e
          subst this
          exact hy ik r e e2
        · rw [e1] at e; cases e
      · have im : ¬ isM S (slo (nI j) (nI l)) := by rw [sl, isM_iff hl]; exact fun h => c3 h.2
        have e1 := W.n (by omega) im
        refine ⟨fun r e => ?_, fun _ => hn ?_⟩
        · rw [e1] at e; cases e
        · rw [isK_iff W.2.1 (by omega) (by omega)]; exact fun h => c3 h.2
    · intro ⟨i', j', e1, e2, h1, h2⟩
      have := W.2.1.c i'
      rw [e2] at c2
      exact c2 (nI_lt (b := 16) (by omega) (by decide))
  · intro ⟨i', j, e1, e2, h1, h2⟩
    subst e1
    rw [nI_toIntN (by omega)] at c
    omega
theorem k_allTold {Q : Int32 → Mem → Prop} (W : CT w M a S) (hq : Q (nI (allM S 4)) M) : CI G (d + 1) 81 [.ref a] M Q := by
  refine c_X8_allTold W.1 ?_
  have key : ∀ n i : Nat, n + i = 4 → At G (d + 1) 81 4 [(0, .ref a), (1, .int (nI (allM S i))), (2, .int (nI i))] [] M (qI Q) := by
    intro n
    induction n with
    | zero => 
      intro i h1
      refine c_X8_allTold_4 W.1 ⟨fun _ => ?_, fun c => absurd (show (4 : Int32) ≤ nI i from nI_le (a := 4) (by omega) (by omega)) c⟩
      rw [show i = 4 by omega]
      exact hq
    | succ n ih => 
      intro i h1
      refine c_X8_allTold_4 W.1 ⟨fun c => absurd c (nI_ge (a := i) (b := 4) (by omega) (by decide)), fun _ => ⟨vp_in_nI (by omega) (by omega), ?_⟩⟩
      rw [nI_clamp (by omega), W.c (by omega), nI_add, nI_1]
      exact ih (i + 1) (by omega)
  exact key 4 0 rfl
theorem allM_4 (V : okS S) : allM S 4 = allM S (hN S) := by
  have h4 := V.h
  have key : ∀ n, hN S ≤ n → allM S n = allM S (hN S) := by
    intro n
    induction n with
    | zero => intro h; rw [show hN S = 0 by omega]
    | succ n ih => 
      intro h
      rcases Nat.lt_or_ge n (hN S) with z | z
      · rw [show hN S = n + 1 by omega]
      · show allM S n + hC S n = _
        rw [ih z, V.c0 z]
        omega
  exact key 4 h4
/-- one of the first u MARKS of h is ALIKE x -/
def tellU (S : ShT) (h u : Nat) (x : MkT) : Prop := ∃ k, k < u ∧ k < hC S h ∧ kM S (16 * h + k) = x
theorem tellU_16 (V : okS S) {h : Nat} {x : MkT} : tellU S h 16 x ↔ tell S h x := by
  have := V.c h
  constructor
  · intro ⟨k, _, h2, h3⟩; exact ⟨k, h2, h3⟩
  · intro ⟨k, h2, h3⟩; exact ⟨k, by omega, h2, h3⟩
theorem slo_n {i k : Nat} (hi : i < 2147483648) (hk : k < 2147483648) : slo (nI i) (nI k) = 16 * i + k := by
  unfold slo
  rw [nI_clamp hi, nI_clamp hk]
theorem k_tells {h u p : Nat} {x : MkT} {Q : Int32 → Mem → Prop} (W : CT w M a S) (hh : h < 2147483648) (hu : u < 1000) (hp : mkAt M p x) (vx : okM (gN S) x) (hq : Q (bI (tellU S h u x)) M) : CI G (d + 3) 82 [.ref a, .int (nI h), .int (nI u), .ref p] M Q := by
  refine c_X8_tells W.1 hp.k ?_
  have key : ∀ n i : Nat, n + i = u → (¬ tellU S h i x) → At G (d + 3) 82 3 [(0, .ref a), (1, .int (nI h)), (2, .int (nI u)), (3, .ref p), (4, .int (nI i))] [] M (qI Q) := by
    intro n
    induction n with
    | zero => 
      intro i h1 h2
      refine c_X8_tells_3 W.1 hp.k ⟨fun _ => qF2 hq ?_, fun c => absurd (nI_le (by omega) (by omega)) c⟩
      rw [← show i = u by omega]
      exact h2
    | succ n ih => 
      intro i h1 h2
      refine c_X8_tells_3 W.1 hp.k ⟨fun c => absurd c (nI_ge (by omega) (by omega)), fun _ => ?_⟩
      rw [nI_1]
      refine k_find W (fun c o e1 e2 => ⟨⟨W.1, hp.k⟩, fun r er => ?_, fun er => (by cases er)⟩) (fun c => ⟨⟨W.1, hp.k⟩, fun r er => (by cases er), fun _ => ?_⟩)
      · cases er
        rw [isK_iff W.2.1 hh (by omega)] at c
        rw [slo_n hh (by omega)] at e2
        have im := isM_of W.2.1 c.2
        refine ⟨e2.1.k, k_isAlike e2.1 hp (W.2.1.m im.1) vx ⟨⟨W.1, hp.k⟩, bz (fun c2 => qT2 hq ⟨i, by omega, c.2, c2⟩) (fun c2 => ih (i + 1) (by omega) (fun ⟨k, h3, h4, h5⟩ => ?_))⟩⟩
        rcases Nat.lt_or_ge k i with z | z
        · exact h2 ⟨k, z, h4, h5⟩
        · rw [show k = i by omega] at h5
          exact c2 h5
      · rw [isK_iff W.2.1 hh (by omega)] at c
        refine ih (i + 1) (by omega) (fun ⟨k, h3, h4, h5⟩ => ?_)
        rcases Nat.lt_or_ge k i with z | z
        · exact h2 ⟨k, z, h4, h5⟩
        · rw [show k = i by omega] at h4
          have h6 : h < hN S := by
            rcases Nat.lt_or_ge h (hN S) with y | y
            · exact y
            · rw [W.2.1.c0 y] at h4; omega
          exact c ⟨h6, h4⟩
  exact key u 0 rfl (fun ⟨k, h3, _⟩ => absurd h3 (by omega))
theorem k_agreeing {p : Nat} {x : MkT} {Q : Int32 → Mem → Prop} (W : CT w M a S) (hp : mkAt M p x) (vx : okM (gN S) x) (hq : Q (nI (agr S x)) M) : CI G (d + 4) 83 [.ref a, .ref p] M Q := by
  refine c_X8_agreeing W.1 hp.k ?_
  have h4 := W.2.1.h
  have key : ∀ n i : Nat, n + i = hN S → At G (d + 4) 83 4 [(0, .ref a), (1, .ref p), (2, .int (nI (ct (fun h => tell S h x) i))), (3, .int (nI i))] [] M (qI Q) := by
    intro n
    induction n with
    | zero => 
      intro i h1
      refine c_X8_agreeing_4 W.1 hp.k ?_
      rw [W.h]
      refine ⟨fun _ => ?_, fun c => absurd (nI_le (by omega) (by omega)) c⟩
      rw [show i = hN S by omega]
      exact hq
    | succ n ih => 
      intro i h1
      refine c_X8_agreeing_4 W.1 hp.k ?_
      rw [W.h, nI_1, nI_1]
      refine ⟨fun c => absurd c (nI_ge (by omega) (by omega)), fun _ => k_tells (u := 16) W (by omega) (by omega) hp vx ⟨⟨W.1, hp.k⟩, bz (fun c => ?_) (fun c => ?_)⟩⟩
      · have := ih (i + 1) (by omega)
        rw [ct_y ((tellU_16 W.2.1).mp c)] at this
        exact this
      · have := ih (i + 1) (by omega)
        rw [ct_n (fun h => c ((tellU_16 W.2.1).mpr h))] at this
        exact this
  exact key (hN S) 0 rfl
/-! bits of a long -/
theorem bit_0 (o : Nat) : ¬ bit 0 o := by
  unfold bit
  rw [show (0 : Int64).toBitVec = 0#64 from rfl]
  simp
theorem shl_1 {i : Nat} (hi : i < 64) : ((1 : Int64) <<< ((nI i).toInt64 &&& 63)).toBitVec = BitVec.twoPow 64 i := by
  have key : ∀ i, i < 64 → ((1 : Int64) <<< ((nI i).toInt64 &&& 63)).toBitVec = BitVec.twoPow 64 i := by decide +kernel
  exact key i hi
theorem bit_shl {i : Nat} (hi : i < 64) (o : Nat) : bit ((1 : Int64) <<< ((nI i).toInt64 &&& 63)) o ↔ o = i := by
  unfold bit
  rw [shl_1 hi, BitVec.getLsbD_twoPow]
  simp
  omega
theorem bit_or (x y : Int64) (o : Nat) : bit (x ||| y) o ↔ bit x o ∨ bit y o := by
  unfold bit
  rw [Int64.toBitVec_or, BitVec.getLsbD_or]
  simp
theorem bit_and (x y : Int64) (o : Nat) : bit (x &&& y) o ↔ bit x o ∧ bit y o := by
  unfold bit
  rw [Int64.toBitVec_and, BitVec.getLsbD_and]
  simp
theorem bit_zero {x : Int64} : x = 0 ↔ ∀ o, o < 64 → ¬ bit x o := by
  constructor
  · intro h o _; rw [h]; exact bit_0 o
  · intro h
    apply Int64.toBitVec_inj.mp
    apply BitVec.eq_of_getLsbD_eq
    intro i hi
    have := h i hi
    unfold bit at this
    rw [show (0 : Int64).toBitVec = 0#64 from rfl]
    simpa using this
theorem ck0_self {x : MkT} : ck0 x x = 0 := by
  unfold ck0
  by_cases c0 : kK x = 0
  · rw [cif_T c0, cif_T c0, cif_F (fun h => h.2 rfl)]
  · rw [cif_F c0]
    by_cases c4 : kK x = 4
    · rw [cif_T ⟨c4, c4⟩, cif_T (show mFit x x from Or.inl rfl)]
    · rw [cif_F (fun h => c4 h.1)]
      by_cases cc : mCo x x
      · rw [cif_T cc, cif_F (fun h => h.2.elim (fun e => absurd (h.1.symm.trans e) (by decide)) (fun e => absurd (h.1.symm.trans e) (by decide))), cif_F (fun h => absurd (h.1.symm.trans h.2) (by decide)), cif_F (fun h => h.2 h.1)]
      · rw [cif_F cc]
/-- a MARK has no CLASH with itself -/
theorem ck_self (x : MkT) : ck x x = 0 := by
  unfold ck
  rw [cif_F (by rw [fa_lt]; omega)]
  exact ck0_self
theorem k_clashesOf {p : Nat} {x : MkT} {Q : Int64 → Mem → Prop} (W : CT w M a S) (hp : mkAt M p x) (vx : okM (gN S) x) (hq : ∀ b, (∀ o, o < 64 → (bit b o ↔ isM S o ∧ ¬ ck x (kM S o) = 0)) → Q b M) : CJ G (d + 5) 79 [.ref a, .ref p] M Q := by
  refine c_X8_clashesOf W.1 hp.k ?_
  have key : ∀ (n i : Nat) (b : Int64), n + i = 64 → (∀ o, o < 64 → (bit b o ↔ o < i ∧ isM S o ∧ ¬ ck x (kM S o) = 0)) → At G (d + 5) 79 5 [(0, .ref a), (1, .ref p), (2, .long b), (4, .int (nI i))] [] M (qJ Q) := by
    intro n
    induction n with
    | zero => 
      intro i b h1 h2
      refine c_X8_clashesOf_5 W.1 hp.k ⟨fun _ => hq b (fun o ho => ?_), fun c => absurd (show (64 : Int32) ≤ nI i from nI_le (a := 64) (by omega) (by omega)) c⟩
      rw [h2 o ho]
      exact ⟨fun h => h.2, fun h => ⟨by omega, h⟩⟩
    | succ n ih => 
      intro i b h1 h2
      have nx : ∀ b', (∀ o, o < 64 → (bit b' o ↔ bit b o ∨ (o = i ∧ isM S o ∧ ¬ ck x (kM S o) = 0))) → At G (d + 5) 79 5 [(0, .ref a), (1, .ref p), (2, .long b'), (4, .int (nI (i + 1)))] [] M (qJ Q) := by
        intro b' h3
        refine ih (i + 1) b' (by omega) (fun o ho => ?_)
        rw [h3 o ho, h2 o ho]
        constructor
        · intro h
          rcases h with h | h
          · exact ⟨by omega, h.2⟩
          · exact ⟨by omega, h.2⟩
        · intro h
          by_cases z : o = i
          · exact Or.inr ⟨z, h.2⟩
          · exact Or.inl ⟨by omega, h.2⟩
      refine c_X8_clashesOf_5 W.1 hp.k ⟨fun c => absurd c (nI_ge (a := i) (b := 64) (by omega) (by decide)), fun _ => ⟨vp_in_nI (by omega) (by omega), ?_⟩⟩
      rw [nI_clamp (by omega), nI_1]
      by_cases im : isM S i
      · obtain ⟨o, e1, e2⟩ := W.m im
        refine ⟨fun r e => ?_, fun e => by rw [e1] at e; cases e⟩
        have : r = o := some_inj e1 e
        subst this
        refine k_meets hp e2.1 vx (W.2.1.m im) ⟨⟨W.1, hp.k⟩, fun c => nx b (fun o ho => ?_), fun c => nx _ (fun o ho => ?_)⟩
        · exact ⟨Or.inl, fun h => h.elim id (fun h => absurd c (by rw [← h.1]; exact h.2.2))⟩
        · rw [bit_or, bit_shl (by omega)]
          constructor
          · intro h
            rcases h with h | h
            · exact Or.inl h
            · subst h; exact Or.inr ⟨rfl, im, c⟩
          · intro h
            rcases h with h | h
            · exact Or.inl h
            · exact Or.inr h.1
      · refine ⟨fun r e => (by rw [W.n (by omega) im] at e; cases e), fun _ => nx b (fun o ho => ⟨Or.inl, fun h => h.elim id (fun h => absurd h.2.1 (by rw [h.1]; exact im))⟩)⟩
  exact key 64 0 0 rfl (fun o _ => ⟨fun h => absurd h (bit_0 o), fun h => absurd h.1 (by omega)⟩)
end
