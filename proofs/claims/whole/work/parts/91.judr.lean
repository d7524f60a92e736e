/-! WHAT STANDS: the reference -/
/-- a MARK with a CLASH that is in a state -/
def hcl (S : ShT) (st : Nat → Nat) (s v : Nat) : Prop := ∃ o, isM S o ∧ st o = v ∧ clS S s o
def hvI (o : Option Nat) : Int32 := match o with
  | none => -1
  | some b => nI b
theorem hv_some {S : ShT} {W : Nat → Int64} {st : Nat → Nat} : ∀ (n b : Nat), hv S W st n = some b → b < n ∧ isM S b ∧ st b = 3
  | 0, b, h => by cases h
  | n + 1, b, h => by
    have h0 : (match hv S W st n with | none => cif (isM S n ∧ st n = 3) (some n) none | some b => cif (isM S n ∧ st n = 3 ∧ W b < W n) (some n) (some b)) = some b := h
    cases hn : hv S W st n with
    | none =>
      rw [hn] at h0
      dsimp only at h0
      by_cases c : isM S n ∧ st n = 3
      · rw [cif_T c] at h0; cases h0; exact ⟨by omega, c⟩
      · rw [cif_F c] at h0; cases h0
    | some b' =>
      rw [hn] at h0
      dsimp only at h0
      by_cases c : isM S n ∧ st n = 3 ∧ W b' < W n
      · rw [cif_T c] at h0; cases h0; exact ⟨by omega, c.1, c.2.1⟩
      · rw [cif_F c] at h0; cases h0
        have := hv_some n b hn
        exact ⟨by omega, this.2⟩
theorem hv_none {S : ShT} {W : Nat → Int64} {st : Nat → Nat} : ∀ (n : Nat), hv S W st n = none → ∀ s, s < n → ¬ (isM S s ∧ st s = 3)
  | 0, _, s, hs => absurd hs (Nat.not_lt_zero s)
  | n + 1, h, s, hs => by
    have h0 : (match hv S W st n with | none => cif (isM S n ∧ st n = 3) (some n) none | some b => cif (isM S n ∧ st n = 3 ∧ W b < W n) (some n) (some b)) = none := h
    cases hn : hv S W st n with
    | none =>
      rw [hn] at h0
      dsimp only at h0
      by_cases c : isM S n ∧ st n = 3
      · rw [cif_T c] at h0; cases h0
      · rcases Nat.lt_or_ge s n with z | z
        · exact hv_none n hn s z
        · rw [show s = n by omega]; exact c
    | some b' =>
      rw [hn] at h0
      dsimp only at h0
      by_cases c : isM S n ∧ st n = 3 ∧ W b' < W n
      · rw [cif_T c] at h0; cases h0
      · rw [cif_F c] at h0; cases h0
theorem ct_le2 {p q : Nat → Prop} : ∀ n, (∀ k, k < n → q k → p k) → ct q n ≤ ct p n
  | 0, _ => Nat.le_refl 0
  | n + 1, h => by
    have ih := ct_le2 n (fun k hk => h k (by omega))
    by_cases c : q n
    · rw [ct_y c, ct_y (h n (by omega) c)]; omega
    · rw [ct_n c]
      by_cases c2 : p n
      · rw [ct_y c2]; omega
      · rw [ct_n c2]; exact ih
theorem ct_lt2 {p q : Nat → Prop} {b : Nat} : ∀ n, (∀ k, k < n → q k → p k) → b < n → p b → ¬ q b → ct q n < ct p n
  | 0, _, hb, _, _ => absurd hb (Nat.not_lt_zero b)
  | n + 1, h, hb, h1, h2 => by
    rcases Nat.lt_or_ge b n with z | z
    · have ih := ct_lt2 n (fun k hk => h k (by omega)) z h1 h2
      by_cases c : q n
      · rw [ct_y c, ct_y (h n (by omega) c)]; omega
      · rw [ct_n c]
        by_cases c2 : p n
        · rw [ct_y c2]; omega
        · rw [ct_n c2]; exact ih
    · have e : b = n := by omega
      subst e
      have := ct_le2 b (fun k hk => h k (by omega))
      rw [ct_n h2, ct_y h1]; omega
theorem ct_0 {p : Nat → Prop} : ∀ n, ct p n = 0 → ∀ k, k < n → ¬ p k
  | 0, _, k, hk => absurd hk (Nat.not_lt_zero k)
  | n + 1, h, k, hk => by
    by_cases c : p n
    · rw [ct_y c] at h; omega
    · rw [ct_n c] at h
      rcases Nat.lt_or_ge k n with z | z
      · exact ct_0 n h k z
      · rw [show k = n by omega]; exact c
/-- the states between the loops -/
noncomputable def sA (S : ShT) (W : Nat → Int64) (st : Nat → Nat) (v : Int64) (s : Nat) : Nat := cif (isM S s ∧ st s = 3 ∧ W s = v) (cif (fel S st s) 0 4) (st s)
noncomputable def sB (S : ShT) (W : Nat → Int64) (st : Nat → Nat) (v : Int64) (s : Nat) : Nat := cif (isM S s ∧ sA S W st v s = 4) (cif (hcl S (sA S W st v) s 4) 2 1) (sA S W st v s)
theorem sA_le {S : ShT} {W : Nat → Int64} {st : Nat → Nat} {v : Int64} {s : Nat} (h : st s ≤ 3) : sA S W st v s ≤ 4 := by
  unfold sA
  exact cif_el (φ := fun n => n ≤ 4) (fun _ => cif_el (φ := fun n => n ≤ 4) (fun _ => by omega) (fun _ => by omega)) (fun _ => by omega)
theorem sA_1 {S : ShT} {W : Nat → Int64} {st : Nat → Nat} {v : Int64} {s : Nat} : sA S W st v s = 1 ↔ st s = 1 := by
  unfold sA
  by_cases c : isM S s ∧ st s = 3 ∧ W s = v
  · rw [cif_T c]
    refine ⟨fun z => ?_, fun z => by omega⟩
    by_cases f : fel S st s
    · rw [cif_T f] at z; omega
    · rw [cif_F f] at z; omega
  · rw [cif_F c]
theorem sA_4 {S : ShT} {W : Nat → Int64} {st : Nat → Nat} {v : Int64} {s : Nat} (h : st s ≤ 3) : sA S W st v s = 4 ↔ isM S s ∧ st s = 3 ∧ W s = v ∧ ¬ fel S st s := by
  unfold sA
  by_cases c : isM S s ∧ st s = 3 ∧ W s = v
  · rw [cif_T c]
    by_cases f : fel S st s
    · rw [cif_T f]; exact ⟨fun z => by omega, fun z => absurd f z.2.2.2⟩
    · rw [cif_F f]; exact ⟨fun _ => ⟨c.1, c.2.1, c.2.2, f⟩, fun _ => rfl⟩
  · rw [cif_F c]; exact ⟨fun z => by omega, fun z => absurd ⟨z.1, z.2.1, z.2.2.1⟩ c⟩
theorem sB_stl {S : ShT} {W : Nat → Int64} {st : Nat → Nat} {v : Int64} (h : ∀ s, st s ≤ 3) (s : Nat) : sB S W st v s = stl S W st v s := by
  unfold sB stl
  have hc : hcl S (sA S W st v) s 4 ↔ ∃ o, lft S W st v o ∧ clS S s o := by
    refine ⟨fun ⟨o, h1, h2, h3⟩ => ⟨o, (sA_4 (h o)).mp h2, h3⟩, fun ⟨o, h1, h2⟩ => ⟨o, h1.1, (sA_4 (h o)).mpr h1, h2⟩⟩
  by_cases c : isM S s ∧ st s = 3 ∧ W s = v
  · rw [cif_T c]
    by_cases f : fel S st s
    · rw [cif_T f]
      have e : sA S W st v s = 0 := by unfold sA; rw [cif_T c, cif_T f]
      rw [cif_F (fun z => by omega), e]
    · rw [cif_F f]
      have e : sA S W st v s = 4 := (sA_4 (h s)).mpr ⟨c.1, c.2.1, c.2.2, f⟩
      rw [cif_T ⟨c.1, e⟩]
      by_cases d : hcl S (sA S W st v) s 4
      · rw [cif_T d, cif_T (hc.mp d)]
      · rw [cif_F d, cif_F (fun z => d (hc.mpr z))]
  · rw [cif_F c]
    have e : sA S W st v s = st s := by unfold sA; rw [cif_F c]
    have := h s
    rw [cif_F (fun z => by omega), e]
theorem stl_le {S : ShT} {W : Nat → Int64} {st : Nat → Nat} {v : Int64} (h : ∀ s, st s ≤ 3) (s : Nat) : stl S W st v s ≤ 3 := by
  unfold stl
  have := h s
  exact cif_el (φ := fun n => n ≤ 3) (fun _ => cif_el (φ := fun n => n ≤ 3) (fun _ => by omega) (fun _ => cif_el (φ := fun n => n ≤ 3) (fun _ => by omega) (fun _ => by omega))) (fun _ => this)
theorem stl_3 {S : ShT} {W : Nat → Int64} {st : Nat → Nat} {v : Int64} {s : Nat} : stl S W st v s = 3 → st s = 3 ∧ ¬ (isM S s ∧ W s = v) := by
  unfold stl
  refine cif_el (φ := fun n => n = 3 → _) (fun c => ?_) (fun c z => ⟨z, fun y => c ⟨y.1, z, y.2⟩⟩)
  exact cif_el (φ := fun n => n = 3 → _) (fun _ z => by omega) (fun _ => cif_el (φ := fun n => n = 3 → _) (fun _ z => by omega) (fun _ z => by omega))
theorem jud_le {S : ShT} {W : Nat → Int64} : ∀ (n : Nat) {st : Nat → Nat}, (∀ s, st s ≤ 3) → ∀ s, jud S W n st s ≤ 3
  | 0, st, h, s => h s
  | n + 1, st, h, s => by
    show (match hv S W st 64 with | none => st | some b => jud S W n (stl S W st (W b))) s ≤ 3
    cases hv S W st 64 with
    | none => exact h s
    | some b => exact jud_le n (stl_le h) s
theorem jS_le {S : ShT} {L : LawT} {s : Nat} : jS S L s ≤ 3 := jud_le 64 (fun _ => Nat.le_refl 3) s
section
variable {G : GT} {d : Nat} {M M' : Mem} {m : Nat} {S : ShT} {T : StT} {st : Nat → Nat} {W : Nat → Int64}
theorem s_hasClash {s v : Nat} {Q : Int32 → Mem → Prop} (R : RS M m S) (hs : isM S s) (hst : ∀ o, o < 64 → vi M (m + 24) o = nI (st o)) (sb : ∀ o, st o ≤ 4) (v4 : v ≤ 4) (hq : Q (bI (hcl S st s v)) M) : CI G (d + 5) 221 [.ref m, .int (nI s), .int (nI v)] M Q := by
  have s6 := isM_lt R.2.1 hs
  refine r_hasClash R.1 ?_
  have yes : ∀ i, hcl S st s v → At G (d + 5) 221 5 [(0, .ref m), (1, .int (nI s)), (2, .int (nI v)), (3, .int (1 : Int32)), (4, .int i)] [] M (qI Q) := fun i h => by
    rw [bI_T h] at hq
    exact r_hasClash_5 R.1 ⟨fun _ => ⟨Or.inr rfl, hq⟩, fun _ => ⟨fun _ => ⟨Or.inr rfl, hq⟩, fun z => absurd z (by decide)⟩⟩
  have key : ∀ (j i : Nat), j + i = 64 → (∀ o, o < i → ¬ (isM S o ∧ st o = v ∧ clS S s o)) → At G (d + 5) 221 5 [(0, .ref m), (1, .int (nI s)), (2, .int (nI v)), (3, .int (0 : Int32)), (4, .int (nI i))] [] M (qI Q) := by
    intro j
    induction j with
    | zero =>
      intro i e h
      have no : ¬ hcl S st s v := fun ⟨o, h1, h2, h3⟩ => h o (by have := isM_lt R.2.1 h1; omega) ⟨h1, h2, h3⟩
      rw [bI_F no] at hq
      exact r_hasClash_5 R.1 ⟨fun _ => ⟨Or.inl rfl, hq⟩, fun z => absurd (show (64 : Int32) ≤ nI i from nI_le (a := 64) (by omega) (by omega)) z⟩
    | succ j ih =>
      intro i e h
      have nx : ¬ (isM S i ∧ st i = v ∧ clS S s i) → At G (d + 5) 221 5 [(0, .ref m), (1, .int (nI s)), (2, .int (nI v)), (3, .int (0 : Int32)), (4, .int (nI i + 1))] [] M (qI Q) := fun n => by
        rw [nI_1]
        refine ih (i + 1) (by omega) (fun o ho => ?_)
        rcases Nat.lt_or_ge o i with z | z
        · exact h o z
        · rw [show o = i by omega]; exact n
      refine r_hasClash_5 R.1 ⟨fun z => absurd z (nI_ge (a := i) (b := 64) (by omega) (by decide)), fun _ => ⟨fun z => absurd rfl z, fun _ => ⟨fun z => nx (fun y => ?_), fun z => ?_⟩⟩⟩
      · rw [eq_I (by omega) (by omega)] at z
        rw [z] at y
        exact y.2.2 (ck_self _)
      · refine s_isThere R (by omega) ⟨R.1, bz (fun is => ⟨vp_in_nI (by omega) (by omega), ?_⟩) (fun is => nx (fun y => is y.1))⟩
        have sb := sb i
        rw [nI_clamp (by omega), hst i (by omega), eq_I (by omega) (by omega)]
        refine ⟨fun n => nx (fun y => n y.2.1), fun ev => s_clashOf R hs is ⟨R.1, ?_⟩⟩
        refine ⟨fun n => nx (fun y => ?_), fun n => yes _ ⟨i, is, ev, fun z => n (by rw [z]; decide)⟩⟩
        exact absurd ((ck_pos _ _).mpr y.2.2) (le_nlt n)
  exact key 64 0 rfl (fun o ho => absurd ho (Nat.not_lt_zero o))
theorem s_heaviest {Q : Int32 → Mem → Prop} (R : RS M m S) (hst : ∀ o, o < 64 → vi M (m + 24) o = nI (st o)) (sb : ∀ o, st o ≤ 4) (hw : ∀ s, isM S s → vl M (m + 23) s = W s) (hq : Q (hvI (hv S W st 64)) M) : CI G (d + 5) 222 [.ref m] M Q := by
  refine r_heaviest R.1 ?_
  have key : ∀ (j i : Nat), j + i = 64 → At G (d + 5) 222 4 [(0, .ref m), (1, .int (hvI (hv S W st i))), (2, .int (nI i))] [] M (qI Q) := by
    intro j
    induction j with
    | zero =>
      intro i e
      have e : i = 64 := by omega
      subst e
      exact r_heaviest_4 R.1 ⟨fun _ => hq, fun z => absurd (show (64 : Int32) ≤ nI 64 from nI_le (a := 64) (by omega) (by omega)) z⟩
    | succ j ih =>
      intro i e
      have ih := ih (i + 1) (by omega)
      have h0 : hv S W st (i + 1) = (match hv S W st i with | none => cif (isM S i ∧ st i = 3) (some i) none | some b => cif (isM S i ∧ st i = 3 ∧ W b < W i) (some i) (some b)) := rfl
      have hs0 := hv_some (S := S) (W := W) (st := st) i
      have no : ¬ (isM S i ∧ st i = 3) → hv S W st (i + 1) = hv S W st i := fun n => by
        rw [h0]
        cases hv S W st i with
        | none => dsimp only; rw [cif_F n]
        | some b => dsimp only; rw [cif_F (fun z => n ⟨z.1, z.2.1⟩)]
      have sb := sb i
      refine r_heaviest_4 R.1 ⟨fun z => absurd z (nI_ge (a := i) (b := 64) (by omega) (by decide)), fun _ => ?_⟩
      rw [nI_1]
      refine s_isThere R (by omega) ⟨R.1, bz (fun is => ⟨vp_in_nI (by omega) (by omega), ?_⟩) (fun is => by rw [no (fun y => is y.1)] at ih; exact ih)⟩
      rw [nI_clamp (by omega), hst i (by omega), show (3 : Int32) = nI 3 from rfl, eq_I (by omega) (by omega)]
      refine ⟨fun n => by rw [no (fun y => n y.2)] at ih; exact ih, fun e3 => ?_⟩
      cases hb : hv S W st i with
      | none =>
        rw [h0, hb] at ih
        dsimp only at ih
        rw [cif_T ⟨is, e3⟩] at ih
        exact ⟨fun _ => ih, fun z => absurd rfl z⟩
      | some b =>
        have q := hs0 b hb
        have q6 := isM_lt R.2.1 q.2.1
        rw [h0, hb] at ih
        dsimp only at ih
        have eb : hvI (some b) = nI b := rfl
        rw [eb, nI_clamp (n := b) (by omega), hw i is, hw b q.2.1, cmp_le]
        refine ⟨fun z => absurd z (nI_neN1 (by omega)), fun _ => ⟨vp_in_nI (by omega) (by omega), vp_in_nI (by omega) (by omega), fun z => ?_, fun z => ?_⟩⟩
        · rw [cif_F (fun y => by have := y.2.2; rw [← nle64] at this; exact this z)] at ih
          exact ih
        · rw [nle64] at z
          rw [cif_T ⟨is, e3, z⟩] at ih
          exact ih
  exact key 64 0 rfl
theorem s_settles {v : Int64} {Q : Mem → Prop} (R : RS M m S) (hst : ∀ o, o < 64 → vi M (m + 24) o = nI (st o)) (sb : ∀ o, st o ≤ 3) (hw : ∀ s, isM S s → vl M (m + 23) s = W s) (hq : ∀ M', Frl m [] [24, 25] M M' → (∀ o, o < 64 → vi M' (m + 24) o = nI (stl S W st v o)) → Q M') : CV G (d + 6) 223 [.ref m, .long v] M Q := by
  have RR : ∀ {M' : Mem}, Frl m [] [24, 25] M M' → RS M' m S := fun g => R.fr g (fun o ho => by simp; omega)
  have a4 : ∀ o, sA S W st v o ≤ 4 := fun o => sA_le (sb o)
  -- the third loop
  have l3 : ∀ (j i : Nat) (Mx : Mem), j + i = 64 → Frl m [] [24, 25] M Mx → (∀ o, o < 64 → vi Mx (m + 24) o = nI (cif (o < i) (sB S W st v o) (sA S W st v o))) → (∀ o, o < 64 → isM S o → sA S W st v o = 4 → vi Mx (m + 25) o = bI (hcl S (sA S W st v) o 4)) → At G (d + 6) 223 117 [(0, .ref m), (3, .int (nI i))] [] Mx (qV Q) := by
    intro j
    induction j with
    | zero =>
      intro i Mx e gx hx ho
      refine r_settles_117 (gx.ra R.1) ⟨fun _ => hq Mx gx (fun o ho => ?_), fun z => absurd (show (64 : Int32) ≤ nI i from nI_le (a := 64) (by omega) (by omega)) z⟩
      rw [hx o ho, cif_T (by omega), sB_stl sb]
    | succ j ih =>
      intro i Mx e gx hx ho
      have Rx := RR gx
      have ai := a4 i
      have v6 : vp_in (nI i) 64 := vp_in_nI (by omega) (by omega)
      have xi : vi Mx (m + 24) i = nI (sA S W st v i) := by rw [hx i (by omega), cif_F (by omega)]
      have go : ∀ (M1 : Mem) (b : Nat), M1 = seti Mx (m + 24) i (nI b) → b = sB S W st v i → At G (d + 6) 223 117 [(0, .ref m), (3, .int (nI (i + 1)))] [] M1 (qV Q) := fun M1 b e1 eb => by
        refine ih (i + 1) M1 (by omega) (gx.trans (by rw [e1]; exact Frl.si (by decide))) (fun o ho => ?_) (fun o h1 h2 h3 => by rw [e1, vi_seti, if_neg (by omega)]; exact ho o h1 h2 h3)
        rw [e1, vi_seti]
        by_cases y : o = i
        · rw [if_pos ⟨rfl, y⟩, cif_T (by omega), eb, y]
        · rw [if_neg (fun z => y z.2), hx o ho]
          by_cases z : o < i
          · rw [cif_T z, cif_T (by omega)]
          · rw [cif_F z, cif_F (by omega)]
      refine r_settles_117 Rx.1 ⟨fun z => absurd z (nI_ge (a := i) (b := 64) (by omega) (by decide)), fun _ => ?_⟩
      rw [nI_1]
      refine s_isThere Rx (by omega) ⟨Rx.1, bz (fun is => ⟨v6, ?_⟩) (fun is => ⟨v6, v6, fun M1 e1 => ?_⟩)⟩
      · rw [nI_clamp (by omega), xi, show (4 : Int32) = nI 4 from rfl, eq_I (by omega) (by omega)]
        refine ⟨fun n => ⟨v6, v6, fun M1 e1 => go M1 _ e1 ?_⟩, fun e4 => ⟨v6, ?_⟩⟩
        · unfold sB; rw [cif_F (fun z => n z.2)]
        · rw [ho i (by omega) is e4]
          refine bz (fun y => ⟨v6, fun M1 e1 => go M1 2 e1 ?_⟩) (fun y => ⟨v6, fun M1 e1 => go M1 1 e1 ?_⟩)
          · unfold sB; rw [cif_T ⟨is, e4⟩, cif_T y]
          · unfold sB; rw [cif_T ⟨is, e4⟩, cif_F y]
      · rw [nI_clamp (by omega), xi] at e1
        refine go M1 _ e1 ?_
        unfold sB; rw [cif_F (fun z => is z.1)]
  -- the second loop
  have l2 : ∀ (j i : Nat) (Mx : Mem), j + i = 64 → Frl m [] [24, 25] M Mx → (∀ o, o < 64 → vi Mx (m + 24) o = nI (sA S W st v o)) → (∀ o, o < i → isM S o → sA S W st v o = 4 → vi Mx (m + 25) o = bI (hcl S (sA S W st v) o 4)) → At G (d + 6) 223 65 [(0, .ref m), (3, .int (nI i))] [] Mx (qV Q) := by
    intro j
    induction j with
    | zero =>
      intro i Mx e gx hx ho
      refine r_settles_65 (gx.ra R.1) ⟨fun _ => l3 64 0 Mx rfl gx (fun o h => ?_) (fun o h => ho o (by omega)), fun z => absurd (show (64 : Int32) ≤ nI i from nI_le (a := 64) (by omega) (by omega)) z⟩
      rw [hx o h, cif_F (by omega)]
    | succ j ih =>
      intro i Mx e gx hx ho
      have Rx := RR gx
      have ai := a4 i
      have v6 : vp_in (nI i) 64 := vp_in_nI (by omega) (by omega)
      have go : ∀ (M1 : Mem) (b : Int32), M1 = seti Mx (m + 25) i b → (isM S i → sA S W st v i = 4 → b = bI (hcl S (sA S W st v) i 4)) → At G (d + 6) 223 65 [(0, .ref m), (3, .int (nI (i + 1)))] [] M1 (qV Q) := fun M1 b e1 eb => by
        refine ih (i + 1) M1 (by omega) (gx.trans (by rw [e1]; exact Frl.si (by decide))) (fun o ho => by rw [e1, vi_seti, if_neg (by omega)]; exact hx o ho) (fun o h1 h2 h3 => ?_)
        rw [e1, vi_seti]
        by_cases y : o = i
        · rw [if_pos ⟨rfl, y⟩, y]; rw [y] at h2 h3; exact eb h2 h3
        · rw [if_neg (fun z => y z.2)]; exact ho o (by omega) h2 h3
      have b0 : vp_nar .boolean (0 : Int32) = 0 := by decide
      have b1 : vp_nar .boolean (1 : Int32) = 1 := by decide
      refine r_settles_65 Rx.1 ⟨fun z => absurd z (nI_ge (a := i) (b := 64) (by omega) (by decide)), fun _ => ?_⟩
      rw [nI_1, b0, b1]
      refine s_isThere Rx (by omega) ⟨Rx.1, bz (fun is => ⟨v6, ?_⟩) (fun is => ⟨v6, fun M1 e1 => go M1 _ (by rw [nI_clamp (by omega)] at e1; exact e1) (fun z => absurd z is)⟩)⟩
      rw [nI_clamp (by omega), hx i (by omega), show (4 : Int32) = nI 4 from rfl, eq_I (by omega) (by omega)]
      refine ⟨fun n => ⟨v6, fun M1 e1 => go M1 _ e1 (fun _ z => absurd z n)⟩, fun e4 => s_hasClash Rx is hx a4 (by decide) ⟨Rx.1, bz (fun y => ⟨v6, fun M1 e1 => go M1 _ e1 (fun _ _ => (bI_T y).symm)⟩) (fun y => ⟨v6, fun M1 e1 => go M1 _ e1 (fun _ _ => (bI_F y).symm)⟩)⟩⟩
  -- the first loop
  have l1 : ∀ (j i : Nat) (Mx : Mem), j + i = 64 → Frl m [] [24, 25] M Mx → (∀ o, o < 64 → vi Mx (m + 24) o = nI (cif (o < i) (sA S W st v o) (st o))) → At G (d + 6) 223 2 [(0, .ref m), (1, .long v), (3, .int (nI i))] [] Mx (qV Q) := by
    intro j
    induction j with
    | zero =>
      intro i Mx e gx hx
      refine r_settles_2 (gx.ra R.1) ⟨fun _ => l2 64 0 Mx rfl gx (fun o h => ?_) (fun o h => absurd h (Nat.not_lt_zero o)), fun z => absurd (show (64 : Int32) ≤ nI i from nI_le (a := 64) (by omega) (by omega)) z⟩
      rw [hx o h, cif_T (by omega)]
    | succ j ih =>
      intro i Mx e gx hx
      have Rx := RR gx
      have si := sb i
      have v6 : vp_in (nI i) 64 := vp_in_nI (by omega) (by omega)
      have xi : vi Mx (m + 24) i = nI (st i) := by rw [hx i (by omega), cif_F (by omega)]
      have wi : isM S i → vl Mx (m + 23) i = W i := fun is => by rw [gx.l (by decide) (by decide)]; exact hw i is
      have same0 : ¬ (isM S i ∧ st i = 3 ∧ W i = v) → At G (d + 6) 223 2 [(0, .ref m), (1, .long v), (3, .int (nI (i + 1)))] [] Mx (qV Q) := fun n => by
        refine ih (i + 1) Mx (by omega) gx (fun o ho => ?_)
        rw [hx o ho]
        by_cases y : o = i
        · rw [y, cif_F (by omega), cif_T (by omega)]
          unfold sA; rw [cif_F n]
        · by_cases z : o < i
          · rw [cif_T z, cif_T (by omega)]
          · rw [cif_F z, cif_F (by omega)]
      have go : ∀ (M1 : Mem) (b : Nat), M1 = seti Mx (m + 24) i (nI b) → b = sA S W st v i → At G (d + 6) 223 2 [(0, .ref m), (1, .long v), (3, .int (nI (i + 1)))] [] M1 (qV Q) := fun M1 b e1 eb => by
        refine ih (i + 1) M1 (by omega) (gx.trans (by rw [e1]; exact Frl.si (by decide))) (fun o ho => ?_)
        rw [e1, vi_seti]
        by_cases y : o = i
        · rw [if_pos ⟨rfl, y⟩, cif_T (by omega), eb, y]
        · rw [if_neg (fun z => y z.2), hx o ho]
          by_cases z : o < i
          · rw [cif_T z, cif_T (by omega)]
          · rw [cif_F z, cif_F (by omega)]
      refine r_settles_2 Rx.1 ⟨fun z => absurd z (nI_ge (a := i) (b := 64) (by omega) (by decide)), fun _ => ?_⟩
      rw [nI_1]
      refine s_isThere Rx (by omega) ⟨Rx.1, bz (fun is => ⟨v6, ?_⟩) (fun is => same0 (fun y => is y.1))⟩
      rw [nI_clamp (by omega), xi, wi is, show (3 : Int32) = nI 3 from rfl, eq_I (by omega) (by omega), cmp_eq]
      refine ⟨fun n => same0 (fun y => n y.2.1), fun e3 => ⟨v6, fun n => same0 (fun y => n y.2.2), fun ev => ?_⟩⟩
      have cu : ∀ o, cif (o < i) (sA S W st v o) (st o) ≤ 4 := fun o => cif_el (φ := fun n => n ≤ 4) (fun _ => a4 o) (fun _ => by have := sb o; omega)
      have ef : hcl S (fun o => cif (o < i) (sA S W st v o) (st o)) i 1 ↔ fel S st i := by
        have e1 : ∀ o, cif (o < i) (sA S W st v o) (st o) = 1 ↔ st o = 1 := fun o => by
          by_cases z : o < i
          · rw [cif_T z]; exact sA_1
          · rw [cif_F z]
        exact ⟨fun ⟨o, h1, h2, h3⟩ => ⟨o, h1, (e1 o).mp h2, h3⟩, fun ⟨o, h1, h2, h3⟩ => ⟨o, h1, (e1 o).mpr h2, h3⟩⟩
      refine s_hasClash (v := 1) Rx is hx cu (by decide) ⟨Rx.1, bz (fun y => ⟨v6, fun M1 e1 => go M1 0 e1 ?_⟩) (fun y => ⟨v6, fun M1 e1 => go M1 4 e1 ?_⟩)⟩
      · unfold sA; rw [cif_T ⟨is, e3, ev⟩, cif_T (ef.mp y)]
      · unfold sA; rw [cif_T ⟨is, e3, ev⟩, cif_F (fun z => y (ef.mpr z))]
  refine r_settles R.1 (l1 64 0 M rfl Frl.refl (fun o ho => ?_))
  rw [hst o ho, cif_F (by omega)]
theorem s_judges {l : Nat} {Q : Mem → Prop} (X : RX M m T) (hl : l < qN T) (hq : ∀ M', Frl m [] [21, 22, 23, 24, 25] M M' → (∀ o, o < 64 → vi M' (m + 24) o = nI (jS (sh T) (qL T l) o)) → Q M') : CV G (d + 7) 224 [.ref m, .int (nI l)] M Q := by
  have q4 := X.q4
  have RR : ∀ {M' : Mem}, Frl m [] [21, 22, 23, 24, 25] M M' → RX M' m T := fun g => X.fr g (fun o ho => by simp; omega) (by decide)
  -- the rounds
  have l2 : ∀ (n : Nat) (st : Nat → Nat) (Mx : Mem), Frl m [] [21, 22, 23, 24, 25] M Mx → (∀ o, o < 64 → vi Mx (m + 24) o = nI (st o)) → (∀ o, st o ≤ 3) → (∀ s, isM (sh T) s → vl Mx (m + 23) s = wgt (sh T) (qL T l) s) → ct (fun s => isM (sh T) s ∧ st s = 3) 64 ≤ n → jS (sh T) (qL T l) = jud (sh T) (wgt (sh T) (qL T l)) n st →
      At G (d + 7) 224 50 [(0, .ref m), (2, .int (hvI (hv (sh T) (wgt (sh T) (qL T l)) st 64)))] [] Mx (qV Q) := by
    intro n
    induction n with
    | zero =>
      intro st Mx gx hx sb hw hc he
      have no : hv (sh T) (wgt (sh T) (qL T l)) st 64 = none := by
        cases hb : hv (sh T) (wgt (sh T) (qL T l)) st 64 with
        | none => rfl
        | some b =>
          have q := hv_some 64 b hb
          exact absurd q.2 (ct_0 (p := fun s => isM (sh T) s ∧ st s = 3) 64 (by omega) b q.1)
      rw [no]
      refine r_judges_50 (gx.ra X.1) ⟨fun _ => hq Mx gx (fun o ho => by rw [hx o ho, he]; rfl), fun z => absurd rfl z⟩
    | succ n ih =>
      intro st Mx gx hx sb hw hc he
      have Xx := RR gx
      have he : jS (sh T) (qL T l) = (match hv (sh T) (wgt (sh T) (qL T l)) st 64 with | none => st | some b => jud (sh T) (wgt (sh T) (qL T l)) n (stl (sh T) (wgt (sh T) (qL T l)) st (wgt (sh T) (qL T l) b))) := he
      cases hb : hv (sh T) (wgt (sh T) (qL T l)) st 64 with
      | none =>
        rw [hb] at he
        exact r_judges_50 (gx.ra X.1) ⟨fun _ => hq Mx gx (fun o ho => by rw [hx o ho, he]), fun z => absurd rfl z⟩
      | some b =>
        rw [hb] at he
        dsimp only at he
        have q := hv_some 64 b hb
        have eb : hvI (some b) = nI b := rfl
        rw [eb]
        refine r_judges_50 (gx.ra X.1) ⟨fun z => absurd z (nI_neN1 (by omega)), fun _ => ⟨vp_in_nI (by omega) (by omega), ?_⟩⟩
        rw [nI_clamp (by omega), hw b q.2.1]
        refine s_settles Xx.rs hx sb hw (fun M2 g2 h2 => ⟨g2.ra Xx.1, ?_⟩)
        have gg : Frl m [] [21, 22, 23, 24, 25] M M2 := gx.trans (g2.sub (by decide) (by decide))
        have X2 := RR gg
        have w2 : ∀ s, isM (sh T) s → vl M2 (m + 23) s = wgt (sh T) (qL T l) s := fun s hs => by rw [g2.l (by decide) (by decide)]; exact hw s hs
        have b2 := stl_le (S := sh T) (W := wgt (sh T) (qL T l)) (v := wgt (sh T) (qL T l) b) sb
        refine s_heaviest X2.rs h2 (fun o => by have := b2 o; omega) w2 ⟨X2.1, ?_⟩
        refine ih _ M2 gg h2 b2 w2 ?_ he
        have lt : ct (fun s => isM (sh T) s ∧ stl (sh T) (wgt (sh T) (qL T l)) st (wgt (sh T) (qL T l) b) s = 3) 64 < ct (fun s => isM (sh T) s ∧ st s = 3) 64 :=
          ct_lt2 (b := b) 64 (fun k _ hk => ⟨hk.1, (stl_3 hk.2).1⟩) q.1 q.2 (fun z => (stl_3 z.2).2 ⟨q.2.1, rfl⟩)
        omega
  -- the weights
  have l1 : ∀ (j i : Nat) (Mx : Mem), j + i = 64 → Frl m [] [21, 22, 23, 24, 25] M Mx → (∀ o, o < i → vi Mx (m + 24) o = nI 3) → (∀ s, s < i → isM (sh T) s → vl Mx (m + 23) s = wgt (sh T) (qL T l) s) → At G (d + 7) 224 2 [(0, .ref m), (1, .int (nI l)), (2, .int (nI i))] [] Mx (qV Q) := by
    intro j
    induction j with
    | zero =>
      intro i Mx e gx hx hw
      have Xx := RR gx
      have hx2 : ∀ o, o < 64 → vi Mx (m + 24) o = nI ((fun _ => 3) o : Nat) := fun o ho => hx o (by omega)
      have hw2 : ∀ s, isM (sh T) s → vl Mx (m + 23) s = wgt (sh T) (qL T l) s := fun s hs => hw s (by have := isM_lt X.rs.2.1 hs; omega) hs
      refine r_judges_2 Xx.1 ⟨fun _ => s_heaviest Xx.rs hx2 (fun _ => by decide) hw2 ⟨Xx.1, ?_⟩, fun z => absurd (show (64 : Int32) ≤ nI i from nI_le (a := 64) (by omega) (by omega)) z⟩
      exact l2 64 (fun _ => 3) Mx gx hx2 (fun _ => Nat.le_refl 3) hw2 (ct_le _ _) rfl
    | succ j ih =>
      intro i Mx e gx hx hw
      have v6 : vp_in (nI i) 64 := vp_in_nI (by omega) (by omega)
      refine r_judges_2 (gx.ra X.1) ⟨fun z => absurd z (nI_ge (a := i) (b := 64) (by omega) (by decide)), fun _ => ⟨v6, fun M3 e3 => ?_⟩⟩
      rw [nI_clamp (by omega)] at e3
      have g3 : Frl m [] [21, 22, 23, 24, 25] M M3 := gx.trans (by rw [e3]; exact Frl.si (by decide))
      have X3 := RR g3
      have x3 : ∀ o, o < i + 1 → vi M3 (m + 24) o = nI 3 := fun o ho => by
        rw [e3, vi_seti]
        by_cases y : o = i
        · rw [if_pos ⟨rfl, y⟩]; rfl
        · rw [if_neg (fun z => y z.2)]; exact hx o (by omega)
      have w3 : ∀ s, s < i → isM (sh T) s → vl M3 (m + 23) s = wgt (sh T) (qL T l) s := fun s hs is => by rw [e3, vl_seti]; exact hw s hs is
      rw [nI_1]
      refine s_isThere X3.rs (by omega) ⟨X3.1, bz (fun is => ?_) (fun is => ⟨v6, fun M6 e6 => ?_⟩)⟩
      · refine s_weightOf X3 hl is (fun M7 g7 => ⟨g7.ra X3.1, v6, fun M9 e9 => ?_⟩)
        rw [nI_clamp (by omega)] at e9
        refine ih (i + 1) M9 (by omega) (g3.trans ((g7.sub (by decide) (by decide)).trans (by rw [e9]; exact Frl.sl (by decide)))) (fun o ho => ?_) (fun s hs is2 => ?_)
        · rw [e9, vi_setl, g7.i (by decide) (by decide)]; exact x3 o ho
        · rw [e9, vl_setl]
          by_cases y : s = i
          · rw [if_pos ⟨rfl, y⟩, y]
          · rw [if_neg (fun z => y z.2), g7.l (by decide) (by decide)]; exact w3 s (by omega) is2
      · rw [nI_clamp (by omega)] at e6
        refine ih (i + 1) M6 (by omega) (g3.trans (by rw [e6]; exact Frl.sl (by decide))) (fun o ho => by rw [e6, vi_setl]; exact x3 o ho) (fun s hs is2 => ?_)
        rw [e6, vl_setl]
        by_cases y : s = i
        · rw [y] at is2; exact absurd is2 is
        · rw [if_neg (fun z => y z.2)]; exact w3 s (by omega) is2
  exact r_judges X.1 (l1 64 0 M rfl Frl.refl (fun o ho => absurd ho (Nat.not_lt_zero o)) (fun o ho => absurd ho (Nat.not_lt_zero o)))
end
noncomputable def f_stands (T : StT) (a b c : Int32) : Int32 := cif (lwOk T a ∧ isK (sh T) b c) (nI (jS (sh T) (qL T a.toNatClampNeg) (slo b c))) (-1)
def isFl (S : ShT) (L : LawT) (s o : Nat) : Prop := isM S o ∧ jS S L o = 1 ∧ clS S s o
noncomputable def flr (S : ShT) (L : LawT) (s : Nat) : Int32 := cif (jS S L s = 0 ∧ fst (isFl S L s) 64 < 64) (nI (fst (isFl S L s) 64)) (-2)
noncomputable def f_falls (T : StT) (a b c : Int32) : Int32 := cif (lwOk T a ∧ isK (sh T) b c) (flr (sh T) (qL T a.toNatClampNeg) (slo b c)) (-1)
noncomputable def f_many (T : StT) (a w : Int32) : Int32 := cif (lwOk T a ∧ (0 ≤ w.toInt ∧ w.toInt ≤ 2)) (nI (ct (fun s => isM (sh T) s ∧ nI (jS (sh T) (qL T a.toNatClampNeg) s) = w) 64)) (-1)
section
variable {G : GT} {d : Nat} {M M' : Mem} {m : Nat} {T : StT}
theorem RX.jf (W : RX M m T) (g : Frl m [] [21, 22, 23, 24, 25] M M') : RX M' m T := W.fr g (fun o ho => by simp; omega) (by decide)
theorem m_stands {a b c : Int32} {Q : Int32 → Mem → Prop} (W : RX M m T) (hq : ∀ M', RX M' m T → Ou m M M' → Q (f_stands T a b c) M') : CI G (d + 8) 225 [.ref m, .int a, .int b, .int c] M Q := by
  have q4 := W.q4
  unfold f_stands at hq
  refine r_stands W.1 (s_isLaw W ⟨W.1, bz (fun ca => ?_) (fun ca => by rw [cif_F (fun z => ca z.1)] at hq; exact hq M W Ou.refl)⟩)
  refine s_isMark W.rs ⟨W.1, bnz (fun cb => ?_) (fun cb => by rw [cif_F (fun z => cb z.2)] at hq; exact hq M W Ou.refl)⟩
  obtain ⟨h1, h2, h3, -⟩ := isK_slo W.rs.2.1 cb
  rw [cif_T ⟨ca, cb⟩] at hq
  obtain ⟨l, hl, ea⟩ := asN ca.1 ca.2
  subst ea
  rw [nI_clamp (by omega)] at hq
  rw [h3]
  refine s_judges W hl (fun M' g h => ⟨g.ra W.1, vp_in_nI h2 (by omega), ?_⟩)
  rw [nI_clamp (by omega), h _ h2]
  exact hq M' (W.jf g) (g.ou (by decide))
theorem m_falls {a b c : Int32} {Q : Int32 → Mem → Prop} (W : RX M m T) (hq : ∀ M', RX M' m T → Ou m M M' → Q (f_falls T a b c) M') : CI G (d + 8) 226 [.ref m, .int a, .int b, .int c] M Q := by
  have q4 := W.q4
  unfold f_falls at hq
  refine r_falls W.1 (s_isLaw W ⟨W.1, bz (fun ca => ?_) (fun ca => by rw [cif_F (fun z => ca z.1)] at hq; exact hq M W Ou.refl)⟩)
  refine s_isMark W.rs ⟨W.1, bnz (fun cb => ?_) (fun cb => by rw [cif_F (fun z => cb z.2)] at hq; exact hq M W Ou.refl)⟩
  obtain ⟨h1, h2, h3, -⟩ := isK_slo W.rs.2.1 cb
  rw [cif_T ⟨ca, cb⟩] at hq
  obtain ⟨l, hl, ea⟩ := asN ca.1 ca.2
  subst ea
  rw [nI_clamp (by omega)] at hq
  rw [h3]
  refine s_judges W hl (fun M' g h => ⟨g.ra W.1, ?_⟩)
  have hq := hq M' (W.jf g) (g.ou (by decide))
  have W' := W.jf g
  generalize slo b c = s at *
  have sl := jS_le (S := sh T) (L := qL T l) (s := s)
  have key : ∀ (j i : Nat), j + i = 64 → (∀ o, o < i → ¬ isFl (sh T) (qL T l) s o) → At G (d + 8) 226 35 [(0, .ref m), (4, .int (nI s)), (5, .int (nI i))] [] M' (qI Q) := by
    intro j
    induction j with
    | zero =>
      intro i e no
      refine r_falls_35 W'.1 ⟨fun _ => ?_, fun z => absurd (show (64 : Int32) ≤ nI i from nI_le (a := 64) (by omega) (by omega)) z⟩
      unfold flr at hq
      rw [fst_n 64 (fun o ho => no o (by omega)), cif_F (by omega)] at hq
      exact hq
    | succ j ih =>
      intro i e no
      have nx : ¬ isFl (sh T) (qL T l) s i → At G (d + 8) 226 35 [(0, .ref m), (4, .int (nI s)), (5, .int (nI (i + 1)))] [] M' (qI Q) := fun n => by
        refine ih (i + 1) (by omega) (fun o ho => ?_)
        rcases Nat.lt_or_ge o i with z | z
        · exact no o z
        · rw [show o = i by omega]; exact n
      have il := jS_le (S := sh T) (L := qL T l) (s := i)
      refine r_falls_35 W'.1 ⟨fun z => absurd z (nI_ge (a := i) (b := 64) (by omega) (by decide)), fun _ => ⟨vp_in_nI h2 (by omega), ?_⟩⟩
      rw [nI_clamp (n := s) (by omega), h s h2, il_0, eq_I (by omega) (by omega), nI_1]
      refine ⟨fun n => ?_, fun z0 => s_isThere W'.rs (by omega) ⟨W'.1, bz (fun is => ⟨vp_in_nI (by omega) (by omega), ?_⟩) (fun is => nx (fun y => is y.1))⟩⟩
      · unfold flr at hq
        rw [cif_F (fun z => n z.1)] at hq
        exact hq
      · rw [nI_clamp (n := i) (by omega), h i (by omega), show (1 : Int32) = nI 1 from rfl, eq_I (by omega) (by omega)]
        refine ⟨fun n => nx (fun y => n y.2.1), fun e1 => s_clashOf W'.rs h1 is ⟨W'.1, fun n => nx (fun y => absurd ((ck_pos _ _).mpr y.2.2) (le_nlt n)), fun n => ?_⟩⟩
        unfold flr at hq
        rw [fst_y (p := isFl (sh T) (qL T l) s) (i := i) ⟨is, e1, fun z => n (by rw [z]; decide)⟩ no 64 (by omega), cif_T ⟨z0, by omega⟩] at hq
        exact hq
  exact key 64 0 rfl (fun o ho => absurd ho (Nat.not_lt_zero o))
theorem m_many {a w : Int32} {Q : Int32 → Mem → Prop} (W : RX M m T) (hq : ∀ M', RX M' m T → Ou m M M' → Q (f_many T a w) M') : CI G (d + 8) 227 [.ref m, .int a, .int w] M Q := by
  have q4 := W.q4
  unfold f_many at hq
  refine r_many W.1 (s_isLaw W ⟨W.1, bz (fun ca => ?_) (fun ca => by rw [cif_F (fun z => ca z.1)] at hq; exact hq M W Ou.refl)⟩)
  refine s_in (0 ≤ w.toInt ∧ w.toInt ≤ 2) ?_ ⟨W.1, bnz (fun cb => ?_) (fun cb => by rw [cif_F (fun z => cb z.2)] at hq; exact hq M W Ou.refl)⟩
  · rw [Int32.toInt_toInt64, ll_0, show (2 : Int64).toInt = 2 from rfl]
  rw [cif_T ⟨ca, cb⟩] at hq
  obtain ⟨l, hl, ea⟩ := asN ca.1 ca.2
  subst ea
  rw [nI_clamp (by omega)] at hq
  refine s_judges W hl (fun M' g h => ⟨g.ra W.1, ?_⟩)
  have hq := hq M' (W.jf g) (g.ou (by decide))
  have W' := W.jf g
  have key : ∀ (j i : Nat), j + i = 64 → At G (d + 8) 227 32 [(0, .ref m), (2, .int w), (3, .int (nI (ct (fun s => isM (sh T) s ∧ nI (jS (sh T) (qL T l) s) = w) i))), (4, .int (nI i))] [] M' (qI Q) := by
    intro j
    induction j with
    | zero =>
      intro i e
      have e : i = 64 := by omega
      subst e
      exact r_many_32 W'.1 ⟨fun _ => hq, fun z => absurd (show (64 : Int32) ≤ nI 64 from nI_le (a := 64) (by omega) (by omega)) z⟩
    | succ j ih =>
      intro i e
      have ih := ih (i + 1) (by omega)
      have no : ¬ (isM (sh T) i ∧ nI (jS (sh T) (qL T l) i) = w) → At G (d + 8) 227 32 [(0, .ref m), (2, .int w), (3, .int (nI (ct (fun s => isM (sh T) s ∧ nI (jS (sh T) (qL T l) s) = w) i) + 0)), (4, .int (nI i + 1))] [] M' (qI Q) := fun n => by
        rw [ct_n n] at ih
        rw [il_0, nI_add, Nat.add_zero, nI_1]
        exact ih
      refine r_many_32 W'.1 ⟨fun z => absurd z (nI_ge (a := i) (b := 64) (by omega) (by decide)), fun _ => ?_⟩
      refine s_isThere W'.rs (by omega) ⟨W'.1, bz (fun is => ⟨vp_in_nI (by omega) (by omega), ?_⟩) (fun is => no (fun y => is y.1))⟩
      rw [nI_clamp (n := i) (by omega), h i (by omega)]
      refine ⟨fun n => no (fun y => n y.2), fun y => ?_⟩
      rw [ct_y (p := fun s => isM (sh T) s ∧ nI (jS (sh T) (qL T l) s) = w) ⟨is, y⟩] at ih
      rw [nI_1, nI_1]
      exact ih
  have := key 64 0 rfl
  exact this
end
