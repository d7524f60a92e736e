/-! MOVES: rows that stay in one piece -/
def contig (L : List Nat) (f s : Nat) : Prop := ∃ A B, L = A ++ row f s ++ B
theorem mem_row {f s x : Nat} : x ∈ row f s ↔ 2 * f + 1 ≤ x ∧ x + 1 ≤ 2 * s := by
  unfold row
  rw [List.mem_range'_1]
  omega
theorem row_sub {f s f' s' : Nat} (h1 : f ≤ f') (h2 : f' < s') (h3 : s' ≤ s) : ∃ A B, row f s = A ++ row f' s' ++ B := by
  unfold row
  refine ⟨List.range' (2 * f + 1) (2 * (f' - f)), List.range' (2 * s') (2 * (s - s')), ?_⟩
  rw [show 2 * f' + 1 = 2 * f + 1 + 2 * (f' - f) by omega, List.range'_append_1, show 2 * s' = 2 * f + 1 + (2 * (f' - f) + (2 * (s' - f') - 1)) by omega, List.range'_append_1]
  congr 1
  omega
theorem contig.sub {L : List Nat} {f s f' s' : Nat} (h : contig L f s) (h1 : f ≤ f') (h2 : f' < s') (h3 : s' ≤ s) : contig L f' s' := by
  obtain ⟨A, B, e⟩ := h
  obtain ⟨C, D, e2⟩ := row_sub h1 h2 h3
  exact ⟨A ++ C, D ++ B, by rw [e, e2]; simp only [List.append_assoc]⟩
theorem insA_mem {r : List Nat} {u : Nat} : ∀ {l : List Nat}, u ∈ l → ∃ C D, l = C ++ u :: D ∧ u ∉ C ∧ insA r u l = C ++ u :: (r ++ D)
  | [], h => by cases h
  | x :: l, h => by
    by_cases c : x = u
    · refine ⟨[], l, by rw [c]; rfl, fun z => (by cases z), ?_⟩
      show (if x = u then x :: (r ++ l) else x :: insA r u l) = _
      rw [if_pos c, c]; rfl
    · have h2 : u ∈ l := by
        rcases List.mem_cons.mp h with z | z
        · exact absurd z.symm c
        · exact z
      obtain ⟨C, D, e1, e2, e3⟩ := insA_mem (r := r) h2
      refine ⟨x :: C, D, by rw [e1]; rfl, fun z => ?_, ?_⟩
      · rcases List.mem_cons.mp z with y | y
        · exact c y.symm
        · exact e2 y
      · show (if x = u then x :: (r ++ l) else x :: insA r u l) = _
        rw [if_neg c, e3]; rfl
theorem insA_y {r : List Nat} {u : Nat} : ∀ {X Y : List Nat}, u ∈ X → insA r u (X ++ Y) = insA r u X ++ Y
  | [], Y, h => by cases h
  | x :: X, Y, h => by
    show (if x = u then x :: (r ++ (X ++ Y)) else x :: insA r u (X ++ Y)) = (if x = u then x :: (r ++ X) else x :: insA r u X) ++ Y
    by_cases c : x = u
    · rw [if_pos c, if_pos c, List.cons_append, List.append_assoc]
    · rw [if_neg c, if_neg c, List.cons_append, insA_y]
      rcases List.mem_cons.mp h with z | z
      · exact absurd z.symm c
      · exact z
theorem insA_n {r : List Nat} {u : Nat} : ∀ {X Y : List Nat}, u ∉ X → insA r u (X ++ Y) = X ++ insA r u Y
  | [], Y, _ => rfl
  | x :: X, Y, h => by
    show (if x = u then x :: (r ++ (X ++ Y)) else x :: insA r u (X ++ Y)) = x :: (X ++ insA r u Y)
    rw [if_neg (fun c => h (by rw [← c]; exact List.mem_cons_self)), insA_n (fun z => h (List.mem_cons_of_mem _ z))]
def outR (f s x : Nat) : Bool := !(decide (2 * f + 1 ≤ x) && decide (x ≤ 2 * s - 1))
theorem outR_T {f s x : Nat} : outR f s x = true ↔ ¬ (2 * f + 1 ≤ x ∧ x ≤ 2 * s - 1) := by
  unfold outR
  rw [Bool.not_eq_true', Bool.and_eq_false_iff, decide_eq_false_iff_not, decide_eq_false_iff_not]
  omega
theorem flt_all {f s : Nat} {l : List Nat} (h : ∀ x ∈ l, ¬ (2 * f + 1 ≤ x ∧ x ≤ 2 * s - 1)) : l.filter (outR f s) = l := List.filter_eq_self.mpr (fun x hx => outR_T.mpr (h x hx))
theorem flt_no {f s : Nat} {l : List Nat} (h : ∀ x ∈ l, 2 * f + 1 ≤ x ∧ x ≤ 2 * s - 1) : l.filter (outR f s) = [] := List.filter_eq_nil_iff.mpr (fun x hx z => outR_T.mp z (h x hx))
theorem mvL_e (L : List Nat) (f s t : Nat) : mvL L f s t = insA (row f s) (2 * t) (L.filter (outR f s)) := rfl
theorem nodup3 {A R B : List Nat} (h : (A ++ R ++ B).Nodup) : (∀ x ∈ A, x ∉ R) ∧ (∀ x ∈ B, x ∉ R) := by
  rw [List.append_assoc, List.nodup_append] at h
  have h2 := List.nodup_append.mp h.2.1
  exact ⟨fun x hx hr => h.2.2 x hx x (List.mem_append_left _ hr) rfl, fun x hx hr => h2.2.2 x hr x hx rfl⟩
/-- a move, when its row is in one piece -/
theorem mv_str {L : List Nat} {f s t : Nat} (hN : L.Nodup) (hc : contig L f s) (hu : 2 * t ∈ L) (fs : f < s) (ht : t ≤ f ∨ s ≤ t) : ∃ A B C D, L = A ++ row f s ++ B ∧ A ++ B = C ++ 2 * t :: D ∧ 2 * t ∉ C ∧ mvL L f s t = C ++ 2 * t :: (row f s ++ D) := by
  obtain ⟨A, B, e⟩ := hc
  have n3 := nodup3 (by rw [← e]; exact hN)
  have ek : L.filter (outR f s) = A ++ B := by
    rw [e, List.filter_append, List.filter_append, flt_all (fun x hx z => n3.1 x hx (mem_row.mpr (by omega))), flt_no (fun x hx => by have := mem_row.mp hx; omega), flt_all (fun x hx z => n3.2 x hx (mem_row.mpr (by omega))), List.append_nil]
  have hm : 2 * t ∈ A ++ B := by
    rw [← ek]
    exact List.mem_filter.mpr ⟨hu, outR_T.mpr (by omega)⟩
  obtain ⟨C, D, e1, e2, e3⟩ := insA_mem (r := row f s) hm
  exact ⟨A, B, C, D, e, e1, e2, by rw [mvL_e, ek]; exact e3⟩
theorem mv_perm {L : List Nat} {f s t : Nat} (hN : L.Nodup) (hc : contig L f s) (hu : 2 * t ∈ L) (fs : f < s) (ht : t ≤ f ∨ s ≤ t) : (mvL L f s t).Perm L := by
  obtain ⟨A, B, C, D, e, e1, e2, e3⟩ := mv_str hN hc hu fs ht
  rw [e3, e]
  have p1 : (C ++ 2 * t :: (row f s ++ D)).Perm (row f s ++ (C ++ 2 * t :: D)) := by
    have q : (C ++ 2 * t :: (row f s ++ D)) = (C ++ [2 * t]) ++ (row f s ++ D) := by simp
    have q2 : (C ++ 2 * t :: D) = (C ++ [2 * t]) ++ D := by simp
    rw [q, q2]
    exact List.perm_append_comm_assoc _ _ _
  have p2 : (A ++ row f s ++ B).Perm (row f s ++ (A ++ B)) := by
    rw [List.append_assoc]
    exact List.perm_append_comm_assoc _ _ _
  rw [e1] at p2
  exact p1.trans p2.symm
/-- another row stays in one piece -/
theorem mv_con {L : List Nat} {f s t f' s' : Nat} (hN : L.Nodup) (hc : contig L f s) (hu : 2 * t ∈ L) (fs : f < s) (ht : t ≤ f ∨ s ≤ t) (fs' : f' < s') (hc' : contig L f' s') (g : ¬ (f' < t ∧ t < s') ∧ (s ≤ f' ∨ s' ≤ f ∨ (f ≤ f' ∧ s' ≤ s))) : contig (mvL L f s t) f' s' := by
  by_cases c : f ≤ f' ∧ s' ≤ s
  · obtain ⟨A, B, C, D, e, e1, e2, e3⟩ := mv_str hN hc hu fs ht
    have : contig (mvL L f s t) f s := ⟨C ++ [2 * t], D, by rw [e3]; simp⟩
    exact this.sub c.1 fs' c.2
  · obtain ⟨A, B, e⟩ := hc'
    have er : (row f' s').filter (outR f s) = row f' s' := flt_all (fun x hx z => by have := mem_row.mp hx; omega)
    have nu : 2 * t ∉ row f' s' := fun z => by have := mem_row.mp z; omega
    rw [mvL_e, e, List.filter_append, List.filter_append, er]
    by_cases d : 2 * t ∈ A.filter (outR f s)
    · rw [List.append_assoc, insA_y d]
      exact ⟨_, _, by rw [← List.append_assoc]⟩
    · rw [List.append_assoc, insA_n d, insA_n nu]
      exact ⟨_, _, by rw [← List.append_assoc]⟩
theorem contig_0 {n f s : Nat} (h1 : f < s) (h2 : s ≤ n) : contig (List.range (2 * n + 1)) f s := by
  unfold contig row
  refine ⟨List.range' 0 (2 * f + 1), List.range' (2 * s) (2 * (n - s) + 1), ?_⟩
  rw [List.range_eq_range', show List.range' (2 * f + 1) (2 * (s - f) - 1) = List.range' (0 + (2 * f + 1)) (2 * (s - f) - 1) by rw [Nat.zero_add], List.range'_append_1, show List.range' (2 * s) (2 * (n - s) + 1) = List.range' (0 + (2 * f + 1 + (2 * (s - f) - 1))) (2 * (n - s) + 1) by congr 1; omega, List.range'_append_1]
  congr 1
  omega
/-- the PLACES of a move -/
theorem mv_ok {n : Nat} {x : MkT} (n2 : n ≤ 200) (h : okM n x) (k : kK x = 4) : kF x = nI (fN x) ∧ kS x = nI (sN x) ∧ kT x = nI (dN x) ∧ fN x < sN x ∧ sN x ≤ n ∧ dN x ≤ n ∧ (dN x < fN x ∨ sN x < dN x) := by
  have k0 : kK x ≠ 0 := by rw [k]; decide
  obtain ⟨h1, h2, h3, h4, h5, h6⟩ := h
  have h4 := h4 k0
  have h5 := h5 k
  obtain ⟨f, hf, ef⟩ := asN (a := kF x) (N := 201) (by omega) (by omega)
  obtain ⟨s, hs, es⟩ := asN (a := kS x) (N := 201) (by omega) (by omega)
  obtain ⟨t, ht, et⟩ := asN (a := kT x) (N := 201) (by omega) (by omega)
  have e1 : fN x = f := by unfold fN; rw [ef, nI_clamp (by omega)]
  have e2 : sN x = s := by unfold sN; rw [es, nI_clamp (by omega)]
  have e3 : dN x = t := by unfold dN; rw [et, nI_clamp (by omega)]
  rw [ef, nI_toIntN (by omega)] at h4 h5
  rw [es, nI_toIntN (by omega)] at h4 h5
  rw [et, nI_toIntN (by omega)] at h5
  rw [e1, e2, e3]
  refine ⟨ef, es, et, by omega, by omega, by omega, by omega⟩
/-- how a move lies to one done before it -/
theorem mv_geo {n : Nat} {x y : MkT} (n2 : n ≤ 200) (hx : okM n x) (hy : okM n y) (kx : kK x = 4) (ky : kK y = 4) (ne : x ≠ y) (fit : ck x y = 0) (sp : ¬ mSp x < mSp y) : ¬ (fN y < dN x ∧ dN x < sN y) ∧ (sN x ≤ fN y ∨ sN y ≤ fN x ∨ (fN x ≤ fN y ∧ sN y ≤ sN x)) := by
  obtain ⟨x1, x2, x3, x4, x5, x6, x7⟩ := mv_ok n2 hx kx
  obtain ⟨y1, y2, y3, y4, y5, y6, y7⟩ := mv_ok n2 hy ky
  have fit : mFit x y := by
    unfold ck at fit
    rw [cif_F (by rw [kx, ky]; decide)] at fit
    unfold ck0 at fit
    rw [cif_F (by rw [kx]; decide), cif_T ⟨kx, ky⟩] at fit
    exact Classical.byContradiction (fun z => by rw [cif_F z] at fit; exact absurd fit (by decide))
  unfold mSp mHi mLo at sp
  unfold mFit mIn mBt oFr oTo mHi mLo at fit
  rw [x1, x2, x3, y1, y2, y3] at sp fit
  generalize fN x = f at *
  generalize sN x = s at *
  generalize dN x = t at *
  generalize fN y = f' at *
  generalize sN y = s' at *
  generalize dN y = t' at *
  have lo : ∀ a b : Nat, a ≤ 200 → b ≤ 200 → (if nI a < nI b then nI a else nI b) = nI (min a b) := fun a b ha hb => by
    by_cases z : a < b
    · rw [if_pos (by rw [lt_I (by omega) (by omega)]; exact z), Nat.min_eq_left (by omega)]
    · rw [if_neg (by rw [lt_I (by omega) (by omega)]; exact z), Nat.min_eq_right (by omega)]
  have hi : ∀ a b : Nat, a ≤ 200 → b ≤ 200 → (if nI a < nI b then nI b else nI a) = nI (max a b) := fun a b ha hb => by
    by_cases z : a < b
    · rw [if_pos (by rw [lt_I (by omega) (by omega)]; exact z), Nat.max_eq_right (by omega)]
    · rw [if_neg (by rw [lt_I (by omega) (by omega)]; exact z), Nat.max_eq_left (by omega)]
  rw [lo t f (by omega) (by omega), hi s t (by omega) (by omega), lo t' f' (by omega) (by omega), hi s' t' (by omega) (by omega)] at sp fit
  rw [pk_sub (by omega), pk_sub (by omega), lt_I (by omega) (by omega)] at sp
  have fr : ∀ a b e : Nat, (if nI a < nI b then nI a else nI e) = nI (if a < b then a else e) ∨ ¬ (a < 2147483648 ∧ b < 2147483648) := fun a b e => by
    by_cases u : a < 2147483648 ∧ b < 2147483648
    · left
      by_cases z : a < b
      · rw [if_pos (by rw [lt_I u.1 u.2]; exact z), if_pos z]
      · rw [if_neg (by rw [lt_I u.1 u.2]; exact z), if_neg z]
    · exact Or.inr u
  have fo : ∀ a b e g : Nat, (if nI a < nI b then nI e else nI g) = nI (if a < b then e else g) ∨ ¬ (a < 2147483648 ∧ b < 2147483648) := fun a b e g => by
    by_cases u : a < 2147483648 ∧ b < 2147483648
    · left
      by_cases z : a < b
      · rw [if_pos (by rw [lt_I u.1 u.2]; exact z), if_pos z]
      · rw [if_neg (by rw [lt_I u.1 u.2]; exact z), if_neg z]
    · exact Or.inr u
  rw [(fr t' f' s').resolve_right (by omega), (fo t' f' f' t').resolve_right (by omega), (fr t f s).resolve_right (by omega), (fo t f f t).resolve_right (by omega)] at fit
  have b1 : (if t' < f' then t' else s') ≤ 200 := by split <;> omega
  have b2 : (if t' < f' then f' else t') ≤ 200 := by split <;> omega
  have b3 : (if t < f then t else s) ≤ 200 := by split <;> omega
  have b4 : (if t < f then f else t) ≤ 200 := by split <;> omega
  rw [le_I (by omega) (by omega), le_I (by omega) (by omega)] at fit
  rcases fit with z | z | z | z
  · exact absurd z ne
  · have z := z.1
    omega
  · rcases z with ⟨z1, z2, z3, z4⟩ | ⟨z1, z2, z3, z4⟩
    · rw [le_I (by omega) (by omega)] at z1 z2
      rw [lt_I (by omega) (by omega)] at z3 z4
      omega
    · rw [le_I (by omega) (by omega)] at z1 z2
      rw [lt_I (by omega) (by omega)] at z3 z4
      by_cases q : t' < f'
      · rw [if_pos q] at z1 z2 z3 z4; omega
      · rw [if_neg q] at z1 z2 z3 z4; omega
  · rcases z with ⟨z1, z2, z3, z4⟩ | ⟨z1, z2, z3, z4⟩
    · rw [le_I (by omega) (by omega)] at z1 z2
      rw [lt_I (by omega) (by omega)] at z3 z4
      omega
    · rw [le_I (by omega) (by omega)] at z1 z2
      rw [lt_I (by omega) (by omega)] at z3 z4
      by_cases q : t < f
      · rw [if_pos q] at z1 z2 z3 z4; omega
      · rw [if_neg q] at z1 z2 z3 z4; omega
/-- the MARKS by which a TEXT is made -/
def pOk (S : ShT) (p : Nat → Prop) : Prop := (∀ s, p s → isM S s) ∧ ∀ s o, p s → p o → ck (kM S s) (kM S o) = 0
theorem wd_some {S : ShT} {p dn : Nat → Prop} : ∀ (n b : Nat), wd S p dn n = some b → b < n ∧ isMv S p dn b ∧ ∀ o, o < n → isMv S p dn o → ¬ mSp (kM S b) < mSp (kM S o)
  | 0, b, h => by cases h
  | n + 1, b, h => by
    have h0 : (match wd S p dn n with | none => cif (isMv S p dn n) (some n) none | some b => cif (isMv S p dn n ∧ mSp (kM S b) < mSp (kM S n)) (some n) (some b)) = some b := h
    cases hn : wd S p dn n with
    | none =>
      rw [hn] at h0
      dsimp only at h0
      by_cases c : isMv S p dn n
      · rw [cif_T c] at h0; cases h0
        refine ⟨by omega, c, fun o ho io => ?_⟩
        rcases Nat.lt_or_ge o n with z | z
        · exact absurd io (wd_none n hn o z)
        · rw [show o = n by omega, fa_lt]; omega
      · rw [cif_F c] at h0; cases h0
    | some b' =>
      have ih := wd_some n b' hn
      rw [hn] at h0
      dsimp only at h0
      by_cases c : isMv S p dn n ∧ mSp (kM S b') < mSp (kM S n)
      · rw [cif_T c] at h0; cases h0
        refine ⟨by omega, c.1, fun o ho io => ?_⟩
        rcases Nat.lt_or_ge o n with z | z
        · have := ih.2.2 o z io
          have c2 := c.2
          rw [fa_lt] at this c2 ⊢
          omega
        · rw [show o = n by omega, fa_lt]; omega
      · rw [cif_F c] at h0; cases h0
        refine ⟨by omega, ih.2.1, fun o ho io => ?_⟩
        rcases Nat.lt_or_ge o n with z | z
        · exact ih.2.2 o z io
        · rw [show o = n by omega] at io ⊢; exact fun y => c ⟨io, y⟩
where
  wd_none {S : ShT} {p dn : Nat → Prop} : ∀ (n : Nat), wd S p dn n = none → ∀ o, o < n → ¬ isMv S p dn o
  | 0, _, o, ho => absurd ho (Nat.not_lt_zero o)
  | n + 1, h, o, ho => by
    have h0 : (match wd S p dn n with | none => cif (isMv S p dn n) (some n) none | some b => cif (isMv S p dn n ∧ mSp (kM S b) < mSp (kM S n)) (some n) (some b)) = none := h
    cases hn : wd S p dn n with
    | none =>
      rw [hn] at h0
      dsimp only at h0
      by_cases c : isMv S p dn n
      · rw [cif_T c] at h0; cases h0
      · rcases Nat.lt_or_ge o n with z | z
        · exact wd_none n hn o z
        · rw [show o = n by omega]; exact c
    | some b' =>
      rw [hn] at h0
      dsimp only at h0
      by_cases c : isMv S p dn n ∧ mSp (kM S b') < mSp (kM S n)
      · rw [cif_T c] at h0; cases h0
      · rw [cif_F c] at h0; cases h0
theorem wd_non {S : ShT} {p dn : Nat → Prop} {n : Nat} (h : wd S p dn n = none) {o : Nat} (ho : o < n) : ¬ isMv S p dn o := wd_some.wd_none n h o ho
/-- while moves are done -/
def mvI (S : ShT) (p dn : Nat → Prop) (L : List Nat) : Prop := L.Nodup ∧ (∀ x, x ∈ L ↔ x < 2 * gN S + 1) ∧ ∀ o, isMv S p dn o → contig L (fN (kM S o)) (sN (kM S o))
def dnN (S : ShT) (p dn : Nat → Prop) (b : Nat) : Nat → Prop := fun o => dn o ∨ (p o ∧ kM S o = kM S b)
def mvB (S : ShT) (L : List Nat) (b : Nat) : List Nat := mvL L (fN (kM S b)) (sN (kM S b)) (dN (kM S b))
section
variable {S : ShT} {p dn : Nat → Prop} {L : List Nat} {b : Nat}
theorem mvI_0 (V : okS S) (hp : pOk S p) : mvI S p dn (List.range (2 * gN S + 1)) := by
  refine ⟨List.nodup_range, fun x => List.mem_range, fun o ho => ?_⟩
  have q := mv_ok V.g (V.m (hp.1 o ho.1)) ho.2.1
  exact contig_0 q.2.2.2.1 q.2.2.2.2.1
/-- what there is of a move that is to be done -/
theorem mvI.bk (h : mvI S p dn L) (V : okS S) (hp : pOk S p) (hb : isMv S p dn b) : fN (kM S b) < sN (kM S b) ∧ sN (kM S b) ≤ gN S ∧ dN (kM S b) ≤ gN S ∧ (dN (kM S b) ≤ fN (kM S b) ∨ sN (kM S b) ≤ dN (kM S b)) ∧ 2 * dN (kM S b) ∈ L ∧ contig L (fN (kM S b)) (sN (kM S b)) ∧ kF (kM S b) = nI (fN (kM S b)) ∧ kS (kM S b) = nI (sN (kM S b)) ∧ kT (kM S b) = nI (dN (kM S b)) := by
  have q := mv_ok V.g (V.m (hp.1 b hb.1)) hb.2.1
  exact ⟨q.2.2.2.1, q.2.2.2.2.1, q.2.2.2.2.2.1, by omega, (h.2.1 _).mpr (by omega), h.2.2 b hb, q.1, q.2.1, q.2.2.1⟩
theorem mvI.s (h : mvI S p dn L) (V : okS S) (hp : pOk S p) (hb : wd S p dn 64 = some b) : mvI S p (dnN S p dn b) (mvB S L b) := by
  obtain ⟨b6, hb, hw⟩ := wd_some 64 b hb
  obtain ⟨q1, q2, q3, q4, q5, q6, -⟩ := h.bk V hp hb
  have pm := mv_perm h.1 q6 q5 q1 q4
  refine ⟨pm.nodup_iff.mpr h.1, fun x => by rw [← h.2.1 x]; exact pm.mem_iff, fun o ho => ?_⟩
  have nd : ¬ dn o := fun z => ho.2.2 (Or.inl z)
  have ne : kM S b ≠ kM S o := fun z => ho.2.2 (Or.inr ⟨ho.1, z.symm⟩)
  have io : isMv S p dn o := ⟨ho.1, ho.2.1, nd⟩
  have o6 := isM_lt V (hp.1 o ho.1)
  have q := h.bk V hp io
  exact mv_con h.1 q6 q5 q1 q4 q.1 (h.2.2 o io) (mv_geo V.g (V.m (hp.1 b hb.1)) (V.m (hp.1 o ho.1)) hb.2.1 ho.2.1 ne (hp.2 b o hb.1 ho.1) (hw o o6 io))
theorem mvI.len (h : mvI S p dn L) : L.length = 2 * gN S + 1 := by
  have : L.Perm (List.range (2 * gN S + 1)) := (List.perm_ext_iff_of_nodup h.1 List.nodup_range).mpr (fun x => by rw [h.2.1 x, List.mem_range])
  rw [this.length_eq, List.length_range]
/-- the moves that wait -/
noncomputable def nMv (S : ShT) (p dn : Nat → Prop) : Nat := ct (isMv S p dn) 64
theorem nMv_s (V : okS S) (hb : wd S p dn 64 = some b) : nMv S p (dnN S p dn b) < nMv S p dn := by
  obtain ⟨b6, hb, hw⟩ := wd_some 64 b hb
  exact ct_lt2 (b := b) 64 (fun k _ hk => ⟨hk.1, hk.2.1, fun z => hk.2.2 (Or.inl z)⟩) b6 hb (fun z => z.2.2 (Or.inr ⟨hb.1, rfl⟩))
theorem mvs_0 (h : nMv S p dn = 0) : ∀ n, mvs S p n dn L = L
  | 0 => rfl
  | n + 1 => by
    show (match wd S p dn 64 with | none => L | some b => mvs S p n (dnN S p dn b) (mvB S L b)) = L
    cases hb : wd S p dn 64 with
    | none => rfl
    | some b => exact absurd (wd_some 64 b hb).2.1 (ct_0 64 h b (wd_some 64 b hb).1)
theorem mvs_n (h : wd S p dn 64 = none) : ∀ n, mvs S p n dn L = L
  | 0 => rfl
  | n + 1 => by
    show (match wd S p dn 64 with | none => L | some b => mvs S p n (dnN S p dn b) (mvB S L b)) = L
    rw [h]
/-- fuel enough is fuel enough -/
theorem mvs_m (V : okS S) : ∀ (n k : Nat) {dn : Nat → Prop} {L : List Nat}, nMv S p dn ≤ n → n ≤ k → mvs S p n dn L = mvs S p k dn L
  | 0, k, dn, L, h, _ => by rw [mvs_0 (by omega), mvs_0 (by omega)]
  | n + 1, 0, dn, L, h, hk => by omega
  | n + 1, k + 1, dn, L, h, hk => by
    show (match wd S p dn 64 with | none => L | some b => mvs S p n (dnN S p dn b) (mvB S L b)) = (match wd S p dn 64 with | none => L | some b => mvs S p k (dnN S p dn b) (mvB S L b))
    cases hb : wd S p dn 64 with
    | none => rfl
    | some b =>
      have := nMv_s V hb
      exact mvs_m V n k (by omega) (by omega)
end
/-! what stands has no CLASHES -/
theorem jud_nc {S : ShT} {W : Nat → Int64} : ∀ (n : Nat) {st : Nat → Nat}, (∀ a b, isM S a → isM S b → st a = 1 → st b = 1 → ck (kM S a) (kM S b) = 0) → ∀ a b, isM S a → isM S b → jud S W n st a = 1 → jud S W n st b = 1 → ck (kM S a) (kM S b) = 0
  | 0, st, h => h
  | n + 1, st, h => by
    have e : jud S W (n + 1) st = (match hv S W st 64 with | none => st | some b => jud S W n (stl S W st (W b))) := rfl
    rw [e]
    cases hv S W st 64 with
    | none => exact h
    | some x =>
      refine jud_nc n (fun a b ha hb ea eb => ?_)
      have key : ∀ s, stl S W st (W x) s = 1 → st s = 1 ∨ (lft S W st (W x) s ∧ ¬ exL S W st (W x) s) := fun s z => by
        rw [stl_s1] at z
        by_cases c : lft S W st (W x) s
        · rw [cif_T c] at z
          by_cases y : exL S W st (W x) s
          · rw [cif_T y] at z; omega
          · exact Or.inr ⟨c, y⟩
        · rw [cif_F c] at z
          unfold s1 at z
          by_cases y : wai S W st (W x) s ∧ fel S st s
          · rw [cif_T y] at z; omega
          · rw [cif_F y] at z; exact Or.inl z
      apply Classical.byContradiction
      intro nz
      rcases key a ea with a1 | ⟨a1, a2⟩
      · rcases key b eb with b1 | ⟨b1, b2⟩
        · exact nz (h a b ha hb a1 b1)
        · exact b1.2.2.2 ⟨a, ha, a1, by unfold clS; rw [ck_c]; exact nz⟩
      · rcases key b eb with b1 | ⟨b1, b2⟩
        · exact a1.2.2.2 ⟨b, hb, b1, nz⟩
        · exact a2 ⟨b, b1, nz⟩
theorem stS_ok {S : ShT} {L : LawT} : pOk S (stS S L) := ⟨fun s h => h.1, fun s o hs ho => jud_nc (W := wgt S L) 64 (st := fun _ => 3) (fun _ _ _ _ z => by omega) s o hs.1 ho.1 hs.2 ho.2⟩
