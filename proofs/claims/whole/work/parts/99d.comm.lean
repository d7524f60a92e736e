/-! THE TEXT: the class; what touches, what is put in, writing -/
theorem chn_rng {nx bf : Nat → Int32} : ∀ (k s : Nat) (l r : Int32), (∀ i, s ≤ i → i < s + k → nx i = if i + 1 < s + k then nI (i + 1) else r) → (∀ i, s ≤ i → i < s + k → bf i = if i = s then l else nI (i - 1)) → chn nx bf l (List.range' s k) r
  | 0, _, _, _, _, _ => trivial
  | 1, s, l, r, hn, hb => by
    have a := hb s (Nat.le_refl _) (by omega)
    have b := hn s (Nat.le_refl _) (by omega)
    rw [if_pos rfl] at a
    rw [if_neg (by omega)] at b
    exact ⟨a, b⟩
  | k + 2, s, l, r, hn, hb => by
    have a := hb s (Nat.le_refl _) (by omega)
    have b := hn s (Nat.le_refl _) (by omega)
    rw [if_pos rfl] at a
    rw [if_pos (by omega)] at b
    have ih := chn_rng (nx := nx) (bf := bf) (k + 1) (s + 1) (nI s) r (fun i h1 h2 => by rw [hn i (by omega) (by omega), show s + 1 + (k + 1) = s + (k + 2) by omega]) (fun i h1 h2 => by
      rw [hb i (by omega) (by omega), if_neg (by omega)]
      by_cases y : i = s + 1
      · rw [if_pos y, y]; rfl
      · rw [if_neg y])
    exact ⟨a, b, ih⟩
def covL (S : ShT) (l : List Nat) (k : Int32) (q : Nat) : Prop := ∃ s, s ∈ l ∧ kK (kM S s) = k ∧ fN (kM S s) ≤ q ∧ q < sN (kM S s)
noncomputable def tch (S : ShT) (l : List Nat) (q : Nat) : Int32 := cif (covL S l 1 q) 1 (cif (covL S l 2 q) 2 (cif (covL S l 3 q) 3 (-1)))
def puI (S : ShT) (l : List Nat) (q s : Nat) : Prop := s ∈ l ∧ kK (kM S s) = 0 ∧ kF (kM S s) = nI q
def ntR (w : Nat → Nat) (M : Mem) (o : Nat) (S : ShT) (l : List Nat) : Prop := (∀ q, q < gN S → vi M (o + 4) q = tch S l q) ∧ ∀ q, q ≤ gN S → ((∃ s, puI S l q s) → ∃ r s, vr M (o + 5) q = some r ∧ puI S l q s ∧ cMk w M r (kM S s)) ∧ ((¬ ∃ s, puI S l q s) → vr M (o + 5) q = none)
section
variable {S : ShT} {p : Nat → Prop} {l : List Nat} {s q : Nat}
theorem covL_s {k : Int32} : covL S (l ++ [s]) k q ↔ covL S l k q ∨ (kK (kM S s) = k ∧ fN (kM S s) ≤ q ∧ q < sN (kM S s)) := by
  constructor
  · rintro ⟨u, h1, h2⟩
    rcases List.mem_append.mp h1 with y | y
    · exact Or.inl ⟨u, y, h2⟩
    · rw [List.mem_singleton.mp y] at h2; exact Or.inr h2
  · rintro (⟨u, h1, h2⟩ | h)
    · exact ⟨u, List.mem_append_left _ h1, h2⟩
    · exact ⟨s, by simp, h⟩
theorem covL_n {k : Int32} (h : ¬ (kK (kM S s) = k ∧ fN (kM S s) ≤ q ∧ q < sN (kM S s))) : covL S (l ++ [s]) k q ↔ covL S l k q := by
  rw [covL_s]; exact ⟨fun z => z.resolve_right h, Or.inl⟩
theorem covL_U {k : Int32} (hl : ∀ s ∈ l, s < 64 ∧ p s) (h : covL S l k q) : covU S p 64 k q := by
  obtain ⟨s, h1, h2⟩ := h
  exact ⟨s, (hl s h1).1, (hl s h1).2, h2⟩
theorem tch_n (h : ∀ k : Int32, k = 1 ∨ k = 2 ∨ k = 3 → ¬ (kK (kM S s) = k ∧ fN (kM S s) ≤ q ∧ q < sN (kM S s))) : tch S (l ++ [s]) q = tch S l q := by
  unfold tch
  rw [propext (covL_n (l := l) (h 1 (by simp))), propext (covL_n (l := l) (h 2 (by simp))), propext (covL_n (l := l) (h 3 (by simp)))]
theorem tch_y (V : okS S) (hp : pOk S p) (hl : ∀ s ∈ l, s < 64 ∧ p s) (hs : s < 64 ∧ p s) (hk : kK (kM S s) = 1 ∨ kK (kM S s) = 2 ∨ kK (kM S s) = 3) (hq : fN (kM S s) ≤ q ∧ q < sN (kM S s)) : tch S (l ++ [s]) q = kK (kM S s) := by
  have hl' : ∀ u ∈ l ++ [s], u < 64 ∧ p u := fun u hu => by
    rcases List.mem_append.mp hu with y | y
    · exact hl u y
    · rw [List.mem_singleton.mp y]; exact hs
  have me : covL S (l ++ [s]) (kK (kM S s)) q := covL_s.mpr (Or.inr ⟨rfl, hq⟩)
  unfold tch
  rcases hk with k | k | k
  · rw [k] at me ⊢
    rw [cif_T me]
  · rw [k] at me ⊢
    rw [cif_F (fun z => no1 V hp (Or.inl rfl) (covL_U hl' z) (covL_U hl' me)), cif_T me]
  · rw [k] at me ⊢
    rw [cif_F (fun z => no1 V hp (Or.inr rfl) (covL_U hl' z) (covL_U hl' me)), cif_F (fun z => no23 V hp (covL_U hl' z) (covL_U hl' me)), cif_T me]
end
/-- the class's text: as much as there is room for -/
def txK (M : Mem) (o : Nat) (T : List Int32) : Prop := vi M o 1 = nI (T.take 400).length ∧ ∀ i, i < (T.take 400).length → vi M (o + 1) i = (T.take 400).getD i 0
theorem xor_s {c : Int32} (h : isS c) : c ^^^ 32 = c - 32 := by
  unfold isS at h
  obtain ⟨n, hn, e⟩ := asN (a := c) (N := 123) (by omega) (by omega)
  rw [e, nI_toIntN (by omega)] at h
  have key : ∀ n, n < 123 → 97 ≤ n → nI n ^^^ 32 = nI n - 32 := by decide +kernel
  rw [e]; exact key n hn (by omega)
theorem xor_u {c : Int32} (h : isU c) : c ^^^ 32 = c + 32 := by
  unfold isU at h
  obtain ⟨n, hn, e⟩ := asN (a := c) (N := 91) (by omega) (by omega)
  rw [e, nI_toIntN (by omega)] at h
  have key : ∀ n, n < 91 → 65 ≤ n → nI n ^^^ 32 = nI n + 32 := by decide +kernel
  rw [e]; exact key n hn (by omega)
section
variable {G : GT} {d : Nat} {M M' : Mem} {o a b : Nat} {w : Nat → Nat} {S : ShT} {L ss l : List Nat} {p dn : Nat → Prop}
theorem mrA.frv {F Ls : List Nat} (h : mrA w M a S ss) (g : Frv o F Ls M M') (Fm : frM M) (hw : ∀ b, w b = 2 → b ≠ o ∧ ∀ i ∈ Ls, b ≠ o + i) (ha : a ≠ o ∧ ∀ i ∈ Ls, a ≠ o + i) : mrA w M' a S ss := by
  obtain ⟨m1, m2, m3, m4⟩ := h
  have km : keepM w M M' := fun b hb _ => ⟨g.2.2.2.2.1 b (hw b hb).1 (hw b hb).2, by rw [g.2.2.1], by rw [g.2.2.2.1]⟩
  refine ⟨by rw [g.2.2.1]; exact m1, by rw [g.2.2.2.1]; exact m2, by rw [g.2.2.2.1]; exact m3, fun i hi => ?_⟩
  obtain ⟨is, r, er, hr⟩ := m4 i hi
  exact ⟨is, r, by rw [(g.2.2.2.2.1 a ha.1 ha.2).2.2]; exact er, hr.keep Fm km⟩
theorem k_hang {n : Nat} {Q : Mem → Prop} (O : ObAt 0 M o) (n2 : n ≤ 200) (hq : ∀ M', Frv o [] [2, 3, 4, 5] M M' → chR M' o (List.range (2 * n + 1)) → (∀ q, q < n → vi M' (o + 4) q = -1) → (∀ q, q ≤ n → vr M' (o + 5) q = none) → Q M') : CV G (d + 1) 2 [.ref o, .int (nI n)] M Q := by
  -- the third loop
  have l3 : ∀ (j i : Nat) (Mx : Mem), j + i = n → Frv o [] [2, 3, 4, 5] M Mx → chR Mx o (List.range (2 * n + 1)) → (∀ q, q < i → vi Mx (o + 4) q = -1) → (∀ q, q ≤ n → vr Mx (o + 5) q = none) → At G (d + 1) 2 80 [(0, .ref o), (1, .int (nI n)), (3, .int (nI i))] [] Mx (qV Q) := by
    intro j
    induction j with
    | zero =>
      intro i Mx e gx cx tx px
      have e : i = n := by omega
      subst e
      exact c_X0_hang_80 (gx.ob O) ⟨fun _ => hq Mx gx cx tx px, fun z => absurd (nI_le (Nat.le_refl _) (by omega)) z⟩
    | succ j ih =>
      intro i Mx e gx cx tx px
      refine c_X0_hang_80 (gx.ob O) ⟨fun z => absurd z (nI_ge (a := i) (b := n) (by omega) (by omega)), fun _ => ⟨fun z => absurd z (nI_ge (a := i) (b := 200) (by omega) (by decide)), fun _ => ⟨vp_in_nI (by omega) (by omega), fun M1 e1 => ?_⟩⟩⟩
      rw [nI_clamp (by omega)] at e1
      rw [nI_1]
      refine ih (i + 1) M1 (by omega) (gx.trans (by rw [e1]; exact Frv.si (by decide) (by decide))) (chn_cg cx (fun z _ => ⟨by rw [e1, vi_seti, if_neg (by omega)], by rw [e1, vi_seti, if_neg (by omega)]⟩)) (fun q hq2 => ?_) (fun q hq2 => by rw [e1, vr_seti]; exact px q hq2)
      rw [e1, vi_seti]
      by_cases y : q = i
      · rw [if_pos ⟨rfl, y⟩]
      · rw [if_neg (fun z => y z.2)]; exact tx q (by omega)
  have l2 : ∀ (j i : Nat) (Mx : Mem), j + i = n + 1 → Frv o [] [2, 3, 4, 5] M Mx → chR Mx o (List.range (2 * n + 1)) → (∀ q, q < i → vr Mx (o + 5) q = none) → At G (d + 1) 2 53 [(0, .ref o), (1, .int (nI n)), (3, .int (nI i))] [] Mx (qV Q) := by
    intro j
    induction j with
    | zero =>
      intro i Mx e gx cx px
      refine c_X0_hang_53 (gx.ob O) ?_
      rw [lt_I (by omega) (by omega)]
      exact ⟨fun _ => l3 n 0 Mx rfl gx cx (fun q hq2 => absurd hq2 (Nat.not_lt_zero q)) (fun q hq2 => px q (by omega)), fun z => absurd (by omega) z⟩
    | succ j ih =>
      intro i Mx e gx cx px
      refine c_X0_hang_53 (gx.ob O) ?_
      rw [lt_I (by omega) (by omega), show (200 : Int32) = nI 200 from rfl, lt_I (by omega) (by omega)]
      refine ⟨fun z => absurd z (by omega), fun _ => ⟨fun z => absurd z (by omega), fun _ => ⟨vp_in_nI (by omega) (by omega), fun M1 e1 => ?_⟩⟩⟩
      rw [nI_clamp (by omega)] at e1
      rw [nI_1]
      refine ih (i + 1) M1 (by omega) (gx.trans (by rw [e1]; exact Frv.sr (by decide) (by decide))) (chn_cg cx (fun z _ => ⟨by rw [e1]; rfl, by rw [e1]; rfl⟩)) (fun q hq2 => ?_)
      rw [e1, vr_setr]
      by_cases y : q = i
      · rw [if_pos ⟨rfl, y⟩]
      · rw [if_neg (fun z => y z.2)]; exact px q (by omega)
  have l1 : ∀ (j i : Nat) (Mx : Mem), j + i = 2 * n + 1 → Frv o [] [2, 3, 4, 5] M Mx → (∀ k, k < i → vi Mx (o + 2) k = (if k + 1 < 2 * n + 1 then nI (k + 1) else -1) ∧ vi Mx (o + 3) k = (if k = 0 then -1 else nI (k - 1))) → At G (d + 1) 2 6 [(0, .ref o), (1, .int (nI n)), (2, .int (nI (2 * n))), (3, .int (nI i))] [] Mx (qV Q) := by
    intro j
    induction j with
    | zero =>
      intro i Mx e gx hx
      refine c_X0_hang_6 (gx.ob O) ?_
      rw [lt_I (by omega) (by omega)]
      refine ⟨fun _ => l2 (n + 1) 0 Mx rfl gx ?_ (fun q hq2 => absurd hq2 (Nat.not_lt_zero q)), fun z => absurd (by omega) z⟩
      unfold chR
      rw [List.range_eq_range']
      refine chn_rng _ 0 _ _ (fun k _ hk => ?_) (fun k _ hk => ?_)
      · rw [Nat.zero_add] at hk ⊢; exact (hx k (by omega)).1
      · exact (hx k (by omega)).2
    | succ j ih =>
      intro i Mx e gx hx
      refine c_X0_hang_6 (gx.ob O) ?_
      rw [lt_I (by omega) (by omega), show (401 : Int32) = nI 401 from rfl, le_I (a := 401) (by omega) (by omega), le_I (a := 2 * n) (by omega) (by omega), nI_clamp (by omega), nI_1]
      have bfv : nI i - 1 = (if i = 0 then -1 else nI (i - 1)) := by
        by_cases y : i = 0
        · rw [if_pos y, y]; rfl
        · rw [if_neg y, show (1 : Int32) = nI 1 from rfl, pk_sub (by omega)]
      rw [bfv]
      have go : ∀ (M1 M2 : Mem) (v : Int32), M1 = seti Mx (o + 2) i v → M2 = seti M1 (o + 3) i (if i = 0 then -1 else nI (i - 1)) → v = (if i + 1 < 2 * n + 1 then nI (i + 1) else -1) → At G (d + 1) 2 6 [(0, .ref o), (1, .int (nI n)), (2, .int (nI (2 * n))), (3, .int (nI (i + 1)))] [] M2 (qV Q) := fun M1 M2 v e1 e2 ev => by
        refine ih (i + 1) M2 (by omega) (gx.trans (by rw [e2, e1]; exact (Frv.si (by decide) (by decide)).trans (Frv.si (by decide) (by decide)))) (fun k hk => ?_)
        rw [e2, vi_seti, if_neg (show ¬ (o + 2 = o + 3 ∧ k = i) by omega), e1, vi_seti, vi_seti, vi_seti, if_neg (show ¬ (o + 3 = o + 2 ∧ k = i) by omega)]
        by_cases y : k = i
        · rw [if_pos (show o + 2 = o + 2 ∧ k = i from ⟨rfl, y⟩), if_pos (show o + 3 = o + 3 ∧ k = i from ⟨rfl, y⟩), y]; exact ⟨ev, rfl⟩
        · rw [if_neg (show ¬ (o + 2 = o + 2 ∧ k = i) from fun z => y z.2), if_neg (show ¬ (o + 3 = o + 3 ∧ k = i) from fun z => y z.2)]; exact hx k (by omega)
      have v4 : vp_in (nI i) 401 := vp_in_nI (by omega) (by omega)
      refine ⟨fun z => absurd z (by omega), fun _ => ⟨fun z => absurd z (by omega), fun _ => ⟨fun z => ⟨v4, fun M1 e1 => ⟨v4, fun M2 e2 => go M1 M2 _ e1 e2 ?_⟩⟩, fun z => ⟨v4, fun M1 e1 => ⟨v4, fun M2 e2 => go M1 M2 _ e1 e2 ?_⟩⟩⟩⟩⟩
      · rw [if_neg (by omega)]
      · rw [if_pos (by omega)]
  refine c_X0_hang O ?_
  rw [show (2 : Int32) = nI 2 from rfl, pk_mul]
  exact l1 (2 * n + 1) 0 M rfl Frv.refl (fun k hk => absurd hk (Nat.not_lt_zero k))
theorem k_note {r s : Nat} {Q : Mem → Prop} (O : ObAt 0 M o) (V : okS S) (Fm : frM M) (hp : pOk S p) (hl : ∀ s ∈ l, s < 64 ∧ p s) (hs : s < 64 ∧ p s) (hr : cMk w M r (kM S s)) (hw : ∀ b, w b = 2 → b ≠ o ∧ ∀ i ∈ [4, 5], b ≠ o + i) (h : ntR w M o S l) (hq : ∀ M', Frv o [] [4, 5] M M' → ntR w M' o S (l ++ [s]) → Q M') : CV G (d + 1) 7 [.ref o, .ref r] M Q := by
  have g2 := V.g
  have is := hp.1 s hs.2
  have ok := V.m is
  have KM : ∀ {M' : Mem}, Frv o [] [4, 5] M M' → keepM w M M' := fun g b hb _ => ⟨g.2.2.2.2.1 b (hw b hb).1 (hw b hb).2, by rw [g.2.2.1], by rw [g.2.2.2.1]⟩
  -- no ins more
  have pn : kK (kM S s) ≠ 0 → ∀ {M' : Mem}, Frv o [] [4, 5] M M' → vr M' (o + 5) = vr M (o + 5) → ∀ q, q ≤ gN S → ((∃ u, puI S (l ++ [s]) q u) → ∃ r u, vr M' (o + 5) q = some r ∧ puI S (l ++ [s]) q u ∧ cMk w M' r (kM S u)) ∧ ((¬ ∃ u, puI S (l ++ [s]) q u) → vr M' (o + 5) q = none) := fun k0 M' g ev q hq2 => by
    have e : ∀ u, puI S (l ++ [s]) q u ↔ puI S l q u := fun u => by
      refine ⟨fun ⟨h1, h2⟩ => ⟨?_, h2⟩, fun ⟨h1, h2⟩ => ⟨List.mem_append_left _ h1, h2⟩⟩
      rcases List.mem_append.mp h1 with y | y
      · exact y
      · rw [List.mem_singleton.mp y] at h2; exact absurd h2.1 k0
    rw [ev]
    refine ⟨fun ⟨u, hu⟩ => ?_, fun n => (h.2 q hq2).2 (fun ⟨u, hu⟩ => n ⟨u, (e u).mpr hu⟩)⟩
    obtain ⟨r', u', h1, h2, h3⟩ := (h.2 q hq2).1 ⟨u, (e u).mp hu⟩
    exact ⟨r', u', h1, (e u').mpr h2, h3.keep Fm (KM g)⟩
  refine c_X0_note O hr.1.k ?_
  rw [hr.1.f0, hr.1.f1]
  refine ⟨fun k0 => ⟨fun k4 => ?_, fun k4 => ⟨fun k5 => ?_, fun k5 => ?_⟩⟩, fun k0 => ?_⟩
  · refine hq M Frv.refl ⟨fun q hq2 => ?_, pn k0 Frv.refl rfl⟩
    rw [tch_n (fun k hk z => by rw [k4] at z; rcases hk with y | y | y <;> rw [y] at z <;> exact absurd z.1 (by decide))]
    exact h.1 q hq2
  · obtain ⟨a1, a2, a3, a4⟩ := mk_ok g2 ok k0
    have hk : kK (kM S s) = 1 ∨ kK (kM S s) = 2 ∨ kK (kM S s) = 3 := by
      have := ok.1
      rw [fa_eq, show (0 : Int32).toInt = 0 from rfl] at k0
      rw [fa_eq, show (4 : Int32).toInt = 4 from rfl] at k4
      rw [fa_eq, show (5 : Int32).toInt = 5 from rfl] at k5
      rw [fa_eq, fa_eq, fa_eq, show (1 : Int32).toInt = 1 from rfl, show (2 : Int32).toInt = 2 from rfl, show (3 : Int32).toInt = 3 from rfl]
      omega
    rw [a1]
    have key : ∀ (j k : Nat) (Mx : Mem), j + k = sN (kM S s) → fN (kM S s) ≤ k → Frv o [] [4, 5] M Mx → vr Mx (o + 5) = vr M (o + 5) → (∀ q, q < gN S → vi Mx (o + 4) q = cif (q < k) (tch S (l ++ [s]) q) (tch S l q)) → At G (d + 1) 7 57 [(0, .ref o), (1, .ref r), (2, .int (nI k))] [] Mx (qV Q) := by
      intro j
      induction j with
      | zero =>
        intro k Mx e fk gx ev hx
        have hr' := hr.keep Fm (KM gx)
        refine c_X0_note_57 (gx.ob O) hr'.1.k ?_
        rw [hr'.1.f2, a2, le_I (by omega) (by omega)]
        refine ⟨fun z => absurd z (nlt0 _ (by omega)), fun _ => ⟨fun _ => hq Mx gx ⟨fun q hq2 => ?_, pn k0 gx ev⟩, fun z => absurd (by omega) z⟩⟩
        rw [hx q hq2]
        by_cases y : q < k
        · rw [cif_T y]
        · rw [cif_F y, tch_n (fun k' _ z => by omega)]
      | succ j ih =>
        intro k Mx e fk gx ev hx
        have hr' := hr.keep Fm (KM gx)
        refine c_X0_note_57 (gx.ob O) hr'.1.k ?_
        rw [hr'.1.f2, hr'.1.f0, a2, le_I (by omega) (by omega), nI_1]
        refine ⟨fun z => absurd z (nlt0 _ (by omega)), fun _ => ⟨fun z => absurd z (by omega), fun _ => ⟨fun z => absurd z (nI_ge (a := k) (b := 200) (by omega) (by decide)), fun _ => ⟨vp_in_nI (by omega) (by omega), fun M2 e2 => ?_⟩⟩⟩⟩
        rw [nI_clamp (by omega)] at e2
        refine ih (k + 1) M2 (by omega) (by omega) (gx.trans (by rw [e2]; exact Frv.si (by decide) (by decide))) (by rw [e2, vr_seti]; exact ev) (fun q hq2 => ?_)
        rw [e2, vi_seti]
        by_cases y : q = k
        · rw [if_pos ⟨rfl, y⟩, y, cif_T (show k < k + 1 by omega), tch_y V hp hl hs hk ⟨fk, by omega⟩]
        · rw [if_neg (fun z => y z.2), hx q hq2]
          by_cases u : q < k
          · rw [cif_T u, cif_T (show q < k + 1 by omega)]
          · rw [cif_F u, cif_F (show ¬ q < k + 1 by omega)]
    refine key (sN (kM S s) - fN (kM S s)) (fN (kM S s)) M (by omega) (Nat.le_refl _) Frv.refl rfl (fun q hq2 => ?_)
    by_cases y : q < fN (kM S s)
    · rw [cif_T y, tch_n (fun k' _ z => by omega)]; exact h.1 q hq2
    · rw [cif_F y]; exact h.1 q hq2
  · refine hq M Frv.refl ⟨fun q hq2 => ?_, pn k0 Frv.refl rfl⟩
    rw [tch_n (fun k hk z => by rw [k5] at z; rcases hk with y | y | y <;> rw [y] at z <;> exact absurd z.1 (by decide))]
    exact h.1 q hq2
  · have fb := ok.2.1
    obtain ⟨f, hf, ef⟩ := asN (a := kF (kM S s)) (N := 201) (by omega) (by omega)
    rw [ef, nI_toIntN (by omega)] at fb
    rw [ef, show (200 : Int32) = nI 200 from rfl, lt_I (by omega) (by omega), nI_clamp (by omega)]
    refine ⟨fun z => absurd z (nlt0 _ (by omega)), fun _ => ⟨fun z => absurd z (by omega), fun _ => ⟨vp_in_nI (by omega) (by omega), by rw [hr.1.k, ob0_k5 O]; rfl, fun M1 e1 => ?_⟩⟩⟩
    have g1 : Frv o [] [4, 5] M M1 := by rw [e1]; exact Frv.sr (by decide) (by decide)
    refine hq M1 g1 ⟨fun q hq2 => ?_, fun q hq2 => ?_⟩
    · rw [tch_n (fun k hk z => by rw [k0] at z; rcases hk with y | y | y <;> rw [y] at z <;> exact absurd z.1 (by decide)), e1, vi_setr]
      exact h.1 q hq2
    · rw [e1, vr_setr]
      by_cases y : q = f
      · rw [if_pos ⟨rfl, y⟩]
        refine ⟨fun _ => ⟨r, s, rfl, ⟨by simp, k0, by rw [y]; exact ef⟩, ?_⟩, fun n => absurd ⟨s, by simp, k0, by rw [y]; exact ef⟩ n⟩
        rw [← e1]; exact hr.keep Fm (KM g1)
      · rw [if_neg (fun z => y z.2)]
        have e : ∀ u, puI S (l ++ [s]) q u ↔ puI S l q u := fun u => by
          refine ⟨fun ⟨h1, h2⟩ => ⟨?_, h2⟩, fun ⟨h1, h2⟩ => ⟨List.mem_append_left _ h1, h2⟩⟩
          rcases List.mem_append.mp h1 with z | z
          · exact z
          · rw [List.mem_singleton.mp z, ef] at h2
            exact absurd ((eq_I (by omega) (by omega)).mp h2.2).symm y
        refine ⟨fun ⟨u, hu⟩ => ?_, fun n => (h.2 q hq2).2 (fun ⟨u, hu⟩ => n ⟨u, (e u).mpr hu⟩)⟩
        obtain ⟨r', u', h1, h2, h3⟩ := (h.2 q hq2).1 ⟨u, (e u).mp hu⟩
        refine ⟨r', u', h1, (e u').mpr h2, ?_⟩
        rw [← e1]; exact h3.keep Fm (KM g1)
theorem k_writeByte {c t : Int32} {T : List Int32} {Q : Mem → Prop} (O : ObAt 0 M o) (h : txK M o T) (hq : ∀ M', Frv o [1] [1] M M' → txK M' o (T ++ cif (t = 1) [] [cif ((t = 2 ∧ isS c) ∨ (t = 3 ∧ isU c)) (c ^^^ 32) c]) → Q M') : CV G (d + 2) 9 [.ref o, .int c, .int t] M Q := by
  have l4 : (T.take 400).length ≤ 400 := by rw [List.length_take]; omega
  refine c_X0_writeByte O ?_
  rw [h.1, show (400 : Int32) = nI 400 from rfl, lt_I (by omega) (by omega)]
  have stay : T.length ≥ 400 ∨ t = 1 → Q M := fun z => by
    refine hq M Frv.refl ?_
    rcases z with z | z
    · unfold txK at h ⊢
      rw [List.take_append_of_le_length z]; exact h
    · rw [cif_T z, List.append_nil]; exact h
  refine ⟨fun t1 => c_X0_writeByte_22 O (stay (Or.inr t1)), fun t1 => ⟨fun z => absurd z (nlt0 _ (by omega)), fun _ => ⟨fun lt => ?_, fun ge => c_X0_writeByte_22 O (stay (Or.inl (by rw [List.length_take] at ge; omega)))⟩⟩⟩
  have T4 : T.length < 400 := by rw [List.length_take] at lt; omega
  have eT : T.take 400 = T := List.take_of_length_le (by omega)
  rw [cif_F t1] at hq
  -- a byte is written
  have fin : ∀ z : Int32, z = cif ((t = 2 ∧ isS c) ∨ (t = 3 ∧ isU c)) (c ^^^ 32) c → At G (d + 2) 9 73 [(0, .ref o)] [.int z, .int (vi M o 1), .ref (o + 1)] M (qV Q) := fun z ez => by
    refine c_X0_writeByte_73 O ?_
    rw [h.1, eT, nI_clamp (by omega)]
    refine ⟨ob0_k0 O, by rw [ob0_l0 O]; exact vp_in_nI (by omega) (by omega), fun M5 e5 M6 e6 => ?_⟩
    have e15 : vi M5 o 1 = nI T.length := by rw [e5, vi_seti, if_neg (by omega), h.1, eT]
    rw [e15, nI_1] at e6
    refine hq M6 (by rw [e6, e5]; exact (Frv.si (by decide) (by decide)).trans (Frv.sf (by decide))) ?_
    rw [← ez]
    have eT1 : (T ++ [z]).take 400 = T ++ [z] := List.take_of_length_le (by rw [List.length_append]; show T.length + 1 ≤ 400; omega)
    unfold txK
    rw [eT1]
    refine ⟨?_, fun i hi => ?_⟩
    · rw [e6, vi_seti, if_pos ⟨rfl, rfl⟩, List.length_append]; rfl
    · rw [List.length_append] at hi
      have hi : i < T.length + 1 := hi
      rw [e6, vi_seti, if_neg (by omega), e5, vi_seti]
      by_cases y : i = T.length
      · rw [if_pos ⟨rfl, y⟩, y, gA_r]
      · rw [if_neg (fun u => y u.2), gA_l (by omega)]
        have := h.2 i (by rw [eT]; omega)
        rw [eT] at this
        exact this
  have yes : ((t = 2 ∧ isS c) ∨ (t = 3 ∧ isU c)) → At G (d + 2) 9 47 [(0, .ref o), (1, .int c)] [] M (qV Q) := fun y => c_X0_writeByte_47 O (c_X0_writeByte_52 O ⟨fun z => absurd z (by decide), fun _ => fin _ (by rw [cif_T y])⟩)
  have no : ¬ ((t = 2 ∧ isS c) ∨ (t = 3 ∧ isU c)) → At G (d + 2) 9 51 [(0, .ref o), (1, .int c)] [] M (qV Q) := fun y => c_X0_writeByte_51 O (c_X0_writeByte_52 O ⟨fun _ => fin _ (by rw [cif_F y]), fun z => absurd rfl z⟩)
  have at35 : ¬ (t = 2 ∧ isS c) → At G (d + 2) 9 35 [(0, .ref o), (1, .int c), (2, .int t)] [] M (qV Q) := fun n2 => c_X0_writeByte_35 O ⟨fun n3 => no (fun z => z.elim n2 (fun u => n3 u.1)), fun t3 => k_isCapital ⟨O, bz (fun y => yes (Or.inr ⟨t3, y⟩)) (fun y => no (fun z => z.elim n2 (fun u => y u.2)))⟩⟩
  exact ⟨fun n2 => at35 (fun z => n2 z.1), fun t2 => k_isSmall ⟨O, bnz (fun y => yes (Or.inl ⟨t2, y⟩)) (fun y => at35 (fun z => y z.2))⟩⟩
end
