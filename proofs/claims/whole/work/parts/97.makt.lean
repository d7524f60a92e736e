/-! THE TEXT: the reference; letters, what is put in, OUT -/
def bR (M : Mem) (c : Nat) (p : Nat → Prop) : Prop := ∀ s, s < 64 → vi M c s = bI (p s)
theorem bR.fr {M M' : Mem} {c : Nat} {p : Nat → Prop} (h : bR M c p) (e : vi M' c = vi M c) : bR M' c p := fun s hs => by rw [e]; exact h s hs
/-- the TEXT has room -/
theorem iTx_le {S : ShT} {p : Nat → Prop} (V : okS S) (hp : pOk S p) {q : Nat} : (iTx S p q).length ≤ 20 ∧ (iTx S p q ≠ [] → fst (isI S p q) 64 < 64) := by
  unfold iTx
  by_cases c : fst (isI S p q) 64 < 64
  · rw [cif_T c]; exact ⟨len20 V (hp.1 _ (fst_in 64 c).1), fun _ => c⟩
  · rw [cif_F c]; exact ⟨by decide, fun z => absurd rfl z⟩
noncomputable def hasI (S : ShT) (p : Nat → Prop) (k x : Nat) : Bool := decide (x % 2 = 0) && @decide (fst (isI S p (x / 2)) 64 < k) (Classical.propDecidable _)
theorem hasI_T {S : ShT} {p : Nat → Prop} {k x : Nat} : hasI S p k x = true ↔ x % 2 = 0 ∧ fst (isI S p (x / 2)) 64 < k := by
  unfold hasI
  rw [Bool.and_eq_true, decide_eq_true_iff, @decide_eq_true_iff _ (Classical.propDecidable _)]
theorem one_le {l : List Nat} (hN : l.Nodup) (h : ∀ x ∈ l, ∀ y ∈ l, x = y) : l.length ≤ 1 := by
  match l, hN, h with
  | [], _, _ => exact Nat.zero_le 1
  | [a], _, _ => exact Nat.le_refl 1
  | a :: b :: r, hN, h =>
    have := (List.nodup_cons.mp hN).1
    exact absurd (by rw [h a List.mem_cons_self b (List.mem_cons_of_mem _ List.mem_cons_self)]; exact List.mem_cons_self) this
theorem hasI_n {S : ShT} {p : Nat → Prop} {L : List Nat} (hN : L.Nodup) (lb : ∀ y ∈ L, y < 500) : ∀ k, k ≤ 64 → (L.filter (hasI S p k)).length ≤ k
  | 0, _ => by
    have : L.filter (hasI S p 0) = [] := List.filter_eq_nil_iff.mpr (fun x _ z => by have := (hasI_T.mp z).2; omega)
    rw [this]; exact Nat.le_refl 0
  | k + 1, hk => by
    have ih := hasI_n (S := S) (p := p) hN lb k (by omega)
    have e : ∀ l : List Nat, (l.filter (hasI S p (k + 1))).length = (l.filter (hasI S p k)).length + (l.filter (fun x => hasI S p (k + 1) x && !hasI S p k x)).length := fun l => by
      induction l with
      | nil => rfl
      | cons x l ih =>
        by_cases a : hasI S p k x = true
        · have b : hasI S p (k + 1) x = true := hasI_T.mpr ⟨(hasI_T.mp a).1, by have := (hasI_T.mp a).2; omega⟩
          rw [List.filter_cons_of_pos b, List.filter_cons_of_pos a, List.filter_cons_of_neg (by rw [a, b]; decide), List.length_cons, List.length_cons]
          omega
        · by_cases b : hasI S p (k + 1) x = true
          · rw [List.filter_cons_of_pos b, List.filter_cons_of_neg a, List.filter_cons_of_pos (by rw [b, Bool.eq_false_iff.mpr a]; rfl), List.length_cons, List.length_cons]
            omega
          · rw [List.filter_cons_of_neg b, List.filter_cons_of_neg a, List.filter_cons_of_neg (by rw [Bool.eq_false_iff.mpr b, Bool.false_and]; decide)]
            exact ih
    have one : (L.filter (fun x => hasI S p (k + 1) x && !hasI S p k x)).length ≤ 1 := by
      refine one_le (hN.filter _) (fun x hx y hy => ?_)
      have key : ∀ x, x ∈ L.filter (fun x => hasI S p (k + 1) x && !hasI S p k x) → x % 2 = 0 ∧ x < 500 ∧ fst (isI S p (x / 2)) 64 = k := fun x hx => by
        have h := List.mem_filter.mp hx
        have h2 := Bool.and_eq_true_iff.mp h.2
        have h3 := hasI_T.mp h2.1
        have h4 : ¬ hasI S p k x = true := by
          intro z; rw [z] at h2; exact absurd h2.2 (by decide)
        refine ⟨h3.1, lb x h.1, ?_⟩
        apply Classical.byContradiction
        intro z
        exact h4 (hasI_T.mpr ⟨h3.1, by omega⟩)
      have kx := key x hx
      have ky := key y hy
      have ix := (fst_in (p := isI S p (x / 2)) 64 (by omega)).2.2
      have iy := (fst_in (p := isI S p (y / 2)) 64 (by omega)).2.2
      rw [kx.2.2] at ix
      rw [ky.2.2, ix, eq_I (by omega) (by omega)] at iy
      omega
    rw [e L]; omega
theorem fm_le {S : ShT} {p : Nat → Prop} (V : okS S) (hp : pOk S p) : ∀ l : List Nat, (l.flatMap (outI S p)).length ≤ l.length + 20 * (l.filter (hasI S p 64)).length
  | [] => Nat.zero_le _
  | x :: l => by
    have ih := fm_le V hp l
    rw [List.flatMap_cons, List.length_append, List.length_cons]
    unfold outI
    by_cases c : x % 2 = 0
    · rw [if_pos c]
      have q := iTx_le V hp (q := x / 2)
      by_cases z : fst (isI S p (x / 2)) 64 < 64
      · rw [List.filter_cons_of_pos (hasI_T.mpr ⟨c, z⟩), List.length_cons]
        have := q.1
        unfold outI at ih
        omega
      · have e : iTx S p (x / 2) = [] := Classical.byContradiction (fun y => z (q.2 y))
        rw [List.filter_cons_of_neg (fun y => z (hasI_T.mp y).2), e]
        unfold outI at ih
        show 0 + _ ≤ _
        omega
    · rw [if_neg c, List.filter_cons_of_neg (fun y => c (hasI_T.mp y).1)]
      have : (cif (cov S p 1 (x / 2)) ([] : List Int32) [ltr S p (x / 2) (gB S (x / 2))]).length ≤ 1 := cif_el (φ := fun l : List Int32 => l.length ≤ 1) (fun _ => by decide) (fun _ => by show 1 ≤ 1; decide)
      unfold outI at ih
      omega
theorem fm_2000 {S : ShT} {p dn : Nat → Prop} {L : List Nat} (V : okS S) (hp : pOk S p) (h : mvI S p dn L) (k : Nat) : ((L.take k).flatMap (outI S p)).length ≤ 1700 := by
  have g := V.g
  have lb : ∀ y ∈ L, y < 500 := fun y hy => by have := (h.2.1 y).mp hy; omega
  have a := fm_le V hp L
  have b := hasI_n (S := S) (p := p) h.1 lb 64 (Nat.le_refl _)
  have c := h.len
  have d : L.flatMap (outI S p) = (L.take k).flatMap (outI S p) ++ (L.drop k).flatMap (outI S p) := by rw [← List.flatMap_append, List.take_append_drop]
  rw [d, List.length_append] at a
  omega
section
variable {G : GT} {d : Nat} {M M' : Mem} {m : Nat} {S : ShT} {L : List Nat} {p dn : Nat → Prop}
theorem s_widest {Q : Int32 → Mem → Prop} (R : RS M m S) (hp : pOk S p) (tk : bR M (m + 31) p) (dk : bR M (m + 26) dn) (hq : Q (hvI (wd S p dn 64)) M) : CI G (d + 2) 230 [.ref m] M Q := by
  refine r_widest R.1 ?_
  have key : ∀ (j i : Nat), j + i = 64 → At G (d + 2) 230 4 [(0, .ref m), (1, .int (hvI (wd S p dn i))), (2, .int (nI i))] [] M (qI Q) := by
    intro j
    induction j with
    | zero =>
      intro i e
      have e : i = 64 := by omega
      subst e
      exact r_widest_4 R.1 ⟨fun _ => hq, fun z => absurd (show (64 : Int32) ≤ nI 64 from nI_le (a := 64) (by omega) (by omega)) z⟩
    | succ j ih =>
      intro i e
      have ih := ih (i + 1) (by omega)
      have h0 : wd S p dn (i + 1) = (match wd S p dn i with | none => cif (isMv S p dn i) (some i) none | some b => cif (isMv S p dn i ∧ mSp (kM S b) < mSp (kM S i)) (some i) (some b)) := rfl
      have hs0 := wd_some (S := S) (p := p) (dn := dn) i
      have no : ¬ isMv S p dn i → At G (d + 2) 230 42 [(0, .ref m), (1, .int (hvI (wd S p dn i))), (2, .int (nI i))] [] M (qI Q) := fun n => by
        have e : wd S p dn (i + 1) = wd S p dn i := by
          rw [h0]
          cases wd S p dn i with
          | none => dsimp only; rw [cif_F n]
          | some b => dsimp only; rw [cif_F (fun z => n z.1)]
        rw [e] at ih
        refine r_widest_42 R.1 (r_widest_43 R.1 ⟨fun _ => r_widest_80 R.1 ?_, fun z => absurd rfl z⟩)
        rw [nI_1]; exact ih
      have v6 : vp_in (nI i) 64 := vp_in_nI (by omega) (by omega)
      refine r_widest_4 R.1 ⟨fun z => absurd z (nI_ge (a := i) (b := 64) (by omega) (by decide)), fun _ => ⟨v6, ?_⟩⟩
      rw [nI_clamp (by omega), tk i (by omega), dk i (by omega)]
      refine bz (fun pi => ⟨v6, ?_⟩) (fun pi => no (fun z => pi z.1))
      have is := hp.1 i pi
      rw [R.2.2.m7 is]
      refine ⟨fun n => no (fun z => n z.2.1), fun k4 => ⟨v6, bnz (fun di => no (fun z => z.2.2 di)) (fun di => ?_)⟩⟩
      have mi : isMv S p dn i := ⟨pi, k4, di⟩
      refine r_widest_43 R.1 ⟨fun z => absurd z (by decide), fun _ => ?_⟩
      cases hb : wd S p dn i with
      | none =>
        rw [h0, hb] at ih
        dsimp only at ih
        rw [cif_T mi] at ih
        refine ⟨fun _ => r_widest_78 R.1 (r_widest_80 R.1 ?_), fun z => absurd rfl z⟩
        rw [nI_1]; exact ih
      | some b =>
        have q := hs0 b hb
        have ib := hp.1 b q.2.1.1
        have b6 := isM_lt R.2.1 ib
        rw [h0, hb] at ih
        dsimp only at ih
        have eb : hvI (some b) = nI b := rfl
        rw [eb]
        refine ⟨fun z => absurd z (nI_neN1 (by omega)), fun _ => s_greatest R is ⟨R.1, s_least R is ⟨R.1, s_greatest R ib ⟨R.1, s_least R ib ⟨R.1, fun z => ?_, fun z => ?_⟩⟩⟩⟩⟩
        · rw [cif_F (fun y => absurd y.2 (le_nlt z))] at ih
          refine r_widest_80 R.1 ?_
          rw [nI_1]; exact ih
        · rw [cif_T ⟨mi, nle_lt z⟩] at ih
          refine r_widest_78 R.1 (r_widest_80 R.1 ?_)
          rw [nI_1]; exact ih
  exact key 64 0 rfl
theorem b0n : vp_nar .boolean (0 : Int32) = 0 := by decide
theorem b1n : vp_nar .boolean (1 : Int32) = 1 := by decide
theorem s_doesAlike {b : Nat} {Q : Mem → Prop} (R : RS M m S) (hp : pOk S p) (pb : p b) (tk : bR M (m + 31) p) (dk : bR M (m + 26) dn) (hq : ∀ M', Frl m [] [26] M M' → bR M' (m + 26) (dnN S p dn b) → Q M') : CV G (d + 2) 231 [.ref m, .int (nI b)] M Q := by
  refine r_doesAlike R.1 ?_
  have ib := hp.1 b pb
  have key : ∀ (j i : Nat) (Mx : Mem), j + i = 64 → Frl m [] [26] M Mx → (∀ o, o < 64 → vi Mx (m + 26) o = bI ((o < i ∧ dnN S p dn b o) ∨ (¬ o < i ∧ dn o))) → At G (d + 2) 231 2 [(0, .ref m), (1, .int (nI b)), (2, .int (nI i))] [] Mx (qV Q) := by
    intro j
    induction j with
    | zero =>
      intro i Mx e gx hx
      refine r_doesAlike_2 (gx.ra R.1) ⟨fun _ => hq Mx gx (fun o ho => ?_), fun z => absurd (show (64 : Int32) ≤ nI i from nI_le (a := 64) (by omega) (by omega)) z⟩
      rw [hx o ho]
      exact bI_c ⟨fun z => z.elim (fun y => y.2) (fun y => absurd (by omega) y.1), fun z => Or.inl ⟨by omega, z⟩⟩
    | succ j ih =>
      intro i Mx e gx hx
      have Rx := R.fr gx (fun o ho => by simp; omega)
      have v6 : vp_in (nI i) 64 := vp_in_nI (by omega) (by omega)
      have di : vi Mx (m + 26) i = bI (dn i) := by
        rw [hx i (by omega)]
        exact bI_c ⟨fun z => z.elim (fun y => absurd y.1 (by omega)) (fun y => y.2), fun z => Or.inr ⟨by omega, z⟩⟩
      have ti : vi Mx (m + 31) i = bI (p i) := by rw [gx.i (by decide) (by decide)]; exact tk i (by omega)
      have go : ∀ (M1 : Mem) (z : Int32), M1 = seti Mx (m + 26) i z → z = bI (dnN S p dn b i) → At G (d + 2) 231 2 [(0, .ref m), (1, .int (nI b)), (2, .int (nI (i + 1)))] [] M1 (qV Q) := fun M1 z e1 ez => by
        refine ih (i + 1) M1 (by omega) (gx.trans (by rw [e1]; exact Frl.si (by decide))) (fun o ho => ?_)
        rw [e1, vi_seti]
        by_cases y : o = i
        · rw [if_pos ⟨rfl, y⟩, ez, y]
          exact bI_c ⟨fun z => Or.inl ⟨by omega, z⟩, fun z => z.elim (fun u => u.2) (fun u => absurd (by omega) u.1)⟩
        · rw [if_neg (fun u => y u.2), hx o ho]
          exact bI_c ⟨fun z => z.elim (fun u => Or.inl ⟨by omega, u.2⟩) (fun u => Or.inr ⟨by omega, u.2⟩), fun z => z.elim (fun u => Or.inl ⟨by omega, u.2⟩) (fun u => Or.inr ⟨by omega, u.2⟩)⟩
      refine r_doesAlike_2 Rx.1 ⟨fun z => absurd z (nI_ge (a := i) (b := 64) (by omega) (by decide)), fun _ => ⟨v6, ?_⟩⟩
      rw [nI_clamp (by omega), di, ti, nI_1, b0n, b1n]
      refine bnz (fun dy => ⟨v6, fun M1 e1 => go M1 _ e1 (bI_T (Or.inl dy)).symm⟩) (fun dy => ⟨v6, bz (fun pi => ?_) (fun pi => ⟨v6, fun M1 e1 => go M1 _ e1 (bI_F (fun z => z.elim dy (fun u => pi u.1))).symm⟩)⟩)
      exact s_areAlike Rx (hp.1 i pi) ib ⟨Rx.1, bz (fun al => ⟨v6, fun M1 e1 => go M1 _ e1 (bI_T (Or.inr ⟨pi, al⟩)).symm⟩) (fun al => ⟨v6, fun M1 e1 => go M1 _ e1 (bI_F (fun z => z.elim dy (fun u => al u.2))).symm⟩)⟩
  refine key 64 0 M rfl Frl.refl (fun o ho => ?_)
  rw [dk o ho]
  exact bI_c ⟨fun z => Or.inr ⟨by omega, z⟩, fun z => z.elim (fun y => absurd y.1 (by omega)) (fun y => y.2)⟩
end
