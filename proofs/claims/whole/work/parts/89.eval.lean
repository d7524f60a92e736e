/-! WEIGHT: what a row of codes answers; both readers of it -/
theorem cmp_ge (x y : Int64) : (0 ≤ lg_cmp x y) = (y ≤ x) := by
  have h := Iff.of_eq (cmp_lt x y)
  rw [fa_lt, show (0 : Int32).toInt = 0 from rfl] at h
  rw [fa_le, show (0 : Int32).toInt = 0 from rfl, fa_le64]
  exact propext ⟨fun z => by omega, fun z => by omega⟩
theorem cmp_le (x y : Int64) : (lg_cmp x y ≤ 0) = (x ≤ y) := by
  have h := Iff.of_eq (cmp_gt x y)
  rw [fa_lt, show (0 : Int32).toInt = 0 from rfl] at h
  rw [fa_le, show (0 : Int32).toInt = 0 from rfl, fa_le64]
  exact propext ⟨fun z => by omega, fun z => by omega⟩
theorem cmp_l (x y : Int64) : (lg_cmp x y < 0) = (x < y) := by rw [cmp_lt, fa_lt64]
theorem cmp_g (x y : Int64) : (0 < lg_cmp x y) = (y < x) := by rw [cmp_gt, fa_lt64]
theorem nlt64 {x y : Int64} : (¬ x < y) = (y ≤ x) := by
  rw [fa_lt64, fa_le64]; exact propext ⟨fun z => by omega, fun z => by omega⟩
theorem nle64 {x y : Int64} : (¬ x ≤ y) = (y < x) := by
  rw [fa_lt64, fa_le64]; exact propext ⟨fun z => by omega, fun z => by omega⟩
/-- a FACT is 1 or 0 -/
def b64 (v : Int64) : Prop := v = 0 ∨ v = 1
def tyS : List Bool → List Int64 → Prop
  | [], [] => True
  | b :: bs, v :: vs => (b = true → b64 v) ∧ tyS bs vs
  | _, _ => False
theorem tyS_len : ∀ {ts : List Bool} {st : List Int64}, tyS ts st → st.length = ts.length
  | [], [], _ => rfl
  | b :: bs, v :: vs, h => by rw [List.length_cons, List.length_cons, tyS_len h.2]
  | [], _ :: _, h => h.elim
  | _ :: _, [], h => h.elim
theorem jn_b {c : Nat} {a b : Int64} (h : 200004 ≤ c ∧ c ≤ 200008) : b64 (jn c a b) := by
  have ib : ∀ (P : Prop) [Decidable P], b64 (if P then (1 : Int64) else 0) := fun P _ => by
    by_cases z : P
    · rw [if_pos z]; exact Or.inr rfl
    · rw [if_neg z]; exact Or.inl rfl
  unfold jn
  rw [if_neg (by omega), if_neg (by omega), if_neg (by omega), if_neg (by omega)]
  by_cases c4 : c = 200004
  · rw [if_pos c4]; exact ib _
  rw [if_neg c4]
  by_cases c5 : c = 200005
  · rw [if_pos c5]; exact ib _
  rw [if_neg c5]
  by_cases c6 : c = 200006
  · rw [if_pos c6]; exact ib _
  rw [if_neg c6]
  by_cases c7 : c = 200007
  · rw [if_pos c7]; exact ib _
  rw [if_neg c7, if_pos (by omega)]; exact ib _
theorem jn_a {c : Nat} {a b : Int64} (h : c = 200009 ∨ c = 200010) (ha : b64 a) (hb : b64 b) : b64 (jn c a b) := by
  have e1 : jn 200009 a b = a &&& b := rfl
  have e2 : jn 200010 a b = a ||| b := rfl
  rcases h with h | h <;> rw [h]
  · rw [e1]
    rcases ha with ha | ha <;> rcases hb with hb | hb <;> rw [ha, hb]
    · exact Or.inl (by decide)
    · exact Or.inl (by decide)
    · exact Or.inl (by decide)
    · exact Or.inr (by decide)
  · rw [e2]
    rcases ha with ha | ha <;> rcases hb with hb | hb <;> rw [ha, hb]
    · exact Or.inl (by decide)
    · exact Or.inr (by decide)
    · exact Or.inr (by decide)
    · exact Or.inr (by decide)
/-- a code over a stack: what kinds there are -/
def cdT (c : Nat) (ts ts' : List Bool) : Prop := (c < 100007 ∧ ts' = false :: ts) ∨ (∃ (r : List Bool) (u o : Bool), 200000 ≤ c ∧ c ≤ 200010 ∧ ts = u :: u :: r ∧ ts' = o :: r) ∨ (∃ r : List Bool, c = 200011 ∧ ts = true :: r ∧ ts' = true :: r)
theorem tc1_T {c : Nat} {ts ts' : List Bool} (h : tc1 c ts = some ts') : cdT c ts ts' := by
  unfold tc1 at h
  by_cases c1 : c < 100007
  · rw [if_pos c1] at h; cases h; exact Or.inl ⟨c1, rfl⟩
  rw [if_neg c1] at h
  by_cases c2 : 200000 ≤ c ∧ c ≤ 200003
  · rw [if_pos c2] at h
    split at h
    · cases h; exact Or.inr (Or.inl ⟨_, false, false, by omega, by omega, rfl, rfl⟩)
    · cases h
  rw [if_neg c2] at h
  by_cases c3 : 200004 ≤ c ∧ c ≤ 200008
  · rw [if_pos c3] at h
    split at h
    · cases h; exact Or.inr (Or.inl ⟨_, false, true, by omega, by omega, rfl, rfl⟩)
    · cases h
  rw [if_neg c3] at h
  by_cases c4 : c = 200009 ∨ c = 200010
  · rw [if_pos c4] at h
    split at h
    · cases h; exact Or.inr (Or.inl ⟨_, true, true, by omega, by omega, rfl, rfl⟩)
    · cases h
  rw [if_neg c4] at h
  by_cases c5 : c = 200011
  · rw [if_pos c5] at h
    split at h
    · cases h; exact Or.inr (Or.inr ⟨_, c5, rfl, rfl⟩)
    · cases h
  · rw [if_neg c5] at h; cases h
theorem ev1_ty {ws : Nat → Int64} {c : Nat} {ts ts' : List Bool} {st : List Int64} (h : tc1 c ts = some ts') (hs : tyS ts st) : tyS ts' (ev1 ws c st) := by
  unfold tc1 at h
  by_cases c1 : c < 100007
  · rw [if_pos c1] at h; cases h
    unfold ev1
    by_cases c0 : c < 100000
    · rw [if_pos c0]; exact ⟨fun z => (by cases z), hs⟩
    · rw [if_neg c0, if_pos (by omega)]; exact ⟨fun z => (by cases z), hs⟩
  rw [if_neg c1] at h
  have two : ∀ (u o : Bool) (r : List Bool), c ≠ 200011 → ¬ c < 200000 → ts = u :: u :: r → (∀ a b, (u = true → b64 a ∧ b64 b) → (o = true → b64 (jn c a b))) → tyS (o :: r) (ev1 ws c st) := fun u o r n1 n2 e hj => by
    subst e
    match st, hs with
    | b :: a :: st', hs =>
      unfold ev1
      rw [if_neg (by omega), if_neg n2, if_neg n1]
      exact ⟨fun z => hj a b (fun y => ⟨hs.2.1 y, hs.1 y⟩) z, hs.2.2⟩
    | [b], hs => exact hs.2.elim
  by_cases c2 : 200000 ≤ c ∧ c ≤ 200003
  · rw [if_pos c2] at h
    split at h
    · cases h; exact two false false _ (by omega) (by omega) rfl (fun a b _ z => (by cases z))
    · cases h
  rw [if_neg c2] at h
  by_cases c3 : 200004 ≤ c ∧ c ≤ 200008
  · rw [if_pos c3] at h
    split at h
    · cases h; exact two false true _ (by omega) (by omega) rfl (fun a b _ _ => jn_b c3)
    · cases h
  rw [if_neg c3] at h
  by_cases c4 : c = 200009 ∨ c = 200010
  · rw [if_pos c4] at h
    split at h
    · cases h; exact two true true _ (by omega) (by omega) rfl (fun a b z _ => jn_a c4 (z rfl).1 (z rfl).2)
    · cases h
  rw [if_neg c4] at h
  by_cases c5 : c = 200011
  · rw [if_pos c5] at h
    split at h
    · cases h
      match st, hs with
      | a :: st', hs =>
        unfold ev1
        rw [if_neg (by omega), if_neg (by omega), if_pos c5]
        refine ⟨fun _ => ?_, hs.2⟩
        rcases hs.1 rfl with z | z <;> rw [z]
        · exact Or.inr (by decide)
        · exact Or.inl (by decide)
    · cases h
  · rw [if_neg c5] at h; cases h
theorem evL_ty {ws : Nat → Int64} : ∀ (l : List Nat) {ts ts' : List Bool} {st : List Int64}, tcL l ts = some ts' → tyS ts st → tyS ts' (evL ws l st)
  | [], ts, ts', st, h, hs => by
    have e : some ts = some ts' := h
    cases e; exact hs
  | c :: l, ts, ts', st, h, hs => by
    have e : (tc1 c ts).bind (tcL l) = some ts' := h
    cases hc : tc1 c ts with
    | none => rw [hc] at e; cases e
    | some t1 => rw [hc] at e; exact evL_ty l e (ev1_ty hc hs)
/-- a TEST answers 0 or 1 -/
theorem evV_b {ws : Nat → Int64} {l : List Nat} (h : tcL l [] = some [true]) : b64 (evV ws l) := by
  have z := evL_ty (ws := ws) l h (st := []) trivial
  unfold evV
  match evL ws l [], z with
  | [v], z => exact z.1 rfl
theorem cnV_c {c : Nat} {l : List Nat} : cnV (c :: l) = (if c < 100007 then 1 else 0) + cnV l := by
  unfold cnV
  by_cases h : c < 100007
  · rw [if_pos h, List.filter_cons_of_pos (by simpa using h), List.length_cons]; omega
  · rw [if_neg h, List.filter_cons_of_neg (by simpa using h)]; omega
theorem cnV_seg {l : List Nat} {a b : Nat} : cnV (seg l a b) ≤ cnV l := by
  unfold cnV seg
  exact List.Sublist.length_le (List.Sublist.filter _ ((List.take_sublist _ _).trans (List.drop_sublist _ _)))
theorem seg_nil {l : List Nat} {a b : Nat} (h : b ≤ a) : seg l a b = [] := by
  unfold seg; rw [show b - a = 0 by omega, List.take_zero]
theorem seg_cons {l : List Nat} {a b : Nat} (h : a < b) (hb : b ≤ l.length) : seg l a b = l.getD a 0 :: seg l (a + 1) b := by
  unfold seg
  rw [List.drop_eq_getElem_cons (by omega), show b - a = (b - (a + 1)) + 1 by omega, List.take_succ_cons, List.getD_eq_getElem?_getD, List.getElem?_eq_getElem (by omega)]
  rfl
/-- the stack in a row of longs -/
def stR (M : Mem) (b : Nat) (st : List Int64) : Prop := ∀ i, i < st.length → vl M b i = st.getD (st.length - 1 - i) 0
theorem stR.nil {M : Mem} {b : Nat} : stR M b [] := fun i hi => absurd hi (Nat.not_lt_zero i)
theorem stR.pop {M : Mem} {b : Nat} {v : Int64} {st : List Int64} (h : stR M b (v :: st)) : stR M b st := fun i hi => by
  rw [h i (by rw [List.length_cons]; omega), List.length_cons, show st.length + 1 - 1 - i = (st.length - 1 - i) + 1 by omega]; rfl
theorem stR.top {M : Mem} {b : Nat} {v : Int64} {st : List Int64} (h : stR M b (v :: st)) : vl M b st.length = v := by
  rw [h st.length (by rw [List.length_cons]; omega), List.length_cons, show st.length + 1 - 1 - st.length = 0 by omega]; rfl
theorem stR.push {M M' : Mem} {b : Nat} {v : Int64} {st : List Int64} (h : stR M b st) (e : M' = setl M b st.length v) : stR M' b (v :: st) := fun i hi => by
  rw [List.length_cons] at hi ⊢
  rw [e, vl_setl]
  by_cases y : i = st.length
  · rw [if_pos ⟨rfl, y⟩, show st.length + 1 - 1 - i = 0 by omega]; rfl
  · rw [if_neg (fun z => y z.2), show st.length + 1 - 1 - i = (st.length - 1 - i) + 1 by omega]; exact h i (by omega)
section
variable {G : GT} {d : Nat} {M M' : Mem} {m : Nat} {T : StT}
theorem s_truth {v : Int32} {Q : Int64 → Mem → Prop} (h : v = 0 ∨ v = 1) (hq : Q v.toInt64 M) : CJ G (d + 1) 200 [.int v] M Q := by
  refine r_truth ⟨fun z => ?_, fun z => ?_⟩
  · rw [z] at hq; exact hq
  · rcases h with y | y
    · exact absurd y z
    · rw [y] at hq; exact hq
theorem s_both {c : Nat} {a b : Int64} {Q : Int64 → Mem → Prop} (h : 200000 ≤ c ∧ c ≤ 200010) (hq : Q (jn c a b) M) : CJ G (d + 2) 201 [.int (nI (rSort c)), .long a, .long b] M Q := by
  refine r_both ?_
  obtain rfl | rfl | rfl | rfl | rfl | rfl | rfl | rfl | rfl | rfl | rfl : c = 200000 ∨ c = 200001 ∨ c = 200002 ∨ c = 200003 ∨ c = 200004 ∨ c = 200005 ∨ c = 200006 ∨ c = 200007 ∨ c = 200008 ∨ c = 200009 ∨ c = 200010 := by omega
  · rw [show (nI (rSort 200000)).toInt = 2 by decide +kernel]
    exact ⟨fun z => absurd z (by omega), fun _ => hq, fun z => absurd z (by decide), fun z => absurd z (by decide), fun z => absurd z (by decide), fun z => absurd z (by decide), fun z => absurd z (by decide), fun z => absurd z (by decide), fun z => absurd z (by decide), fun z => absurd z (by decide), fun z => absurd z (by decide), fun z => absurd z (by decide), fun z => absurd z (by decide), fun z => absurd z (by decide), trivial⟩
  · rw [show (nI (rSort 200001)).toInt = 3 by decide +kernel]
    exact ⟨fun z => absurd z (by omega), fun z => absurd z (by decide), fun _ => hq, fun z => absurd z (by decide), fun z => absurd z (by decide), fun z => absurd z (by decide), fun z => absurd z (by decide), fun z => absurd z (by decide), fun z => absurd z (by decide), fun z => absurd z (by decide), fun z => absurd z (by decide), fun z => absurd z (by decide), fun z => absurd z (by decide), fun z => absurd z (by decide), trivial⟩
  · rw [show (nI (rSort 200002)).toInt = 13 by decide +kernel]
    exact ⟨fun z => absurd z (by omega), fun z => absurd z (by decide), fun z => absurd z (by decide), fun z => absurd z (by decide), fun z => absurd z (by decide), fun z => absurd z (by decide), fun z => absurd z (by decide), fun z => absurd z (by decide), fun z => absurd z (by decide), fun z => absurd z (by decide), fun z => absurd z (by decide), fun z => absurd z (by decide), fun _ => hq, fun z => absurd z (by decide), trivial⟩
  · rw [show (nI (rSort 200003)).toInt = 14 by decide +kernel]
    exact ⟨fun z => absurd z (by omega), fun z => absurd z (by decide), fun z => absurd z (by decide), fun z => absurd z (by decide), fun z => absurd z (by decide), fun z => absurd z (by decide), fun z => absurd z (by decide), fun z => absurd z (by decide), fun z => absurd z (by decide), fun z => absurd z (by decide), fun z => absurd z (by decide), fun z => absurd z (by decide), fun z => absurd z (by decide), fun _ => ⟨fun z => ⟨by rw [cmp_eq] at z; exact z, (by
      rw [cmp_eq] at z
      have e : jn 200003 a b = a / b := by show (if b = 0 then (0 : Int64) else a / b) = a / b; rw [if_neg z]
      rw [e] at hq; exact hq)⟩, fun z => (by
      rw [cmp_eq] at z
      have e : jn 200003 a b = 0 := by show (if b = 0 then (0 : Int64) else a / b) = 0; rw [if_pos z]
      rw [e] at hq; exact hq)⟩, trivial⟩
  · rw [show (nI (rSort 200004)).toInt = 4 by decide +kernel]
    exact ⟨fun z => absurd z (by omega), fun z => absurd z (by decide), fun z => absurd z (by decide), fun _ => ⟨fun z => r_truth ⟨fun _ => (by
      rw [cmp_ge] at z
      have e : jn 200004 a b = 0 := by show (if a < b then (1 : Int64) else 0) = 0; rw [if_neg (by rw [nlt64]; exact z)]
      rw [e] at hq; exact hq), fun y => absurd rfl y⟩, fun z => r_truth ⟨fun y => absurd y (by decide), fun _ => (by
      rw [cmp_ge, nle64] at z
      have e : jn 200004 a b = 1 := by show (if a < b then (1 : Int64) else 0) = 1; rw [if_pos z]
      rw [e] at hq; exact hq)⟩⟩, fun z => absurd z (by decide), fun z => absurd z (by decide), fun z => absurd z (by decide), fun z => absurd z (by decide), fun z => absurd z (by decide), fun z => absurd z (by decide), fun z => absurd z (by decide), fun z => absurd z (by decide), fun z => absurd z (by decide), fun z => absurd z (by decide), trivial⟩
  · rw [show (nI (rSort 200005)).toInt = 5 by decide +kernel]
    exact ⟨fun z => absurd z (by omega), fun z => absurd z (by decide), fun z => absurd z (by decide), fun z => absurd z (by decide), fun _ => ⟨fun z => r_truth ⟨fun _ => (by
      rw [cmp_g] at z
      have e : jn 200005 a b = 0 := by show (if a ≤ b then (1 : Int64) else 0) = 0; rw [if_neg (by rw [nle64]; exact z)]
      rw [e] at hq; exact hq), fun y => absurd rfl y⟩, fun z => r_truth ⟨fun y => absurd y (by decide), fun _ => (by
      rw [cmp_g, nlt64] at z
      have e : jn 200005 a b = 1 := by show (if a ≤ b then (1 : Int64) else 0) = 1; rw [if_pos z]
      rw [e] at hq; exact hq)⟩⟩, fun z => absurd z (by decide), fun z => absurd z (by decide), fun z => absurd z (by decide), fun z => absurd z (by decide), fun z => absurd z (by decide), fun z => absurd z (by decide), fun z => absurd z (by decide), fun z => absurd z (by decide), fun z => absurd z (by decide), trivial⟩
  · rw [show (nI (rSort 200006)).toInt = 6 by decide +kernel]
    exact ⟨fun z => absurd z (by omega), fun z => absurd z (by decide), fun z => absurd z (by decide), fun z => absurd z (by decide), fun z => absurd z (by decide), fun _ => ⟨fun z => r_truth ⟨fun _ => (by
      rw [cmp_eq] at z
      have e : jn 200006 a b = 0 := by show (if a = b then (1 : Int64) else 0) = 0; rw [if_neg z]
      rw [e] at hq; exact hq), fun y => absurd rfl y⟩, fun z => r_truth ⟨fun y => absurd y (by decide), fun _ => (by
      rw [cmp_eq] at z
      have e : jn 200006 a b = 1 := by show (if a = b then (1 : Int64) else 0) = 1; rw [if_pos z]
      rw [e] at hq; exact hq)⟩⟩, fun z => absurd z (by decide), fun z => absurd z (by decide), fun z => absurd z (by decide), fun z => absurd z (by decide), fun z => absurd z (by decide), fun z => absurd z (by decide), fun z => absurd z (by decide), fun z => absurd z (by decide), trivial⟩
  · rw [show (nI (rSort 200007)).toInt = 7 by decide +kernel]
    exact ⟨fun z => absurd z (by omega), fun z => absurd z (by decide), fun z => absurd z (by decide), fun z => absurd z (by decide), fun z => absurd z (by decide), fun z => absurd z (by decide), fun _ => ⟨fun z => r_truth ⟨fun _ => (by
      rw [cmp_l] at z
      have e : jn 200007 a b = 0 := by show (if b ≤ a then (1 : Int64) else 0) = 0; rw [if_neg (by rw [nle64]; exact z)]
      rw [e] at hq; exact hq), fun y => absurd rfl y⟩, fun z => r_truth ⟨fun y => absurd y (by decide), fun _ => (by
      rw [cmp_l, nlt64] at z
      have e : jn 200007 a b = 1 := by show (if b ≤ a then (1 : Int64) else 0) = 1; rw [if_pos z]
      rw [e] at hq; exact hq)⟩⟩, fun z => absurd z (by decide), fun z => absurd z (by decide), fun z => absurd z (by decide), fun z => absurd z (by decide), fun z => absurd z (by decide), fun z => absurd z (by decide), fun z => absurd z (by decide), trivial⟩
  · rw [show (nI (rSort 200008)).toInt = 8 by decide +kernel]
    exact ⟨fun z => absurd z (by omega), fun z => absurd z (by decide), fun z => absurd z (by decide), fun z => absurd z (by decide), fun z => absurd z (by decide), fun z => absurd z (by decide), fun z => absurd z (by decide), fun _ => ⟨fun z => r_truth ⟨fun _ => (by
      rw [cmp_le] at z
      have e : jn 200008 a b = 0 := by show (if b < a then (1 : Int64) else 0) = 0; rw [if_neg (by rw [nlt64]; exact z)]
      rw [e] at hq; exact hq), fun y => absurd rfl y⟩, fun z => r_truth ⟨fun y => absurd y (by decide), fun _ => (by
      rw [cmp_le, nle64] at z
      have e : jn 200008 a b = 1 := by show (if b < a then (1 : Int64) else 0) = 1; rw [if_pos z]
      rw [e] at hq; exact hq)⟩⟩, fun z => absurd z (by decide), fun z => absurd z (by decide), fun z => absurd z (by decide), fun z => absurd z (by decide), fun z => absurd z (by decide), fun z => absurd z (by decide), trivial⟩
  · rw [show (nI (rSort 200009)).toInt = 10 by decide +kernel]
    exact ⟨fun z => absurd z (by omega), fun z => absurd z (by decide), fun z => absurd z (by decide), fun z => absurd z (by decide), fun z => absurd z (by decide), fun z => absurd z (by decide), fun z => absurd z (by decide), fun z => absurd z (by decide), fun z => absurd z (by decide), fun _ => hq, fun z => absurd z (by decide), fun z => absurd z (by decide), fun z => absurd z (by decide), fun z => absurd z (by decide), trivial⟩
  · rw [show (nI (rSort 200010)).toInt = 11 by decide +kernel]
    exact ⟨fun z => absurd z (by omega), fun z => absurd z (by decide), fun z => absurd z (by decide), fun z => absurd z (by decide), fun z => absurd z (by decide), fun z => absurd z (by decide), fun z => absurd z (by decide), fun z => absurd z (by decide), fun z => absurd z (by decide), fun z => absurd z (by decide), fun _ => hq, fun z => absurd z (by decide), fun z => absurd z (by decide), fun z => absurd z (by decide), trivial⟩
theorem k_join {c : Nat} {a b : Int64} {Q : Int64 → Mem → Prop} (h : 200000 ≤ c ∧ c ≤ 200010) (hq : Q (jn c a b) M) : CJ G (d + 1) 29 [.int (nI c), .long a, .long b] M Q := by
  refine c_X2_join ?_
  obtain rfl | rfl | rfl | rfl | rfl | rfl | rfl | rfl | rfl | rfl | rfl : c = 200000 ∨ c = 200001 ∨ c = 200002 ∨ c = 200003 ∨ c = 200004 ∨ c = 200005 ∨ c = 200006 ∨ c = 200007 ∨ c = 200008 ∨ c = 200009 ∨ c = 200010 := by omega
  · rw [show (nI 200000).toInt = 200000 by decide +kernel]
    exact ⟨fun z => absurd z (by omega), fun _ => hq, fun z => absurd z (by decide), fun z => absurd z (by decide), fun z => absurd z (by decide), fun z => absurd z (by decide), fun z => absurd z (by decide), fun z => absurd z (by decide), fun z => absurd z (by decide), fun z => absurd z (by decide), fun z => absurd z (by decide), trivial⟩
  · rw [show (nI 200001).toInt = 200001 by decide +kernel]
    exact ⟨fun z => absurd z (by omega), fun z => absurd z (by decide), fun _ => hq, fun z => absurd z (by decide), fun z => absurd z (by decide), fun z => absurd z (by decide), fun z => absurd z (by decide), fun z => absurd z (by decide), fun z => absurd z (by decide), fun z => absurd z (by decide), fun z => absurd z (by decide), trivial⟩
  · rw [show (nI 200002).toInt = 200002 by decide +kernel]
    exact ⟨fun z => absurd z (by omega), fun z => absurd z (by decide), fun z => absurd z (by decide), fun _ => hq, fun z => absurd z (by decide), fun z => absurd z (by decide), fun z => absurd z (by decide), fun z => absurd z (by decide), fun z => absurd z (by decide), fun z => absurd z (by decide), fun z => absurd z (by decide), trivial⟩
  · rw [show (nI 200003).toInt = 200003 by decide +kernel]
    exact ⟨fun z => absurd z (by omega), fun z => absurd z (by decide), fun z => absurd z (by decide), fun z => absurd z (by decide), fun _ => ⟨fun z => ⟨by rw [cmp_eq] at z; exact z, (by
      rw [cmp_eq] at z
      have e : jn 200003 a b = a / b := by show (if b = 0 then (0 : Int64) else a / b) = a / b; rw [if_neg z]
      rw [e] at hq; exact hq)⟩, fun z => (by
      rw [cmp_eq] at z
      have e : jn 200003 a b = 0 := by show (if b = 0 then (0 : Int64) else a / b) = 0; rw [if_pos z]
      rw [e] at hq; exact hq)⟩, fun z => absurd z (by decide), fun z => absurd z (by decide), fun z => absurd z (by decide), fun z => absurd z (by decide), fun z => absurd z (by decide), fun z => absurd z (by decide), trivial⟩
  · rw [show (nI 200004).toInt = 200004 by decide +kernel]
    exact ⟨fun z => absurd z (by omega), fun z => absurd z (by decide), fun z => absurd z (by decide), fun z => absurd z (by decide), fun z => absurd z (by decide), fun _ => ⟨fun z => (by
      rw [cmp_ge] at z
      have e : jn 200004 a b = 0 := by show (if a < b then (1 : Int64) else 0) = 0; rw [if_neg (by rw [nlt64]; exact z)]
      rw [e] at hq; exact hq), fun z => (by
      rw [cmp_ge, nle64] at z
      have e : jn 200004 a b = 1 := by show (if a < b then (1 : Int64) else 0) = 1; rw [if_pos z]
      rw [e] at hq; exact hq)⟩, fun z => absurd z (by decide), fun z => absurd z (by decide), fun z => absurd z (by decide), fun z => absurd z (by decide), fun z => absurd z (by decide), trivial⟩
  · rw [show (nI 200005).toInt = 200005 by decide +kernel]
    exact ⟨fun z => absurd z (by omega), fun z => absurd z (by decide), fun z => absurd z (by decide), fun z => absurd z (by decide), fun z => absurd z (by decide), fun z => absurd z (by decide), fun _ => ⟨fun z => (by
      rw [cmp_g] at z
      have e : jn 200005 a b = 0 := by show (if a ≤ b then (1 : Int64) else 0) = 0; rw [if_neg (by rw [nle64]; exact z)]
      rw [e] at hq; exact hq), fun z => (by
      rw [cmp_g, nlt64] at z
      have e : jn 200005 a b = 1 := by show (if a ≤ b then (1 : Int64) else 0) = 1; rw [if_pos z]
      rw [e] at hq; exact hq)⟩, fun z => absurd z (by decide), fun z => absurd z (by decide), fun z => absurd z (by decide), fun z => absurd z (by decide), trivial⟩
  · rw [show (nI 200006).toInt = 200006 by decide +kernel]
    exact ⟨fun z => absurd z (by omega), fun z => absurd z (by decide), fun z => absurd z (by decide), fun z => absurd z (by decide), fun z => absurd z (by decide), fun z => absurd z (by decide), fun z => absurd z (by decide), fun _ => ⟨fun z => (by
      rw [cmp_eq] at z
      have e : jn 200006 a b = 0 := by show (if a = b then (1 : Int64) else 0) = 0; rw [if_neg z]
      rw [e] at hq; exact hq), fun z => (by
      rw [cmp_eq] at z
      have e : jn 200006 a b = 1 := by show (if a = b then (1 : Int64) else 0) = 1; rw [if_pos z]
      rw [e] at hq; exact hq)⟩, fun z => absurd z (by decide), fun z => absurd z (by decide), fun z => absurd z (by decide), trivial⟩
  · rw [show (nI 200007).toInt = 200007 by decide +kernel]
    exact ⟨fun z => absurd z (by omega), fun z => absurd z (by decide), fun z => absurd z (by decide), fun z => absurd z (by decide), fun z => absurd z (by decide), fun z => absurd z (by decide), fun z => absurd z (by decide), fun z => absurd z (by decide), fun _ => ⟨fun z => (by
      rw [cmp_l] at z
      have e : jn 200007 a b = 0 := by show (if b ≤ a then (1 : Int64) else 0) = 0; rw [if_neg (by rw [nle64]; exact z)]
      rw [e] at hq; exact hq), fun z => (by
      rw [cmp_l, nlt64] at z
      have e : jn 200007 a b = 1 := by show (if b ≤ a then (1 : Int64) else 0) = 1; rw [if_pos z]
      rw [e] at hq; exact hq)⟩, fun z => absurd z (by decide), fun z => absurd z (by decide), trivial⟩
  · rw [show (nI 200008).toInt = 200008 by decide +kernel]
    exact ⟨fun z => absurd z (by omega), fun z => absurd z (by decide), fun z => absurd z (by decide), fun z => absurd z (by decide), fun z => absurd z (by decide), fun z => absurd z (by decide), fun z => absurd z (by decide), fun z => absurd z (by decide), fun z => absurd z (by decide), fun _ => ⟨fun z => (by
      rw [cmp_le] at z
      have e : jn 200008 a b = 0 := by show (if b < a then (1 : Int64) else 0) = 0; rw [if_neg (by rw [nlt64]; exact z)]
      rw [e] at hq; exact hq), fun z => (by
      rw [cmp_le, nle64] at z
      have e : jn 200008 a b = 1 := by show (if b < a then (1 : Int64) else 0) = 1; rw [if_pos z]
      rw [e] at hq; exact hq)⟩, fun z => absurd z (by decide), trivial⟩
  · rw [show (nI 200009).toInt = 200009 by decide +kernel]
    exact ⟨fun z => absurd z (by omega), fun z => absurd z (by decide), fun z => absurd z (by decide), fun z => absurd z (by decide), fun z => absurd z (by decide), fun z => absurd z (by decide), fun z => absurd z (by decide), fun z => absurd z (by decide), fun z => absurd z (by decide), fun z => absurd z (by decide), fun _ => hq, trivial⟩
  · rw [show (nI 200010).toInt = 200010 by decide +kernel]
    exact ⟨fun _ => hq, fun z => absurd z (by decide), fun z => absurd z (by decide), fun z => absurd z (by decide), fun z => absurd z (by decide), fun z => absurd z (by decide), fun z => absurd z (by decide), fun z => absurd z (by decide), fun z => absurd z (by decide), fun z => absurd z (by decide), fun z => absurd z (by decide), trivial⟩
theorem nI_m1 {n : Nat} : nI (n + 1) + (-1 : Int32) = nI n := by
  rw [← nI_1, Int32.add_assoc, show (1 : Int32) + (-1) = 0 by decide, Int32.add_zero]
theorem nI_m1' {n : Nat} : nI (n + 1) + -nI 1 = nI n := nI_m1
theorem rS_op {c : Nat} (h : 200000 ≤ c ∧ c ≤ 200010) : 2 ≤ rSort c ∧ rSort c ≠ 9 ∧ rSort c ≤ 14 := by
  obtain rfl | rfl | rfl | rfl | rfl | rfl | rfl | rfl | rfl | rfl | rfl : c = 200000 ∨ c = 200001 ∨ c = 200002 ∨ c = 200003 ∨ c = 200004 ∨ c = 200005 ∨ c = 200006 ∨ c = 200007 ∨ c = 200008 ∨ c = 200009 ∨ c = 200010 := by omega
  all_goals decide
theorem s_answer {l p q : Nat} {ws : Nat → Int64} {b : Bool} {Q : Int64 → Mem → Prop} (W : RX M m T) (hl : l < qN T) (ft : p ≤ q) (ul : q ≤ (qL T l).1.length) (hw : ∀ k, k < 7 → vl M (m + 21) k = ws k) (ty : tcL (seg (qL T l).1 p q) [] = some [b]) (hq : ∀ M', Frl m [] [22] M M' → Q (evV ws (seg (qL T l).1 p q)) M') :
    CJ G (d + 3) 202 [.ref m, .int (nI l), .int (nI p), .int (nI q)] M Q := by
  have q4 := W.q4
  have okl := W.2.1.2.2.2.2.1 l hl
  have L3 : (qL T l).1.length ≤ 300 := okl.1
  have c60 : cnV (qL T l).1 ≤ 60 := okl.2.2.1
  have rl := (W.2.2.2.2.2.1.2 l hl).1
  generalize (qL T l).1 = L at *
  have cs := cnV_seg (l := L) (a := p) (b := q)
  have key : ∀ (j k : Nat) (st : List Int64) (ts : List Bool) (Mx : Mem), j + k = q → Frl m [] [22] M Mx → stR Mx (m + 22) st → tyS ts st → tcL (seg L k q) ts = some [b] → st.length + cnV (seg L k q) ≤ 60 → evV ws (seg L p q) = (evL ws (seg L k q) st).headD 0 →
      At G (d + 3) 202 6 [(0, .ref m), (1, .int (nI l)), (3, .int (nI q)), (4, .int (nI st.length)), (5, .int (nI k))] [] Mx (qJ Q) := by
    intro j
    induction j with
    | zero =>
      intro k st ts Mx e gx sx ty' tc hc he
      refine r_answer_6 (gx.ra W.1) ⟨fun _ => ⟨vp_in_nI (n := 0) (by omega) (by omega), ?_⟩, fun z => absurd (by rw [le_I (by omega) (by omega)]; omega) z⟩
      rw [seg_nil (l := L) (a := k) (b := q) (by omega)] at tc he
      have e2 : ts = [b] := by
        have : some ts = some [b] := tc
        cases this; rfl
      subst e2
      match st, ty' with
      | [v], _ =>
        have t := sx.top
        have t : vl Mx (m + 22) 0 = v := t
        show Q (vl Mx (m + 22) 0) Mx
        rw [t]
        have he : evV ws (seg L p q) = v := he
        rw [← he]
        exact hq Mx gx
    | succ j ih =>
      intro k st ts Mx e gx sx ty' tc hc he
      rw [seg_cons (l := L) (a := k) (b := q) (by omega) ul] at tc hc he
      have rk := rl k (by omega)
      have f14 : vi Mx (m + 14) (300 * l + k) = nI (rSort (L.getD k 0)) := by rw [gx.i (by decide) (by decide)]; exact rk.1
      have f15 : vi Mx (m + 15) (300 * l + k) = nI (rNum (L.getD k 0)) := by rw [gx.i (by decide) (by decide)]; exact rk.2
      generalize L.getD k 0 = c at *
      have he : evV ws (seg L p q) = (evL ws (seg L (k + 1) q) (ev1 ws c st)).headD 0 := he
      rw [cnV_c] at hc
      obtain ⟨t1, ht1, htc⟩ : ∃ t1, tc1 c ts = some t1 ∧ tcL (seg L (k + 1) q) t1 = some [b] := by
        have e : (tc1 c ts).bind (tcL (seg L (k + 1) q)) = some [b] := tc
        cases hc : tc1 c ts with
        | none => rw [hc] at e; cases e
        | some t1 => rw [hc] at e; exact ⟨t1, rfl, e⟩
      have ty1 := ev1_ty (ws := ws) ht1 ty'
      have vi12 : vp_in (nI (300 * l + k)) 1200 := vp_in_nI (by omega) (by omega)
      have x21 : ∀ j, j < 7 → vl Mx (m + 21) j = ws j := fun j hj => by rw [gx.l (by decide) (by decide)]; exact hw j hj
      refine r_answer_6 (gx.ra W.1) ⟨fun z => absurd z (nI_ge (a := k) (b := q) (by omega) (by omega)), fun _ => ?_⟩
      rw [show (300 : Int32) = nI 300 from rfl, pk_mul, nI_add, nI_clamp (by omega), f14, f15]
      refine ⟨vi12, vi12, ?_⟩
      -- a step of the loop
      have go : ∀ (M1 : Mem) (st1 : List Int64) (r : List Int64) (v : Int64), ev1 ws c st = v :: r → stR Mx (m + 22) r → M1 = setl Mx (m + 22) r.length v → (r.length + 1) + cnV (seg L (k + 1) q) ≤ 60 → At G (d + 3) 202 6 [(0, .ref m), (1, .int (nI l)), (3, .int (nI q)), (4, .int (nI (r.length + 1))), (5, .int (nI (k + 1)))] [] M1 (qJ Q) := fun M1 st1 r v ev sr e1 hc1 => by
        have g1 : Frl m [] [22] M M1 := gx.trans (by rw [e1]; exact Frl.sl (by decide))
        rw [ev] at ty1 he
        exact ih (k + 1) (v :: r) t1 M1 (by omega) g1 (sr.push e1) ty1 htc hc1 he
      rw [il_0, show (1 : Int32) = nI 1 from rfl, show (9 : Int32) = nI 9 from rfl, nI_add]
      rcases tc1_T ht1 with ⟨h7, ets⟩ | ⟨r, u, o, h1, h2, ets, ets1⟩ | ⟨r, ec, ets, ets1⟩
      · have _n := h7
        rw [if_pos h7] at hc
        by_cases c0 : c < 100000
        · have eS : rSort c = 0 := by unfold rSort; rw [if_pos c0]
          have eN : rNum c = c := by unfold rNum; rw [if_pos c0]
          have ev : ev1 ws c st = (nI c).toInt64 :: st := by unfold ev1; rw [if_pos c0]
          rw [eS, eN]
          have f := fun (M2 : Mem) (e2 : M2 = setl Mx (m + 22) (nI st.length).toNatClampNeg (nI c).toInt64) => go M2 st st _ ev sx (by rw [e2, nI_clamp (by omega)]) (by omega)
          refine ⟨fun _ => ⟨fun z => absurd rfl z, fun _ => ⟨vp_in_nI (by omega) (by omega), fun M2 e2 => ?_⟩⟩, fun z => absurd rfl z⟩
          rw [nI_add]
          exact f M2 e2
        · have eS : rSort c = 1 := by unfold rSort; rw [if_neg c0, if_pos (by omega)]
          have eN : rNum c = c - 100000 := by unfold rNum; rw [if_neg c0, if_pos (by omega)]
          have ev : ev1 ws c st = ws (c - 100000) :: st := by unfold ev1; rw [if_neg c0, if_pos (by omega)]
          rw [eS, eN, nI_clamp (n := c - 100000) (by omega), x21 _ (by omega)]
          refine ⟨fun z => absurd z (by decide), fun _ => ⟨fun z => absurd rfl z, fun _ => ⟨fun _ => ⟨vp_in_nI (by omega) (by omega), vp_in_nI (by omega) (by omega), fun M2 e2 => ?_⟩, fun z => absurd z (by decide)⟩⟩⟩
          rw [nI_add]
          rw [nI_clamp (by omega)] at e2
          exact go M2 st st _ ev sx e2 (by omega)
      · have _n := h1
        have so := rS_op ⟨h1, h2⟩
        rw [if_neg (by omega)] at hc
        subst ets
        match st, ty' with
        | y :: x :: st', ty' =>
          have ev : ev1 ws c (y :: x :: st') = jn c x y :: st' := by unfold ev1; rw [if_neg (by omega), if_neg (by omega), if_neg (by omega)]
          have ex : vl Mx (m + 22) st'.length = x := sx.pop.top
          have ey : vl Mx (m + 22) (st'.length + 1) = y := sx.top
          have l1 : (y :: x :: st').length = st'.length + 1 + 1 := rfl
          rw [l1] at hc ⊢
          rw [nI_m1', pk_sub (by omega), show st'.length + 1 - 1 = st'.length by omega, nI_clamp (n := st'.length) (by omega), nI_clamp (n := st'.length + 1) (by omega), ex, ey]
          have v1 : vp_in (nI st'.length) 300 := vp_in_nI (by omega) (by omega)
          refine ⟨fun z => absurd ((eq_I (by omega) (by omega)).mp z) (by omega), fun _ => ⟨fun _ => ⟨fun _ => ⟨v1, vp_in_nI (by omega) (by omega), s_both ⟨h1, h2⟩ ⟨gx.ra W.1, v1, fun M5 e5 => ?_⟩⟩, fun z => absurd ((eq_I (by omega) (by omega)).mp z) so.2.1⟩, fun z => absurd ((eq_I (by omega) (by omega)).mp z) (by omega)⟩⟩
          rw [nI_add]
          exact go M5 st' st' _ ev sx.pop.pop e5 (by omega)
      · have _n := ec
        rw [if_neg (by omega)] at hc
        subst ets
        match st, ty' with
        | y :: st', ty' =>
          have ev : ev1 ws c (y :: st') = (1 - y) :: st' := by unfold ev1; rw [if_neg (by omega), if_neg (by omega), if_pos ec]
          have ey : vl Mx (m + 22) st'.length = y := sx.top
          have eS : rSort c = 9 := by rw [ec]; rfl
          have l1 : (y :: st').length = st'.length + 1 := rfl
          rw [l1] at hc ⊢
          rw [eS, pk_sub (by omega), show st'.length + 1 - 1 = st'.length by omega, nI_clamp (n := st'.length) (by omega), ey]
          have v1 : vp_in (nI st'.length) 300 := vp_in_nI (by omega) (by omega)
          refine ⟨fun z => absurd z (by decide), fun _ => ⟨fun _ => ⟨fun z => absurd rfl z, fun _ => ⟨v1, v1, fun M5 e5 => ?_⟩⟩, fun z => absurd z (by decide)⟩⟩
          rw [nI_add]
          exact go M5 st' st' _ ev sx.pop e5 (by omega)
  refine r_answer W.1 ?_
  exact key (q - p) p [] [] M (by omega) Frl.refl stR.nil trivial ty (by show 0 + _ ≤ 60; omega) rfl
theorem k_lawVal {a p q : Nat} {L : List Nat} {ws : Nat → Int64} {b : Bool} {Q : Int64 → Mem → Prop} (O : ObAt 2 M a) (L3 : L.length ≤ 300) (c60 : cnV L ≤ 60) (hL : ∀ k, k < L.length → vi M (a + 1) k = nI (L.getD k 0)) (ft : p ≤ q) (ul : q ≤ L.length) (hw : ∀ k, k < 7 → vl M (a + 4) k = ws k) (ty : tcL (seg L p q) [] = some [b]) (hq : ∀ M', Frl a [] [5] M M' → Q (evV ws (seg L p q)) M') :
    CJ G (d + 2) 27 [.ref a, .int (nI p), .int (nI q)] M Q := by
  have cs := cnV_seg (l := L) (a := p) (b := q)
  have key : ∀ (j k : Nat) (st : List Int64) (ts : List Bool) (Mx : Mem), j + k = q → Frl a [] [5] M Mx → stR Mx (a + 5) st → tyS ts st → tcL (seg L k q) ts = some [b] → st.length + cnV (seg L k q) ≤ 60 → evV ws (seg L p q) = (evL ws (seg L k q) st).headD 0 →
      At G (d + 2) 27 5 [(0, .ref a), (2, .int (nI q)), (3, .int (nI st.length)), (4, .int (nI k))] [] Mx (qJ Q) := by
    intro j
    induction j with
    | zero =>
      intro k st ts Mx e gx sx ty' tc hc he
      rw [seg_nil (l := L) (a := k) (b := q) (by omega)] at tc he
      have e2 : ts = [b] := by
        have : some ts = some [b] := tc
        cases this; rfl
      subst e2
      match st, ty' with
      | [v], _ =>
        have t := sx.top
        have t : vl Mx (a + 5) 0 = v := t
        have he : evV ws (seg L p q) = v := he
        refine c_X2_valueOf_5 (gx.ob O) ⟨fun z => absurd z (nlt0 _ (by omega)), fun _ => ⟨fun _ => ⟨fun _ => ⟨vp_in_nI (n := 0) (by omega) (by omega), ?_⟩, fun z => absurd (show (1 : Int32) ≤ 1 by decide) z⟩, fun z => absurd (by rw [le_I (by omega) (by omega)]; omega) z⟩⟩
        show Q (vl Mx (a + 5) 0) Mx
        rw [t, ← he]
        exact hq Mx gx
    | succ j ih =>
      intro k st ts Mx e gx sx ty' tc hc he
      rw [seg_cons (l := L) (a := k) (b := q) (by omega) ul] at tc hc he
      have f1 : vi Mx (a + 1) k = nI (L.getD k 0) := by rw [gx.i (by decide) (by decide)]; exact hL k (by omega)
      generalize L.getD k 0 = c at *
      have he : evV ws (seg L p q) = (evL ws (seg L (k + 1) q) (ev1 ws c st)).headD 0 := he
      rw [cnV_c] at hc
      obtain ⟨t1, ht1, htc⟩ : ∃ t1, tc1 c ts = some t1 ∧ tcL (seg L (k + 1) q) t1 = some [b] := by
        have e : (tc1 c ts).bind (tcL (seg L (k + 1) q)) = some [b] := tc
        cases hc : tc1 c ts with
        | none => rw [hc] at e; cases e
        | some t1 => rw [hc] at e; exact ⟨t1, rfl, e⟩
      have ty1 := ev1_ty (ws := ws) ht1 ty'
      have x4 : ∀ j, j < 7 → vl Mx (a + 4) j = ws j := fun j hj => by rw [gx.l (by decide) (by decide)]; exact hw j hj
      have cb : c ≤ 200011 := by rcases tc1_T ht1 with h | ⟨_, _, _, h1, h2, _⟩ | ⟨_, h, _⟩ <;> omega
      have O' := gx.ob O
      refine c_X2_valueOf_5 O' ⟨fun z => absurd z (nlt0 _ (by omega)), fun _ => ⟨fun z => absurd z (nI_ge (a := k) (b := q) (by omega) (by omega)), fun _ => ⟨fun z => absurd z (nI_ge (a := k) (b := 400) (by omega) (by decide)), fun _ => ⟨vp_in_nI (by omega) (by omega), ?_⟩⟩⟩⟩
      rw [nI_clamp (by omega), f1, show (200000 : Int32) = nI 200000 from rfl, show (200011 : Int32) = nI 200011 from rfl, show (100000 : Int32) = nI 100000 from rfl, show (2 : Int32) = nI 2 from rfl, show (1 : Int32) = nI 1 from rfl, show (64 : Int32) = nI 64 from rfl, nI_add,
        le_I (a := 200000) (b := c) (by omega) (by omega), le_I (a := 100000) (b := c) (by omega) (by omega), eq_I (a := c) (b := 200011) (by omega) (by omega)]
      -- a step of the loop
      have go : ∀ (M1 : Mem) (r : List Int64) (v : Int64), ev1 ws c st = v :: r → stR Mx (a + 5) r → M1 = setl Mx (a + 5) r.length v → (r.length + 1) + cnV (seg L (k + 1) q) ≤ 60 → At G (d + 2) 27 5 [(0, .ref a), (2, .int (nI q)), (3, .int (nI (r.length + 1))), (4, .int (nI (k + 1)))] [] M1 (qJ Q) := fun M1 r v ev sr e1 hc1 => by
        have g1 : Frl a [] [5] M M1 := gx.trans (by rw [e1]; exact Frl.sl (by decide))
        rw [ev] at ty1 he
        exact ih (k + 1) (v :: r) t1 M1 (by omega) g1 (sr.push e1) ty1 htc hc1 he
      rcases tc1_T ht1 with ⟨h7, ets⟩ | ⟨r, u, o, h1, h2, ets, ets1⟩ | ⟨r, ec, ets, ets1⟩
      · have _n := h7
        rw [if_pos h7] at hc
        rw [lt_I (by omega) (by omega), nI_add, nI_clamp (by omega)]
        refine ⟨fun z => absurd z (by omega), fun _ => ⟨fun _ => ⟨fun c1 => ?_, fun c0 => ⟨vp_in_nI (by omega) (by omega), fun M2 e2 => ?_⟩⟩, fun z => absurd (by omega) z⟩⟩
        · have ev : ev1 ws c st = ws (c - 100000) :: st := by unfold ev1; rw [if_neg (by omega), if_pos (by omega)]
          rw [pk_sub (by omega)]
          refine c_X2_wordValue O' ⟨fun z => absurd z (nlt0 _ (by omega)), fun _ => ⟨fun z => absurd z (nI_ge (a := c - 100000) (b := 7) (by omega) (by decide)), fun _ => ⟨vp_in_nI (by omega) (by omega), ?_⟩⟩⟩
          rw [nI_clamp (by omega), x4 _ (by omega)]
          exact ⟨O', vp_in_nI (by omega) (by omega), fun M2 e2 => go M2 st _ ev sx e2 (by omega)⟩
        · have ev : ev1 ws c st = (nI c).toInt64 :: st := by unfold ev1; rw [if_pos (by omega)]
          exact go M2 st _ ev sx e2 (by omega)
      · have _n := h1
        rw [if_neg (by omega)] at hc
        subst ets
        match st, ty' with
        | y :: x :: st', ty' =>
          have ev : ev1 ws c (y :: x :: st') = jn c x y :: st' := by unfold ev1; rw [if_neg (by omega), if_neg (by omega), if_neg (by omega)]
          have ex : vl Mx (a + 5) st'.length = x := sx.pop.top
          have ey : vl Mx (a + 5) (st'.length + 1) = y := sx.top
          have l1 : (y :: x :: st').length = st'.length + 1 + 1 := rfl
          rw [l1] at hc ⊢
          rw [nI_m1', pk_sub (by omega), show st'.length + 1 - 1 = st'.length by omega, nI_clamp (n := st'.length) (by omega), nI_clamp (n := st'.length + 1) (by omega), ex, ey]
          have v1 : vp_in (nI st'.length) 64 := vp_in_nI (by omega) (by omega)
          refine ⟨fun _ => ⟨fun _ => ⟨fun _ => ⟨v1, vp_in_nI (by omega) (by omega), k_join ⟨h1, h2⟩ ⟨O', v1, fun M5 e5 => ?_⟩⟩, fun z => absurd (by rw [le_I (by omega) (by omega)]; omega) z⟩, fun z => absurd z (by omega)⟩, fun z => absurd (by omega) z⟩
          exact go M5 st' _ ev sx.pop.pop e5 (by omega)
      · have _n := ec
        rw [if_neg (by omega)] at hc
        subst ets
        match st, ty' with
        | y :: st', ty' =>
          have ev : ev1 ws c (y :: st') = (1 - y) :: st' := by unfold ev1; rw [if_neg (by omega), if_neg (by omega), if_pos ec]
          have ey : vl Mx (a + 5) st'.length = y := sx.top
          have l1 : (y :: st').length = st'.length + 1 := rfl
          rw [l1] at hc ⊢
          rw [pk_sub (by omega), show st'.length + 1 - 1 = st'.length by omega, nI_clamp (n := st'.length) (by omega), ey]
          have v1 : vp_in (nI st'.length) 64 := vp_in_nI (by omega) (by omega)
          refine ⟨fun _ => ⟨fun z => absurd ec z, fun _ => ⟨fun _ => ⟨v1, v1, fun M5 e5 => ?_⟩, fun z => absurd (by rw [le_I (by omega) (by omega)]; omega) z⟩⟩, fun z => absurd (by omega) z⟩
          exact go M5 st' _ ev sx.pop e5 (by omega)
  refine c_X2_valueOf O ?_
  exact key (q - p) p [] [] M (by omega) Frl.refl stR.nil trivial ty (by show 0 + _ ≤ 60; omega) rfl
end
