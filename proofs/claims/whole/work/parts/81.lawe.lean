/-! READING LAWS: what is read is well formed -/
theorem tcL_app : ∀ (a b : List Nat) (st : List Bool), tcL (a ++ b) st = (tcL a st).bind (tcL b)
  | [], b, st => rfl
  | c :: a, b, st => by
    show (tc1 c st).bind (tcL (a ++ b)) = ((tc1 c st).bind (tcL a)).bind (tcL b)
    cases tc1 c st with
    | none => rfl
    | some st' => exact tcL_app a b st'
/-- values in a row -/
def cnV (e : List Nat) : Nat := (e.filter (fun c => decide (c < 100007))).length
theorem cnV_app (a b : List Nat) : cnV (a ++ b) = cnV a + cnV b := by unfold cnV; rw [List.filter_append, List.length_append]
theorem cnV_1 {c : Nat} : cnV [c] ≤ 1 := by
  unfold cnV
  exact List.length_filter_le _ _
theorem cnV_0 {c : Nat} (h : ¬ c < 100007) : cnV [c] = 0 := by
  unfold cnV
  rw [List.filter_cons_of_neg (by simpa using h)]; rfl
/-- codes behind cd, from a stack i to a stack o -/
def emt (cd : List Nat) (n : Nat) (i o : List Bool) (F : Nat × LxT) : Prop := F.1 = 0 → ∃ e, F.2.2.1 = cd ++ e ∧ (∀ st, tcL e (i ++ st) = some (o ++ st)) ∧ cnV e + n ≤ F.2.2.2
theorem emt.no {cd : List Nat} {n : Nat} {i o : List Bool} {F : Nat × LxT} (h : ¬ F.1 = 0) : emt cd n i o F := fun z => absurd z h
theorem emt.flt {cd cd' : List Nat} {n n' p q c : Nat} {i o : List Bool} : emt cd n i o (flt p c, q, cd', n') := emt.no (flt_ne p c)
theorem emt.id {cd : List Nat} {n p : Nat} {i : List Bool} : emt cd n i i (0, p, cd, n) := fun _ => ⟨[], (List.append_nil _).symm, fun st => rfl, by show 0 + n ≤ n; omega⟩
/-- one after the other; under the first one lies x -/
theorem emt.seq {cd : List Nat} {n : Nat} {x i o o2 : List Bool} {F H : Nat × LxT} (h : emt cd n i o F) (z : F.1 = 0) (h2 : emt F.2.2.1 F.2.2.2 (o ++ x) o2 H) : emt cd n (i ++ x) o2 H := fun y => by
  obtain ⟨e, e1, e2, e3⟩ := h z
  obtain ⟨g, g1, g2, g3⟩ := h2 y
  refine ⟨e ++ g, by rw [g1, e1, List.append_assoc], fun st => ?_, by rw [cnV_app]; omega⟩
  rw [tcL_app, List.append_assoc, e2 (x ++ st)]
  have := g2 st
  rw [List.append_assoc] at this
  exact this
/-- a sign behind -/
theorem emt.sig {cd : List Nat} {n c p : Nat} {i o o2 : List Bool} {F : Nat × LxT} (h : emt cd n i o F) (z : F.1 = 0) (hc : ¬ c < 100007) (h2 : ∀ st, tc1 c (o ++ st) = some (o2 ++ st)) : emt cd n i o2 (0, p, F.2.2.1 ++ [c], F.2.2.2) := fun _ => by
  obtain ⟨e, e1, e2, e3⟩ := h z
  refine ⟨e ++ [c], by show F.2.2.1 ++ [c] = _; rw [e1, List.append_assoc], fun st => ?_, by rw [cnV_app, cnV_0 hc]; exact e3⟩
  rw [tcL_app, e2 st]
  show (tc1 c (o ++ st)).bind (tcL []) = _
  rw [h2 st]; rfl
theorem pVal_emt {t : TpT} {p n : Nat} {cd : List Nat} : emt cd n [] [false] (pVal t p cd n) := by
  have put : ∀ c q, c < 100007 → emt cd n [] [false] (0, q, cd ++ [c], n + 1) := fun c q hc _ => ⟨[c], rfl, fun st => by
    show (tc1 c st).bind (tcL []) = _
    unfold tc1
    rw [if_pos hc]; rfl, by have := cnV_1 (c := c); show cnV [c] + n ≤ n + 1; omega⟩
  unfold pVal
  refine cif_el (φ := emt cd n [] [false]) (fun _ => ?_) (fun _ => ?_)
  · refine cif_el (φ := emt cd n [] [false]) (fun _ => emt.flt) (fun c => cif_el (φ := emt cd n [] [false]) (fun _ => emt.flt) (fun _ => put _ _ ?_))
    have vb := vlF_lt (t := t) (p := p) (n := dl t p) (run_in (P := fun i => isD (t.2 i)) _ p rfl)
    have h7 : 10 ^ dl t p ≤ 10 ^ 5 := Nat.pow_le_pow_right (by decide) (by omega)
    omega
  · refine cif_el (φ := emt cd n [] [false]) (fun _ => emt.flt) (fun c => cif_el (φ := emt cd n [] [false]) (fun _ => emt.flt) (fun _ => put _ _ ?_))
    have : lIx t p ≤ 7 := fst_lt 7
    omega
theorem tc_ar {c : Nat} (h : 200000 ≤ c ∧ c ≤ 200003) (st : List Bool) : tc1 c ([false, false] ++ st) = some ([false] ++ st) := by
  unfold tc1
  rw [if_neg (by omega), if_pos h]; rfl
theorem tc_cm {c : Nat} (h : 200004 ≤ c ∧ c ≤ 200008) (st : List Bool) : tc1 c ([false, false] ++ st) = some ([true] ++ st) := by
  unfold tc1
  rw [if_neg (by omega), if_neg (by omega), if_pos h]; rfl
theorem tc_ao {c : Nat} (h : c = 200009 ∨ c = 200010) (st : List Bool) : tc1 c ([true, true] ++ st) = some ([true] ++ st) := by
  unfold tc1
  rw [if_neg (by omega), if_neg (by omega), if_neg (by omega), if_pos h]; rfl
theorem tc_no (st : List Bool) : tc1 200011 ([true] ++ st) = some ([true] ++ st) := by
  unfold tc1
  rw [if_neg (by omega), if_neg (by omega), if_neg (by omega), if_neg (by omega), if_pos rfl]; rfl
theorem emt.und {cd : List Nat} {n : Nat} {i o x : List Bool} {F : Nat × LxT} (h : emt cd n i o F) : emt cd n (i ++ x) (o ++ x) F := fun z => by
  obtain ⟨e, e1, e2, e3⟩ := h z
  exact ⟨e, e1, fun st => by rw [List.append_assoc, List.append_assoc]; exact e2 (x ++ st), e3⟩
theorem emt.thn {cd : List Nat} {n : Nat} {i o o2 : List Bool} {F H : Nat × LxT} (h : emt cd n i o F) (z : F.1 = 0) (h2 : emt F.2.2.1 F.2.2.2 o o2 H) : emt cd n i o2 H := by
  have := emt.seq (x := []) h z (by rw [List.append_nil]; exact h2)
  rw [List.append_nil] at this
  exact this
theorem pTmL_emt {t : TpT} : ∀ (j p : Nat) (cd : List Nat) (n : Nat), emt cd n [false] [false] (pTmL t j p cd n)
  | 0, p, cd, n => emt.id
  | j + 1, p, cd, n => by
    unfold pTmL
    refine cif_el (φ := emt cd n [false] [false]) (fun _ => ?_) (fun _ => emt.id)
    refine cif_el (φ := emt cd n [false] [false]) (fun z => ?_) (fun z => emt.no z)
    have v := (pVal_emt (t := t) (p := skB t (skB t p + 1)) (n := n) (cd := cd)).und (x := [false])
    have c4 : 200000 ≤ cif (pk t (skB t p) = 42) 200002 200003 ∧ cif (pk t (skB t p) = 42) 200002 200003 ≤ 200003 := cif_el (φ := fun c => 200000 ≤ c ∧ c ≤ 200003) (fun _ => by omega) (fun _ => by omega)
    have v2 := emt.sig (p := 0) v z (by omega) (tc_ar c4)
    exact emt.thn v2 rfl (pTmL_emt j _ _ _)
theorem pTm_emt {t : TpT} {p n : Nat} {cd : List Nat} : emt cd n [] [false] (pTm t p cd n) := by
  unfold pTm
  exact cif_el (φ := emt cd n [] [false]) (fun z => emt.thn pVal_emt z (pTmL_emt _ _ _ _)) (fun z => emt.no z)
theorem pSmL_emt {t : TpT} : ∀ (j p : Nat) (cd : List Nat) (n : Nat), emt cd n [false] [false] (pSmL t j p cd n)
  | 0, p, cd, n => emt.id
  | j + 1, p, cd, n => by
    unfold pSmL
    refine cif_el (φ := emt cd n [false] [false]) (fun _ => ?_) (fun _ => emt.id)
    refine cif_el (φ := emt cd n [false] [false]) (fun z => ?_) (fun z => emt.no z)
    have v := (pTm_emt (t := t) (p := skB t (p + 1)) (n := n) (cd := cd)).und (x := [false])
    have c4 : 200000 ≤ cif (pk t p = 43) 200000 200001 ∧ cif (pk t p = 43) 200000 200001 ≤ 200003 := cif_el (φ := fun c => 200000 ≤ c ∧ c ≤ 200003) (fun _ => by omega) (fun _ => by omega)
    have v2 := emt.sig (p := 0) v z (by omega) (tc_ar c4)
    exact emt.thn v2 rfl (pSmL_emt j _ _ _)
theorem pSm_emt {t : TpT} {p n : Nat} {cd : List Nat} : emt cd n [] [false] (pSm t p cd n) := by
  unfold pSm
  exact cif_el (φ := emt cd n [] [false]) (fun z => emt.thn pTm_emt z (pSmL_emt _ _ _ _)) (fun z => emt.no z)
/-- counted without a code -/
theorem emt.cnt {cd : List Nat} {n : Nat} {i o : List Bool} {F : Nat × LxT} (h : emt cd (n + 1) i o F) : emt cd n i o F := fun z => by
  obtain ⟨e, e1, e2, e3⟩ := h z
  exact ⟨e, e1, e2, by omega⟩
theorem pCm2_emt {t : TpT} {p n : Nat} {cd : List Nat} : emt cd n [false] [true] (pCm2 t p cd n) := by
  unfold pCm2
  refine cif_el (φ := emt cd n [false] [true]) (fun _ => ?_) (fun _ => emt.flt)
  refine cif_el (φ := emt cd n [false] [true]) (fun _ => emt.flt) (fun _ => ?_)
  refine cif_el (φ := emt cd n [false] [true]) (fun z => ?_) (fun z => emt.no z)
  have v := ((pSm_emt (t := t) (p := skB t (cmX t p)) (n := n + 1) (cd := cd)).und (x := [false])).cnt
  have c4 : 200004 ≤ cmC t p ∧ cmC t p ≤ 200008 := by
    unfold cmC
    refine cif_el (φ := fun c => 200004 ≤ c ∧ c ≤ 200008) (fun _ => by omega) (fun _ => cif_el (φ := fun c => 200004 ≤ c ∧ c ≤ 200008) (fun _ => ?_) (fun _ => ?_))
    · exact cif_el (φ := fun c => 200004 ≤ c ∧ c ≤ 200008) (fun _ => by omega) (fun _ => by omega)
    · exact cif_el (φ := fun c => 200004 ≤ c ∧ c ≤ 200008) (fun _ => by omega) (fun _ => by omega)
  exact emt.sig v z (by omega) (tc_cm c4)
theorem pCmp_emt {t : TpT} {p n : Nat} {cd : List Nat} : emt cd n [] [true] (pCmp t p cd n) := by
  unfold pCmp
  exact cif_el (φ := emt cd n [] [true]) (fun z => emt.thn pSm_emt z pCm2_emt) (fun z => emt.no z)
def emI (w : Nat) : List Bool := if w ≤ 1 then [] else [true]
theorem pX_emt {t : TpT} : ∀ (k w dp p : Nat) (cd : List Nat) (n : Nat), emt cd n (emI w) [true] (pX t k w dp p cd n)
  | 0, w, dp, p, cd, n => emt.no (by show ¬ 99999 = 0; omega)
  | k + 1, w, dp, p, cd, n => by
    have ih := pX_emt (t := t) k
    have i0 : ∀ dp p cd n, emt cd n [] [true] (pX t k 0 dp p cd n) := fun dp p cd n => ih 0 dp p cd n
    have i1 : ∀ dp p cd n, emt cd n [] [true] (pX t k 1 dp p cd n) := fun dp p cd n => ih 1 dp p cd n
    have i2 : ∀ dp p cd n, emt cd n [true] [true] (pX t k 2 dp p cd n) := fun dp p cd n => ih 2 dp p cd n
    have i3 : ∀ dp p cd n, emt cd n [true] [true] (pX t k 3 dp p cd n) := fun dp p cd n => ih 3 dp p cd n
    unfold pX
    refine cif_el (φ := emt cd n (emI w) [true]) (fun w0 => ?_) (fun w0 => ?_)
    · subst w0
      show emt cd n [] [true] _
      refine cif_el (φ := emt cd n [] [true]) (fun _ => ?_) (fun _ => ?_)
      · refine cif_el (φ := emt cd n [] [true]) (fun _ => emt.flt) (fun _ => ?_)
        refine bnd_el (φ := emt cd n [] [true]) (fun z => emt.no z) (fun z => ?_)
        exact cif_el (φ := emt cd n [] [true]) (fun _ => emt.thn (i1 _ _ _ _) z emt.id) (fun _ => emt.flt)
      · refine cif_el (φ := emt cd n [] [true]) (fun _ => ?_) (fun _ => pCmp_emt)
        refine cif_el (φ := emt cd n [] [true]) (fun _ => emt.flt) (fun _ => ?_)
        exact bnd_el (φ := emt cd n [] [true]) (fun z => emt.no z) (fun z => emt.sig (i0 _ _ _ _) z (by omega) tc_no)
    · refine cif_el (φ := emt cd n (emI w) [true]) (fun w1 => ?_) (fun w1 => ?_)
      · subst w1
        show emt cd n [] [true] _
        refine bnd_el (φ := emt cd n [] [true]) (fun z => emt.no z) (fun z => emt.thn (i0 _ _ _ _) z ?_)
        exact bnd_el (φ := emt _ _ [true] [true]) (fun z => emt.no z) (fun z => emt.thn (i2 _ _ _ _) z (i3 _ _ _ _))
      · rw [show emI w = [true] from if_neg (by omega)]
        refine cif_el (φ := emt cd n [true] [true]) (fun _ => ?_) (fun _ => ?_)
        · refine cif_el (φ := emt cd n [true] [true]) (fun _ => ?_) (fun _ => emt.id)
          refine bnd_el (φ := emt cd n [true] [true]) (fun z => emt.no z) (fun z => ?_)
          have v := (i0 dp (skB t (p + 3)) cd n).und (x := [true])
          exact emt.thn (emt.sig (p := 0) v z (by omega) (tc_ao (Or.inl rfl))) rfl (i2 _ _ _ _)
        · refine cif_el (φ := emt cd n [true] [true]) (fun _ => ?_) (fun _ => emt.id)
          refine bnd_el (φ := emt cd n [true] [true]) (fun z => emt.no z) (fun z => ?_)
          have v := (i0 dp (skB t (p + 2)) cd n).und (x := [true])
          generalize pX t k 0 dp (skB t (p + 2)) cd n = R at *
          refine bnd_el (φ := emt cd n [true] [true]) (fun z => emt.no z) (fun z2 => ?_)
          have v2 := emt.thn v z ((i2 dp R.2.1 R.2.2.1 R.2.2.2).und (x := [true]))
          exact emt.thn (emt.sig (p := 0) v2 z2 (by omega) (tc_ao (Or.inr rfl))) rfl (i3 _ _ _ _)
