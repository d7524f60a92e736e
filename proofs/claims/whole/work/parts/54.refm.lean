/-! READING MARKS: what is read; the reference -/
def dg (t : TpT) (i : Nat) : Nat := (t.2 i).toNatClampNeg - 48
/-- the number of the first n digits at p -/
def vlF (t : TpT) (p : Nat) : Nat → Nat
  | 0 => 0
  | n + 1 => 10 * vlF t p n + dg t (p + n)
noncomputable def nV (t : TpT) (p : Nat) : Nat := vlF t p (dl t p)
/-- the FAULT of a NUMBER at p, 0 for none -/
noncomputable def nuF (t : TpT) (p lo hi : Nat) : Nat := cif (dl t p = 0) (flt p 0) (cif (3 < dl t p ∨ nV t p < lo ∨ hi < nV t p) (flt p 1) 0)
/-- behind a NUMBER -/
noncomputable def nX (t : TpT) (p : Nat) : Nat := p + dl t p
noncomputable def pTx (t : TpT) : Nat → Nat → List Int32 → Nat × List Int32 × Nat
  | 0, p, _ => (flt p 2, [], 0)
  | f + 1, p, acc => cif (p < t.1) (cif (t.2 p = 39) (cif (acc = []) (flt p 2, [], 0) (0, acc, p + 1)) (cif (acc.length = 20 ∨ ¬ okB (t.2 p)) (flt p 2, [], 0) (pTx t f (p + 1) (acc ++ [t.2 p])))) (flt p 0, [], 0)
abbrev RdT : Type := Nat × MkT × Nat
def rdF (f : Nat) : RdT := (f, (0, 0, 0, 0, []), 0)
noncomputable def pIns (t : TpT) (S : ShT) (q : Nat) : RdT :=
  cif (nuF t q 0 (gN S) = 0) (cif (skB t (nX t q) < t.1 ∧ t.2 (skB t (nX t q)) = 39) (cif ((pTx t 21 (skB t (nX t q) + 1) []).1 = 0) (0, (0, nI (nV t q), -1, -1, (pTx t 21 (skB t (nX t q) + 1) []).2.1), (pTx t 21 (skB t (nX t q) + 1) []).2.2) (rdF (pTx t 21 (skB t (nX t q) + 1) []).1)) (rdF (flt (skB t (nX t q)) 0))) (rdF (nuF t q 0 (gN S)))
noncomputable def pClo (t : TpT) (S : ShT) (q : Nat) : RdT :=
  cif (nuF t q 0 (gN S) = 0) (cif (nV t q = gN S ∨ ¬ gB S (nV t q) = 32) (rdF (flt q 1)) (0, (1, nI (nV t q), nI (nV t q + 1), -1, []), nX t q)) (rdF (nuF t q 0 (gN S)))
/-- two NUMBERS: the FAULT -/
noncomputable def pSpF (t : TpT) (S : ShT) (q : Nat) : Nat := cif (nuF t q 0 (gN S) = 0) (nuF t (skB t (nX t q)) (nV t q + 1) (gN S)) (nuF t q 0 (gN S))
/-- where the second one is, the third one -/
noncomputable def q2 (t : TpT) (q : Nat) : Nat := skB t (nX t q)
noncomputable def q3 (t : TpT) (q : Nat) : Nat := skB t (nX t (q2 t q))
noncomputable def pM (t : TpT) (S : ShT) (k q : Nat) : RdT :=
  cif (k = 0) (pIns t S q) (cif (k = 7) (pClo t S q) (cif (pSpF t S q = 0) (cif (k = 4) (cif (nuF t (q3 t q) 0 (gN S) = 0) (cif (nV t q ≤ nV t (q3 t q) ∧ nV t (q3 t q) ≤ nV t (q2 t q)) (rdF (flt (q3 t q) 1)) (0, (4, nI (nV t q), nI (nV t (q2 t q)), nI (nV t (q3 t q)), []), nX t (q3 t q))) (rdF (nuF t (q3 t q) 0 (gN S))))
  (cif (k = 6) (cif (nuF t (q3 t q) (nV t (q2 t q) + 1) (gN S) = 0) (0, (4, nI (nV t q), nI (nV t (q2 t q)), nI (nV t (q3 t q)), []), nX t (q3 t q)) (rdF (nuF t (q3 t q) (nV t (q2 t q) + 1) (gN S)))) (0, (nI k, nI (nV t q), nI (nV t (q2 t q)), -1, []), nX t (q2 t q)))) (rdF (pSpF t S q))))
def vWs : List (List Int32) := [strB.getD 7 [], strB.getD 8 [], strB.getD 9 [], strB.getD 10 [], strB.getD 11 [], strB.getD 12 [], strB.getD 13 [], strB.getD 14 []]
/-- the number of the verb at p; 8: none -/
noncomputable def vIx (t : TpT) (p : Nat) : Nat := fst (fun k => wAt t p = vWs.getD k []) 8
noncomputable def pC (t : TpT) (S : ShT) (n p : Nat) : RdT := cif (vIx t p = 8) (rdF (flt p 0)) (cif (n = 16) (rdF (flt p 4)) (pM t S (vIx t p) (skB t (p + wl t p))))
noncomputable def pL (t : TpT) (S : ShT) : Nat → Nat → Nat → List MkT → Nat × List MkT
  | 0, _, p, _ => (flt p 0, [])
  | f + 1, n, p, acc => cif ((pC t S n (skB t p)).1 = 0) (cif (skB t (pC t S n (skB t p)).2.2 < t.1) (cif (t.2 (skB t (pC t S n (skB t p)).2.2) = 59) (pL t S f (n + 1) (skB t (pC t S n (skB t p)).2.2 + 1) (acc ++ [(pC t S n (skB t p)).2.1])) (flt (skB t (pC t S n (skB t p)).2.2) 0, [])) (0, acc ++ [(pC t S n (skB t p)).2.1])) ((pC t S n (skB t p)).1, [])
theorem dl_le {t : TpT} {p : Nat} (h : p ≤ t.1) : p + dl t p ≤ t.1 := run_le' (P := fun i => isD (t.2 i)) h
theorem wl_le {t : TpT} {p : Nat} (h : p ≤ t.1) : p + wl t p ≤ t.1 := run_le' (P := fun i => isS (t.2 i)) h
theorem vlF_lt {t : TpT} {p n : Nat} (h : ∀ i, i < n → isD (t.2 (p + i))) : vlF t p n < 10 ^ n := by
  induction n with
  | zero => show (0 : Nat) < 1; decide
  | succ n ih => 
    have h1 := ih (fun i hi => h i (by omega))
    have h2 := h n (by omega)
    have h3 : dg t (p + n) ≤ 9 := by
      unfold dg
      obtain ⟨j, hj, e⟩ := asN (a := t.2 (p + n)) (N := 58) (by have := h2.1; omega) (by have := h2.2; omega)
      rw [e, nI_clamp (by omega)]
      omega
    show 10 * vlF t p n + dg t (p + n) < 10 ^ (n + 1)
    rw [Nat.pow_succ]
    omega
theorem isD_dg {c : Int32} (h : isD c) : c = nI (c.toNatClampNeg - 48 + 48) ∧ c.toNatClampNeg - 48 ≤ 9 := by
  obtain ⟨j, hj, e⟩ := asN (a := c) (N := 58) (by have := h.1; omega) (by have := h.2; omega)
  subst e
  have h1 := h.1
  rw [nI_toIntN (by omega)] at h1
  rw [nI_clamp (by omega)]
  exact ⟨by congr 1; omega, by omega⟩
section
variable {G : GT} {d : Nat} {M M' M'' : Mem} {m p s : Nat} {T : StT}
theorem s_spot {lo hi : Nat} {Q : Int32 → Mem → Prop} (W : RX M m T) (hp : vi M m 14 = nI p) (p4 : p ≤ T.1.1) (hf : vi M m 15 = nI 0) (lo4 : lo < 100000) (hi4 : hi < 100000)
    (hy : nuF T.1 (skB T.1 p) lo hi = 0 → ∀ M', Frl m [14, 15] [] M M' → vi M' m 14 = nI (nX T.1 (skB T.1 p)) → vi M' m 15 = nI 0 → Q (nI (nV T.1 (skB T.1 p))) M')
    (hn : ¬ nuF T.1 (skB T.1 p) lo hi = 0 → ∀ v M', Frl m [14, 15] [] M M' → vi M' m 15 = nI (nuF T.1 (skB T.1 p) lo hi) → Q v M') : CI G (d + 3) 191 [.ref m, .int (nI lo), .int (nI hi)] M Q := by
  have t4 : T.1.1 ≤ 400 := W.t4
  have sk := skB_le p4
  generalize hq0 : skB T.1 p = q at *
  refine r_spot W.1 (s_blanks W hp (by omega) (fun M1 f1 h1 => ?_))
  rw [hq0] at h1
  have g1 : Frl m [14, 15] [] M M1 := f1.sub (by decide) (by decide)
  refine ⟨f1.ra W.1, ?_⟩
  rw [h1]
  -- the end of the loop
  have fin : ∀ (M2 : Mem) (v : Nat), Frl m [14] [] M M2 → vi M2 m 14 = nI (nX T.1 q) → (dl T.1 q ≤ 3 → v = nV T.1 q) → v < 100000 →
      (¬ nI (dl T.1 q) = 0 → (3 < nI (dl T.1 q) → CV G (d + 2) 173 [.ref m, .int 1, .int (nI q)] M2 (fun M3 => RefAt M3 m ∧ Q (nI v) M3)) ∧ (¬ 3 < nI (dl T.1 q) → (nI v < nI lo → CV G (d + 2) 173 [.ref m, .int 1, .int (nI q)] M2 (fun M3 => RefAt M3 m ∧ Q (nI v) M3)) ∧ (¬ nI v < nI lo → (nI v ≤ nI hi → Q (nI v) M2) ∧ (¬ nI v ≤ nI hi → CV G (d + 2) 173 [.ref m, .int 1, .int (nI q)] M2 (fun M3 => RefAt M3 m ∧ Q (nI v) M3))))) ∧ (nI (dl T.1 q) = 0 → CV G (d + 2) 173 [.ref m, .int 0, .int (nI q)] M2 (fun M3 => RefAt M3 m ∧ Q (nI v) M3)) := by
    intro M2 v f0 h2 hv v4
    have dq := dl_le sk.2
    have f15 : vi M2 m 15 = nI 0 := by rw [f0.f (by decide) (by decide)]; exact hf
    have f2 : Frl m [14, 15] [] M M2 := f0.sub (by decide) (by decide)
    have bad : ∀ c, c < 8 → nuF T.1 q lo hi = flt q c → CV G (d + 2) 173 [.ref m, .int (nI c), .int (nI q)] M2 (fun M3 => RefAt M3 m ∧ Q (nI v) M3) := fun c hc e => by
      refine s_fails (f2.ra W.1) f15 (by omega) (by omega) hc (fun M3 f3 h3 => ⟨(f2.trans (f3.sub (by decide) (by decide))).ra W.1, hn ?_ _ M3 (f2.trans (f3.sub (by decide) (by decide))) ?_⟩)
      · rw [e]; unfold flt; omega
      · rw [h3, if_pos rfl, e]
    rw [il_0, eq_I (by omega) (by omega), show (3 : Int32) = nI 3 from rfl, lt_I (by omega) (by omega), lt_I (a := v) (by omega) (by omega), le_I (a := v) (by omega) (by omega)]
    refine ⟨fun c1 => ⟨fun c2 => bad 1 (by omega) ?_, fun c2 => ⟨fun c3 => bad 1 (by omega) ?_, fun c3 => ⟨fun c4 => ?_, fun c4 => bad 1 (by omega) ?_⟩⟩⟩, fun c1 => bad 0 (by omega) ?_⟩
    · unfold nuF; rw [cif_F c1, cif_T (Or.inl c2)]
    · unfold nuF; rw [cif_F c1, cif_T (Or.inr (Or.inl (by rw [← hv (by omega)]; exact c3)))]
    · have e : nuF T.1 q lo hi = 0 := by
        unfold nuF; rw [cif_F c1, cif_F (fun z => by rw [← hv (by omega)] at z; omega)]
      rw [hv (by omega)]
      exact hy e M2 f2 h2 f15
    · unfold nuF; rw [cif_F c1, cif_T (Or.inr (Or.inr (by rw [← hv (by omega)]; omega)))]
    · unfold nuF; rw [cif_T c1]
  have dq := dl_le sk.2
  have dI : ∀ i, i < dl T.1 q → isD (T.1.2 (q + i)) := run_in (P := fun i => isD (T.1.2 i)) _ q rfl
  have vb : ∀ n, n ≤ 4 → n ≤ dl T.1 q → vlF T.1 q n < 100000 := fun n h4 h5 => by
    have h6 := vlF_lt (t := T.1) (p := q) (n := n) (fun i hi => dI i (by omega))
    have h7 : 10 ^ n ≤ 10 ^ 4 := Nat.pow_le_pow_right (by decide) h4
    omega
  have key : ∀ (n k : Nat) (M2 : Mem), n + k = dl T.1 q → Frl m [14] [] M M2 → vi M2 m 14 = nI (q + k) → At G (d + 3) 191 15 [(0, .ref m), (1, .int (nI lo)), (2, .int (nI hi)), (3, .int (nI q)), (4, .int (nI k)), (5, .int (nI (vlF T.1 q (min k 4))))] [] M2 (qI Q) := by
    intro n
    induction n with
    | zero => 
      intro k M2 e1 f2 e2
      have W2 := W.fr (f2.sub (F' := [14]) (L' := []) (by decide) (by decide)) (fun o ho => by simp <;> omega) (by decide)
      have ek : k = dl T.1 q := by omega
      subst ek
      have tN4 : tN T = T.1.1 := rfl
      have fi := fin M2 (vlF T.1 q (min (dl T.1 q) 4)) f2 e2 (fun h => by unfold nV; rw [show min (dl T.1 q) 4 = dl T.1 q by omega]) (vb _ (by omega) (by omega))
      refine r_spot_15 (f2.ra W.1) ?_
      rw [W2.t, e2]
      refine ⟨fun _ => fi, fun c => ⟨vp_in_nI (by have := W2.t4; rw [le_I (by omega) (by omega)] at c; omega) (by omega), ?_⟩⟩
      rw [le_I (by omega) (by omega)] at c
      have hk : q + dl T.1 q < tN T := by omega
      have tk := W2.tk hk
      rw [nI_clamp (by omega), W2.tb hk]
      refine s_in False ?_ ⟨f2.ra W.1, bz (fun z => z.elim) (fun _ => fi)⟩
      rw [Int32.toInt_toInt64, ll_48, ll_57, sb_cmp8 tk]
      have ne := run_end (P := fun i => isD (T.1.2 i)) (n := T.1.1) _ q rfl
      refine ⟨fun z => ne ⟨hk, ?_⟩, False.elim⟩
      show 48 ≤ (tB T (q + dl T.1 q)).toInt ∧ (tB T (q + dl T.1 q)).toInt ≤ 57
      by_cases y : (tB T (q + dl T.1 q)).toInt < 128
      · rw [if_pos y] at z; exact z
      · rw [if_neg y] at z; omega
    | succ n ih => 
      intro k M2 e1 f2 e2
      have W2 := W.fr (f2.sub (F' := [14]) (L' := []) (by decide) (by decide)) (fun o ho => by simp <;> omega) (by decide)
      have tN4 : tN T = T.1.1 := rfl
      have hk : q + k < tN T := by omega
      have tk := W2.tk hk
      have hd : isD (tB T (q + k)) := dI k (by omega)
      have hd1 := hd.1
      have hd2 := hd.2
      refine r_spot_15 (f2.ra W.1) ?_
      rw [W2.t, e2]
      refine ⟨fun c => absurd c (nI_ge hk (by omega)), fun _ => ⟨vp_in_nI (by omega) (by omega), ?_⟩⟩
      rw [nI_clamp (by omega), W2.tb hk]
      refine s_in True ?_ ⟨f2.ra W.1, bz (fun _ => ?_) (fun z => absurd trivial z)⟩
      · rw [Int32.toInt_toInt64, ll_48, ll_57, sb_cmp8 tk, if_pos (by omega)]
        exact ⟨fun _ => trivial, fun _ => hd⟩
      · rw [show (4 : Int32) = nI 4 from rfl, le_I (by omega) (by omega), e2, nI_clamp (by omega), W2.tb hk, nI_1, nI_1]
        refine ⟨fun c => ?_, fun c => ⟨vp_in_nI (by omega) (by omega), ?_⟩⟩
        · intro M3 e3
          have := ih (k + 1) M3 (by omega) (by rw [e3]; exact f2.trans (Frl.sf (by decide))) (by rw [e3, vi_seti, if_pos ⟨rfl, rfl⟩]; rfl)
          rw [show min (k + 1) 4 = min k 4 by omega] at this
          exact this
        · intro M3 e3
          have := ih (k + 1) M3 (by omega) (by rw [e3]; exact f2.trans (Frl.sf (by decide))) (by rw [e3, vi_seti, if_pos ⟨rfl, rfl⟩]; rfl)
          rw [show min (k + 1) 4 = k + 1 by omega] at this
          have ed := isD_dg hd
          have ev : 10 * nI (vlF T.1 q (min k 4)) + (tB T (q + k)).toInt8.toInt32 - 48 = nI (vlF T.1 q (k + 1)) := by
            rw [(sb_inj tk ⟨by omega, by omega⟩).mpr rfl, show min k 4 = k by omega, show (10 : Int32) = nI 10 from rfl, pk_mul, ed.1, nI_add, show (48 : Int32) = nI 48 from rfl, pk_sub (by omega)]
            congr 1
          rw [ev]
          exact this
  exact key (dl T.1 q) 0 M1 (by omega) f1 h1
end
