/-! READING MARKS: what is read is good; the reference's clauses -/
theorem pTx_ok {t : TpT} : ∀ (f p : Nat) (acc : List Int32) (tx : List Int32) (nx : Nat), pTx t f p acc = (0, tx, nx) → acc.length ≤ 20 → (∀ c ∈ acc, okB c) → p ≤ t.1 → 0 < tx.length ∧ tx.length ≤ 20 ∧ (∀ c ∈ tx, okB c) ∧ nx ≤ t.1
  | 0, p, acc, tx, nx, h, _, _, _ => by
    have h2 : (flt p 2, ([] : List Int32), 0) = (0, tx, nx) := h
    have := congrArg (fun z => z.1) h2
    simp [flt] at this
  | f + 1, p, acc, tx, nx, h, hl, ho, hp => by
    have h2 : cif (p < t.1) (cif (t.2 p = 39) (cif (acc = []) (flt p 2, [], 0) (0, acc, p + 1)) (cif (acc.length = 20 ∨ ¬ okB (t.2 p)) (flt p 2, [], 0) (pTx t f (p + 1) (acc ++ [t.2 p])))) (flt p 0, [], 0) = (0, tx, nx) := h
    by_cases c1 : p < t.1
    · rw [cif_T c1] at h2
      by_cases c2 : t.2 p = 39
      · rw [cif_T c2] at h2
        by_cases c3 : acc = []
        · rw [cif_T c3] at h2
          have := congrArg (fun z => z.1) h2
          simp [flt] at this
        · rw [cif_F c3] at h2
          cases h2
          refine ⟨?_, hl, ho, by omega⟩
          cases acc with
          | nil => exact absurd rfl c3
          | cons a l => simp
      · rw [cif_F c2] at h2
        by_cases c3 : acc.length = 20 ∨ ¬ okB (t.2 p)
        · rw [cif_T c3] at h2
          have := congrArg (fun z => z.1) h2
          simp [flt] at this
        · rw [cif_F c3] at h2
          have ob : okB (t.2 p) := Classical.byContradiction (fun z => c3 (Or.inr z))
          refine pTx_ok f (p + 1) _ tx nx h2 (by simp; omega) (fun c hc => ?_) (by omega)
          rcases List.mem_append.mp hc with z | z
          · exact ho c z
          · rw [List.mem_singleton.mp z]; exact ob
    · rw [cif_F c1] at h2
      have := congrArg (fun z => z.1) h2
      simp [flt] at this
theorem okM_two {n k a b : Nat} (h1 : k = 1 ∨ k = 2 ∨ k = 3 ∨ k = 5) (h2 : a < b) (h3 : b ≤ n) (h4 : n ≤ 200) : okM n (nI k, nI a, nI b, -1, []) := by
  have e0 : ¬ nI k = 0 := nI_ne0 (by omega) (by omega)
  have e4 : ¬ nI k = 4 := by rw [show (4 : Int32) = nI 4 from rfl, eq_I (by omega) (by omega)]; omega
  refine ⟨?_, ?_, fun z => absurd z e0, fun _ => ⟨rfl, ?_, ?_⟩, fun z => absurd z e4, fun _ => rfl⟩
  · show 0 ≤ (nI k).toInt ∧ (nI k).toInt ≤ 5
    rw [nI_toIntN (by omega)]; omega
  · show 0 ≤ (nI a).toInt ∧ (nI a).toInt ≤ n
    rw [nI_toIntN (by omega)]; omega
  · show (nI a).toInt < (nI b).toInt
    rw [nI_toIntN (by omega), nI_toIntN (by omega)]; omega
  · show (nI b).toInt ≤ n
    rw [nI_toIntN (by omega)]; omega
theorem okM_mv {n a b c : Nat} (h2 : a < b) (h3 : b ≤ n) (h4 : n ≤ 200) (h5 : c ≤ n) (h6 : c < a ∨ b < c) : okM n (4, nI a, nI b, nI c, []) := by
  refine ⟨⟨show (0 : Int) ≤ (4 : Int32).toInt by decide, show (4 : Int32).toInt ≤ 5 by decide⟩, ?_, fun z => absurd (show (4 : Int32) = 0 from z) (by decide), fun _ => ⟨rfl, ?_, ?_⟩, fun _ => ⟨?_, ?_, ?_⟩, fun z => absurd rfl z⟩
  · show 0 ≤ (nI a).toInt ∧ (nI a).toInt ≤ n
    rw [nI_toIntN (by omega)]; omega
  · show (nI a).toInt < (nI b).toInt
    rw [nI_toIntN (by omega), nI_toIntN (by omega)]; omega
  · show (nI b).toInt ≤ n
    rw [nI_toIntN (by omega)]; omega
  · show 0 ≤ (nI c).toInt
    rw [nI_toIntN (by omega)]; omega
  · show (nI c).toInt ≤ n
    rw [nI_toIntN (by omega)]; omega
  · show (nI c).toInt < (nI a).toInt ∨ (nI b).toInt < (nI c).toInt
    rw [nI_toIntN (by omega), nI_toIntN (by omega), nI_toIntN (by omega)]; omega
theorem okM_ins {n a : Nat} {tx : List Int32} (h2 : a ≤ n) (h4 : n ≤ 200) (h5 : 0 < tx.length ∧ tx.length ≤ 20 ∧ ∀ c ∈ tx, okB c) : okM n (0, nI a, -1, -1, tx) := by
  refine ⟨⟨show (0 : Int) ≤ (0 : Int32).toInt by decide, show (0 : Int32).toInt ≤ 5 by decide⟩, ?_, fun _ => ⟨rfl, rfl, h5.1, h5.2.1, h5.2.2⟩, fun z => absurd rfl z, fun z => absurd (show (0 : Int32) = 4 from z) (by decide), fun _ => rfl⟩
  show 0 ≤ (nI a).toInt ∧ (nI a).toInt ≤ n
  rw [nI_toIntN (by omega)]; omega
theorem pM_ok {t : TpT} {S : ShT} {k q : Nat} (g4 : gN S ≤ 200) (k8 : k < 8) (hq : q ≤ t.1) (h : (pM t S k q).1 = 0) : okM (gN S) (pM t S k q).2.1 ∧ (pM t S k q).2.2 ≤ t.1 := by
  have sq2 : q2 t q ≤ t.1 := (skB_le (nX_le hq)).2
  have sq3 : q3 t q ≤ t.1 := (skB_le (nX_le sq2)).2
  have fz : ∀ {f : Nat}, (rdF f).1 = 0 → f = 0 := fun z => z
  unfold pM at h ⊢
  by_cases k0 : k = 0
  · rw [cif_T k0] at h ⊢
    unfold pIns at h ⊢
    by_cases z : nuF t q 0 (gN S) = 0
    · rw [cif_T z] at h ⊢
      by_cases y : skB t (nX t q) < t.1 ∧ t.2 (skB t (nX t q)) = 39
      · rw [cif_T y] at h ⊢
        by_cases x : (pTx t 21 (skB t (nX t q) + 1) []).1 = 0
        · rw [cif_T x]
          have ok := nuF_ok z
          have tk := pTx_ok 21 (skB t (nX t q) + 1) [] (pTx t 21 (skB t (nX t q) + 1) []).2.1 (pTx t 21 (skB t (nX t q) + 1) []).2.2 (by rw [← x]) (by decide) (fun c hc => by cases hc) (by omega)
          exact ⟨okM_ins ok.2.1 g4 ⟨tk.1, tk.2.1, tk.2.2.1⟩, tk.2.2.2⟩
        · rw [cif_F x] at h; exact absurd (fz h) x
      · rw [cif_F y] at h; have := fz h; unfold flt at this; omega
    · rw [cif_F z] at h; exact absurd (fz h) z
  · rw [cif_F k0] at h ⊢
    by_cases k7 : k = 7
    · rw [cif_T k7] at h ⊢
      unfold pClo at h ⊢
      by_cases z : nuF t q 0 (gN S) = 0
      · rw [cif_T z] at h ⊢
        by_cases y : nV t q = gN S ∨ ¬ gB S (nV t q) = 32
        · rw [cif_T y] at h; have := fz h; unfold flt at this; omega
        · rw [cif_F y]
          have ok := nuF_ok z
          exact ⟨okM_two (k := 1) (Or.inl rfl) (by omega) (by omega) g4, nX_le hq⟩
      · rw [cif_F z] at h; exact absurd (fz h) z
    · rw [cif_F k7] at h ⊢
      by_cases z : pSpF t S q = 0
      · rw [cif_T z] at h ⊢
        have z1 : nuF t q 0 (gN S) = 0 := by
          unfold pSpF at z
          by_cases u : nuF t q 0 (gN S) = 0
          · exact u
          · rw [cif_F u] at z; exact absurd z u
        have z2 : nuF t (q2 t q) (nV t q + 1) (gN S) = 0 := by
          unfold pSpF at z
          rw [cif_T z1] at z; exact z
        have ok1 := nuF_ok z1
        have ok2 := nuF_ok z2
        by_cases k4 : k = 4
        · rw [cif_T k4] at h ⊢
          by_cases z3 : nuF t (q3 t q) 0 (gN S) = 0
          · rw [cif_T z3] at h ⊢
            have ok3 := nuF_ok z3
            by_cases y : nV t q ≤ nV t (q3 t q) ∧ nV t (q3 t q) ≤ nV t (q2 t q)
            · rw [cif_T y] at h; have := fz h; unfold flt at this; omega
            · rw [cif_F y]
              exact ⟨okM_mv (by omega) (by omega) g4 (by omega) (by omega), nX_le sq3⟩
          · rw [cif_F z3] at h; exact absurd (fz h) z3
        · rw [cif_F k4] at h ⊢
          by_cases k6 : k = 6
          · rw [cif_T k6] at h ⊢
            by_cases z3 : nuF t (q3 t q) (nV t (q2 t q) + 1) (gN S) = 0
            · rw [cif_T z3]
              have ok3 := nuF_ok z3
              exact ⟨okM_mv (by omega) (by omega) g4 (by omega) (by omega), nX_le sq3⟩
            · rw [cif_F z3] at h; exact absurd (fz h) z3
          · rw [cif_F k6]
            exact ⟨okM_two (by omega) (by omega) (by omega) g4, nX_le sq2⟩
      · rw [cif_F z] at h; exact absurd (fz h) z
theorem vIx_le (t : TpT) (p : Nat) : vIx t p ≤ 8 := fst_lt 8
theorem pC_ok {t : TpT} {S : ShT} {n q : Nat} (g4 : gN S ≤ 200) (hq : q ≤ t.1) (h : (pC t S n q).1 = 0) : ¬ n = 16 ∧ okM (gN S) (pC t S n q).2.1 ∧ (pC t S n q).2.2 ≤ t.1 := by
  have fz : ∀ {f : Nat}, (rdF f).1 = 0 → f = 0 := fun z => z
  have lv := vIx_le t q
  unfold pC at h ⊢
  by_cases c1 : vIx t q = 8
  · rw [cif_T c1] at h; have := fz h; unfold flt at this; omega
  · rw [cif_F c1] at h ⊢
    by_cases c2 : n = 16
    · rw [cif_T c2] at h; have := fz h; unfold flt at this; omega
    · rw [cif_F c2] at h ⊢
      exact ⟨c2, pM_ok g4 (by omega) (skB_le (wl_le hq)).2 h⟩
section
variable {G : GT} {d : Nat} {M M' : Mem} {m p : Nat} {T : StT}
theorem s_markWord {k : Nat} {Q : Option Nat → Mem → Prop} (k8 : k < 8) (hq : Q (some (gk G (7 + k))) M) : CR G (d + 1) 172 [.int (nI k)] M Q := by
  refine r_markWord ?_
  rw [nI_toIntN (by omega)]
  refine ⟨fun c => ?_, fun c => ?_, fun c => ?_, fun c => ?_, fun c => ?_, fun c => ?_, fun c => ?_, fun c => ?_, trivial⟩
  · rw [show k = 7 by omega] at hq; exact hq
  · rw [show k = 0 by omega] at hq; exact hq
  · rw [show k = 1 by omega] at hq; exact hq
  · rw [show k = 2 by omega] at hq; exact hq
  · rw [show k = 3 by omega] at hq; exact hq
  · rw [show k = 4 by omega] at hq; exact hq
  · rw [show k = 5 by omega] at hq; exact hq
  · rw [show k = 6 by omega] at hq; exact hq
theorem vWs_s : ∀ k, k < 8 → vWs.getD k [] = strB.getD (7 + k) [] := by decide
theorem s_markClause {h n : Nat} {Q : Mem → Prop} (W : RX M m T) (h4 : h < 4) (n16 : n ≤ 16) (ns : n < 16 → ¬ isM (sh T) (16 * h + n)) (hp : vi M m 14 = nI p) (p4 : p ≤ T.1.1) (hf : vi M m 15 = nI 0)
    (hy : (pC T.1 (sh T) n (skB T.1 p)).1 = 0 → ∀ M', FrS m (16 * h + n) mkLs M M' → slM M' m (16 * h + n) (pC T.1 (sh T) n (skB T.1 p)).2.1 → vi M' m 14 = nI (pC T.1 (sh T) n (skB T.1 p)).2.2 → vi M' m 15 = nI 0 → Q M')
    (hn : ¬ (pC T.1 (sh T) n (skB T.1 p)).1 = 0 → ∀ M', FrS m (16 * h + n) mkLs M M' → RX M' m T → vi M' m 15 = nI (pC T.1 (sh T) n (skB T.1 p)).1 → Q M') : CV G (d + 6) 195 [.ref m, .int (nI h), .int (nI n)] M Q := by
  have t4 : T.1.1 ≤ 400 := W.t4
  have sk := skB_le p4
  refine r_markClause W.1 (s_blanks W hp (by omega) (fun M1 f1 h1 => ⟨f1.ra W.1, ?_⟩))
  have W1 := W.fr f1 (fun o ho => by simp <;> omega) (by decide)
  have c15 : vi M1 m 15 = nI 0 := by rw [f1.f (by decide) (by decide)]; exact hf
  have fr1 : FrS m (16 * h + n) mkLs M M1 := FrS.ofF (f1.sub (by decide) (by decide)) (by decide)
  generalize hq0 : skB T.1 p = q at *
  rw [h1]
  have e37 : ∀ k, k = vIx T.1 q → (k < 8 → wAt T.1 q = strB.getD (7 + k) []) → At G (d + 6) 195 37 [(0, .ref m), (1, .int (nI h)), (2, .int (nI n)), (3, .int (nI q)), (4, .int (nI k))] [] M1 (qV Q) := by
    intro k ek ew0
    have lv := vIx_le T.1 q
    have tell : ∀ c, c < 8 → (pC T.1 (sh T) n q).1 = flt q c → CV G (d + 5) 173 [.ref m, .int (nI c), .int (nI q)] M1 (fun M16 => RefAt M16 m ∧ (At G (d + 6) 195 97 [] [] M16 (qV Q))) := fun c hc ec => by
      refine s_fails W1.1 c15 (by omega) (by omega) hc (fun M2 f2 h2 => ⟨f2.ra W1.1, r_markClause_97 (f2.ra W1.1) (hn ?_ M2 (fr1.trans (FrS.ofF (f2.sub (by decide) (by decide)) (by decide))) (W1.fr f2 (fun o ho => by simp <;> omega) (by decide)) ?_)⟩)
      · rw [ec]; unfold flt; omega
      · rw [h2, if_pos rfl, ec]
    refine r_markClause_37 W1.1 ?_
    rw [show (8 : Int32) = nI 8 from rfl, eq_I (by omega) (by omega), show (16 : Int32) = nI 16 from rfl, eq_I (by omega) (by omega)]
    refine ⟨fun k8 => ⟨fun c16 => ?_, fun c16 => tell 4 (by omega) ?_⟩, fun k8 => tell 0 (by omega) ?_⟩
    · have ew : wAt T.1 q = strB.getD (7 + k) [] := ew0 (by omega)
      refine s_markWord (by omega) ⟨W1.1, fun r er => ?_, fun er => (by cases er)⟩
      cases er
      refine ⟨⟨7 + k, by omega, rfl⟩, s_length (by omega) ⟨W1.1, ?_⟩⟩
      rw [h1, nI_add, ← ew, wAt_len]
      intro M13 e13
      have W13 : RX M13 m T := by rw [e13]; exact W1.fr (Frl.sf (F := [14]) (L := []) (by decide)) (fun o ho => by simp <;> omega) (by decide)
      have fr13 : FrS m (16 * h + n) mkLs M M13 := fr1.trans (FrS.ofF (by rw [e13]; exact Frl.sf (by decide)) (by decide))
      rw [pk_mul, nI_add]
      have pe : pC T.1 (sh T) n q = pM T.1 (sh T) k (skB T.1 (q + wl T.1 q)) := by unfold pC; rw [cif_F (by omega), cif_F c16, ← ek]
      refine s_readsMark W13 (by omega) (ns (by omega)) (by omega) (by rw [e13, vi_seti, if_pos ⟨rfl, rfl⟩]) (wl_le sk.2) (by rw [e13, vi_seti, if_neg (by omega)]; exact c15) (fun z M14 f14 sl x14 x15 => ?_) (fun z M14 f14 x15 => ?_)
      · rw [← pe] at z sl x14
        have g := fr13.trans f14
        exact ⟨g.1.ra W.1, r_markClause_97 (g.1.ra W.1) (hy z M14 g sl x14 x15)⟩
      · rw [← pe] at z x15
        have g := fr13.trans f14
        exact ⟨g.1.ra W.1, r_markClause_97 (g.1.ra W.1) (hn z M14 g (W13.slot f14 (ns (by omega)) (fun _ h => h)) x15)⟩
    · unfold pC; rw [cif_F (by omega), cif_T c16]; rfl
    · unfold pC; rw [cif_T (by omega)]; rfl
  have key : ∀ (j k : Nat), j + k = 8 → (∀ i, i < k → ¬ wAt T.1 q = vWs.getD i []) → At G (d + 6) 195 12 [(0, .ref m), (1, .int (nI h)), (2, .int (nI n)), (3, .int (nI q)), (4, .int (nI k))] [] M1 (qV Q) := by
    intro j
    induction j with
    | zero => 
      intro k h2 h3
      refine r_markClause_12 W1.1 ⟨fun _ => e37 k ?_ (fun z => by omega), fun c => absurd (show (8 : Int32) ≤ nI k from nI_le (a := 8) (by omega) (by omega)) c⟩
      rw [show k = 8 by omega]
      exact (fst_n 8 (fun i hi => h3 i (by omega))).symm
    | succ j ih => 
      intro k h2 h3
      refine r_markClause_12 W1.1 ⟨fun c => absurd c (nI_ge (a := k) (b := 8) (by omega) (by decide)), fun _ => s_markWord (by omega) ⟨W1.1, fun r er => ?_, fun er => (by cases er)⟩⟩
      cases er
      rw [nI_1]
      refine s_isAt W1 (by omega) h1 sk.2 ⟨W1.1, bnz (fun c => e37 k ?_ (fun _ => c)) (fun c => ih (k + 1) (by omega) (fun i hi => ?_))⟩
      · exact (fst_y (p := fun i => wAt T.1 q = vWs.getD i []) (by rw [vWs_s k (by omega)]; exact c) h3 8 (by omega)).symm
      · rcases Nat.lt_or_ge i k with z | z
        · exact h3 i z
        · rw [show i = k by omega, vWs_s k (by omega)]; exact c
  exact key 8 0 rfl (fun i hi => absurd hi (by omega))
end
