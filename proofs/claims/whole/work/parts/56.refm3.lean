/-! READING MARKS: the reference, a MARK -/
section
variable {G : GT} {d : Nat} {M M' : Mem} {m p s : Nat} {T : StT}
theorem nuF_flt {t : TpT} {p lo hi : Nat} : nuF t p lo hi = 0 ∨ (nuF t p lo hi = flt p 0 ∨ nuF t p lo hi = flt p 1) := by
  unfold nuF
  by_cases c : dl t p = 0
  · rw [cif_T c]; exact Or.inr (Or.inl rfl)
  · rw [cif_F c]
    by_cases c2 : 3 < dl t p ∨ nV t p < lo ∨ hi < nV t p
    · rw [cif_T c2]; exact Or.inr (Or.inr rfl)
    · rw [cif_F c2]; exact Or.inl rfl
theorem nuF_ok {t : TpT} {p lo hi : Nat} (h : nuF t p lo hi = 0) : lo ≤ nV t p ∧ nV t p ≤ hi ∧ 0 < dl t p ∧ dl t p ≤ 3 := by
  unfold nuF at h
  by_cases c : dl t p = 0
  · rw [cif_T c] at h; unfold flt at h; omega
  · rw [cif_F c] at h
    by_cases c2 : 3 < dl t p ∨ nV t p < lo ∨ hi < nV t p
    · rw [cif_T c2] at h; unfold flt at h; omega
    · omega
theorem nX_le {t : TpT} {p : Nat} (h : p ≤ t.1) : nX t p ≤ t.1 := dl_le h
theorem s_span {Q : Mem → Prop} (W : RX M m T) (s6 : s < 64) (ns : ¬ isM (sh T) s) (hp : vi M m 14 = nI p) (p4 : p ≤ T.1.1) (hf : vi M m 15 = nI 0)
    (hy : pSpF T.1 (sh T) (skB T.1 p) = 0 → ∀ M', FrS m s [8, 9, 11] M M' → vi M' (m + 8) s = nI (nV T.1 (skB T.1 p)) → vi M' (m + 9) s = nI (nV T.1 (q2 T.1 (skB T.1 p))) → vi M' (m + 11) s = nI (nV T.1 (q2 T.1 (skB T.1 p))) - nI (nV T.1 (skB T.1 p)) → vi M' m 14 = nI (nX T.1 (q2 T.1 (skB T.1 p))) → vi M' m 15 = nI 0 → Q M')
    (hn : ¬ pSpF T.1 (sh T) (skB T.1 p) = 0 → ∀ M', FrS m s [8, 9, 11] M M' → vi M' m 15 = nI (pSpF T.1 (sh T) (skB T.1 p)) → Q M') : CV G (d + 4) 193 [.ref m, .int (nI s)] M Q := by
  have t4 : T.1.1 ≤ 400 := W.t4
  have g2 := W.rs.2.1.g
  have sk := skB_le p4
  have lls : ∀ o, o ∈ [8, 9, 11] → o ∈ mkLs := by decide
  have v6 : vp_in (nI s) 64 := vp_in_nI s6 (by omega)
  refine r_span W.1 ⟨v03, ?_⟩
  rw [show (0 : Int32).toNatClampNeg = 0 from rfl, W.rs.2.2.g, nI_clamp (by omega)]
  have fin : ∀ (M3 : Mem) (f : Nat), FrS m s [8, 9, 11] M M3 → ¬ f = 0 → f = pSpF T.1 (sh T) (skB T.1 p) → vi M3 m 15 = nI f → ∀ M4, M4 = seti M3 (m + 11) s (vi M3 (m + 9) s - vi M3 (m + 8) s) → Q M4 := by
    intro M3 f fr f0 fe e3 M4 e4
    refine hn (by rw [← fe]; exact f0) M4 ?_ ?_
    · rw [e4]; exact fr.trans (FrS.si (by decide) (by decide))
    · rw [e4, vi_seti, if_neg (by omega), e3, fe]
  refine s_spot (lo := 0) W hp p4 hf (by omega) (by omega) (fun z M1 f1 h1 h2 => ?_) (fun z v M1 f1 h2 => ?_)
  · have ok := nuF_ok z
    refine ⟨f1.ra W.1, v6, ?_⟩
    intro M3 e3
    have fr3 : FrS m s [8, 9, 11] M M3 := (FrS.ofF f1 (by decide)).trans (by rw [e3]; exact FrS.si (by decide) (by decide))
    have W3 := W.slot fr3 ns lls
    have r8 : vi M3 (m + 8) s = nI (nV T.1 (skB T.1 p)) := by rw [e3, vi_seti, if_pos ⟨rfl, rfl⟩]
    have r14 : vi M3 m 14 = nI (nX T.1 (skB T.1 p)) := by rw [e3, vi_seti, if_neg (by omega)]; exact h1
    have r15 : vi M3 m 15 = nI 0 := by rw [e3, vi_seti, if_neg (by omega)]; exact h2
    have z15 : vi M3 m 15 = 0 := r15
    refine ⟨fun c => absurd z15 c, fun _ => ⟨v6, v03, ?_⟩⟩
    rw [r8, nI_1, W3.rs.2.2.g]
    have eS : pSpF T.1 (sh T) (skB T.1 p) = nuF T.1 (q2 T.1 (skB T.1 p)) (nV T.1 (skB T.1 p) + 1) (gN (sh T)) := by unfold pSpF; rw [cif_T z]; rfl
    refine s_spot W3 r14 (nX_le sk.2) r15 (by omega) (by omega) (fun z2 M5 f5 h5 h6 => ?_) (fun z2 v M5 f5 h6 => ?_)
    · refine ⟨f5.ra W3.1, v6, ?_⟩
      intro M7 e7
      refine ⟨v6, v6, v6, ?_⟩
      have r9 : vi M7 (m + 9) s = nI (nV T.1 (q2 T.1 (skB T.1 p))) := by rw [e7, vi_seti, if_pos ⟨rfl, rfl⟩]; rfl
      have r8' : vi M7 (m + 8) s = nI (nV T.1 (skB T.1 p)) := by rw [e7, vi_seti, if_neg (by omega), f5.i (by decide) (by decide)]; exact r8
      rw [r9, r8']
      intro M8 e8
      refine hy (by rw [eS]; exact z2) M8 ?_ ?_ ?_ ?_ ?_ ?_
      · refine fr3.trans ((FrS.ofF f5 (by decide)).trans (FrS.trans (M' := M7) ?_ ?_))
        · rw [e7]; exact FrS.si (by decide) (by decide)
        · rw [e8]; exact FrS.si (by decide) (by decide)
      · rw [e8, vi_seti, if_neg (by omega)]; exact r8'
      · rw [e8, vi_seti, if_neg (by omega)]; exact r9
      · rw [e8, vi_seti, if_pos ⟨rfl, rfl⟩]
      · rw [e8, vi_seti, if_neg (by omega), e7, vi_seti, if_neg (by omega)]; exact h5
      · rw [e8, vi_seti, if_neg (by omega), e7, vi_seti, if_neg (by omega)]; exact h6
    · refine ⟨f5.ra W3.1, v6, ?_⟩
      intro M7 e7
      refine ⟨v6, v6, v6, ?_⟩
      refine fin M7 _ (fr3.trans ((FrS.ofF f5 (by decide)).trans ?_)) z2 eS.symm ?_
      · rw [e7]; exact FrS.si (by decide) (by decide)
      · rw [e7, vi_seti, if_neg (by omega)]; exact h6
  · refine ⟨f1.ra W.1, v6, ?_⟩
    intro M3 e3
    have fr3 : FrS m s [8, 9, 11] M M3 := (FrS.ofF f1 (by decide)).trans (by rw [e3]; exact FrS.si (by decide) (by decide))
    have r15 : vi M3 m 15 = nI (nuF T.1 (skB T.1 p) 0 (gN (sh T))) := by rw [e3, vi_seti, if_neg (by omega)]; exact h2
    have b := nuF_flt (t := T.1) (p := skB T.1 p) (lo := 0) (hi := gN (sh T))
    have nz : ¬ vi M3 m 15 = 0 := by
      rw [r15]
      unfold flt at b
      exact nI_ne0 (by omega) (by omega)
    refine ⟨fun _ => ⟨v6, v6, v6, fin M3 _ fr3 z ?_ r15⟩, fun c => absurd c nz⟩
    unfold pSpF
    rw [cif_F z]
/-- the slot holds a MARK -/
def slM (M : Mem) (m s : Nat) (x : MkT) : Prop := vi M (m + 7) s = kK x ∧ vi M (m + 8) s = kF x ∧ vi M (m + 9) s = kS x ∧ vi M (m + 10) s = kT x ∧ vi M (m + 11) s = kL x ∧ txS M m s (kX x)
theorem s_readsMark {k : Nat} {Q : Mem → Prop} (W : RX M m T) (s6 : s < 64) (ns : ¬ isM (sh T) s) (k8 : k < 8) (hp : vi M m 14 = nI p) (p4 : p ≤ T.1.1) (hf : vi M m 15 = nI 0)
    (hy : (pM T.1 (sh T) k (skB T.1 p)).1 = 0 → ∀ M', FrS m s mkLs M M' → slM M' m s (pM T.1 (sh T) k (skB T.1 p)).2.1 → vi M' m 14 = nI (pM T.1 (sh T) k (skB T.1 p)).2.2 → vi M' m 15 = nI 0 → Q M')
    (hn : ¬ (pM T.1 (sh T) k (skB T.1 p)).1 = 0 → ∀ M', FrS m s mkLs M M' → vi M' m 15 = nI (pM T.1 (sh T) k (skB T.1 p)).1 → Q M') : CV G (d + 5) 194 [.ref m, .int (nI s), .int (nI k)] M Q := by
  have t4 : T.1.1 ≤ 400 := W.t4
  have g2 := W.rs.2.1.g
  have sk := skB_le p4
  have v6 : vp_in (nI s) 64 := vp_in_nI s6 (by omega)
  refine r_readsMark W.1 ⟨v6, ?_⟩
  rw [nI_clamp (by omega), show (0 : Int32).toNatClampNeg = 0 from rfl]
  intro M1 e1
  refine ⟨v6, ?_⟩
  intro M2 e2
  refine ⟨v6, ?_⟩
  intro M3 e3
  refine ⟨v03, ?_⟩
  have fr3 : FrS m s mkLs M M3 := by
    rw [e3, e2, e1]
    exact ((FrS.si (o := 7) (by decide) (by decide)).trans (FrS.si (o := 9) (by decide) (by decide))).trans (FrS.si (o := 10) (by decide) (by decide))
  have W3 := W.slot fr3 ns (fun _ h => h)
  have a7 : vi M3 (m + 7) s = nI k := by rw [e3, vi_seti, if_neg (by omega), e2, vi_seti, if_neg (by omega), e1, vi_seti, if_pos ⟨rfl, rfl⟩]
  have a9 : vi M3 (m + 9) s = -1 := by rw [e3, vi_seti, if_neg (by omega), e2, vi_seti, if_pos ⟨rfl, rfl⟩]
  have a10 : vi M3 (m + 10) s = -1 := by rw [e3, vi_seti, if_pos ⟨rfl, rfl⟩]
  have a14 : vi M3 m 14 = nI p := by rw [e3, vi_seti, if_neg (by omega), e2, vi_seti, if_neg (by omega), e1, vi_seti, if_neg (by omega)]; exact hp
  have a15 : vi M3 m 15 = nI 0 := by rw [e3, vi_seti, if_neg (by omega), e2, vi_seti, if_neg (by omega), e1, vi_seti, if_neg (by omega)]; exact hf
  generalize hq0 : skB T.1 p = q at *
  have nl : ∀ {f : Nat}, ¬ f = 0 → f < 100000 → ¬ nI f = 0 := fun h1 h2 => nI_ne0 (by omega) (by omega)
  have nb : ∀ {q lo hi : Nat}, q ≤ 400 → nuF T.1 q lo hi < 100000 := fun {q lo hi} hq => by
    have b := nuF_flt (t := T.1) (p := q) (lo := lo) (hi := hi)
    unfold flt at b
    omega
  have sq2 : q2 T.1 q ≤ T.1.1 := (skB_le (nX_le sk.2)).2
  have sq3 : q3 T.1 q ≤ T.1.1 := (skB_le (nX_le sq2)).2
  rw [W3.rs.2.2.g, il_0, eq_I (by omega) (by omega), show (6 : Int32) = nI 6 from rfl, le_I (by omega) (by omega), eq_I (by omega) (by omega), show (4 : Int32) = nI 4 from rfl, eq_I (by omega) (by omega)]
  -- a fault
  have bad : ∀ (Mx : Mem) (f : Nat), FrS m s mkLs M Mx → (pM T.1 (sh T) k q).1 = f → ¬ f = 0 → vi Mx m 15 = nI f → Q Mx := fun Mx f fr ef f0 e => hn (by rw [ef]; exact f0) Mx fr (by rw [ef]; exact e)
  have e285 : ∀ (Mx : Mem), RefAt Mx m → Q Mx → At G (d + 5) 194 285 [] [] Mx (qV Q) := fun Mx R h => r_readsMark_285 R h
  refine ⟨fun k0 => ⟨fun k6 => ⟨fun n6 => ?_, fun e6 => ?_⟩, fun k6 => ?_⟩, fun k0 => ?_⟩
  · -- close
    have k7 : k = 7 := by omega
    have pe : pM T.1 (sh T) k q = pClo T.1 (sh T) q := by unfold pM; rw [cif_F k0, cif_T k7]
    refine ⟨v6, ?_⟩
    intro M4 e4
    have fr4 : FrS m s mkLs M M4 := fr3.trans (by rw [e4]; exact FrS.si (by decide) (by decide))
    have W4 := W.slot fr4 ns (fun _ h => h)
    have b14 : vi M4 m 14 = nI p := by rw [e4, vi_seti, if_neg (by omega)]; exact a14
    have b15 : vi M4 m 15 = nI 0 := by rw [e4, vi_seti, if_neg (by omega)]; exact a15
    refine s_blanks W4 b14 (by omega) (fun M5 f5 h5 => ⟨f5.ra W4.1, ?_⟩)
    rw [hq0] at h5
    have W5 := W4.fr f5 (fun o ho => by simp <;> omega) (by decide)
    have c15 : vi M5 m 15 = nI 0 := by rw [f5.f (by decide) (by decide)]; exact b15
    have sid : skB T.1 q = q := by rw [← hq0]; exact skB_id _ _
    have fr5 : FrS m s mkLs M M5 := fr4.trans (FrS.ofF (f5.sub (by decide) (by decide)) (by decide))
    -- the end of it
    have e264 : ∀ (Mx : Mem) (v : Nat), v < 1000 → FrS m s mkLs M Mx → vi Mx (m + 8) s = nI v → (∀ M28, FrS m s mkLs M M28 → vi M28 m 14 = vi Mx m 14 → vi M28 m 15 = vi Mx m 15 → (∀ o, o ≠ 9 → o ≠ 11 → 0 < o → vi M28 (m + o) s = vi Mx (m + o) s) → vi M28 (m + 9) s = nI (v + 1) → vi M28 (m + 11) s = 1 → Q M28) → At G (d + 5) 194 264 [(0, .ref m), (1, .int (nI s))] [] Mx (qV Q) := by
      intro Mx v v4 fr r8 hq
      refine r_readsMark_264 (fr.1.ra W.1) ⟨v6, v6, ?_⟩
      rw [nI_clamp (by omega), r8, nI_1]
      intro M27 e27
      refine ⟨v6, ?_⟩
      intro M28 e28
      refine e285 M28 ?_ (hq M28 ?_ ?_ ?_ (fun o h1 h2 h3 => ?_) ?_ ?_)
      · rw [e28, e27]; exact (fr.1.ra W.1)
      · refine fr.trans (FrS.trans (M' := M27) ?_ ?_)
        · rw [e27]; exact FrS.si (by decide) (by decide)
        · rw [e28]; exact FrS.si (by decide) (by decide)
      · rw [e28, vi_seti, if_neg (by omega), e27, vi_seti, if_neg (by omega)]
      · rw [e28, vi_seti, if_neg (by omega), e27, vi_seti, if_neg (by omega)]
      · rw [e28, vi_seti, if_neg (by omega), e27, vi_seti, if_neg (by omega)]
      · rw [e28, vi_seti, if_neg (by omega), e27, vi_seti, if_pos ⟨rfl, rfl⟩]
      · rw [e28, vi_seti, if_pos ⟨rfl, rfl⟩]
    refine s_spot (lo := 0) W5 h5 sk.2 c15 (by omega) (by omega) ?_ ?_
    · rw [sid]
      intro z M6 f6 h6 h7
      have ok := nuF_ok z
      refine ⟨f6.ra W5.1, v6, ?_⟩
      intro M8 e8
      have fr8 : FrS m s mkLs M M8 := fr5.trans ((FrS.ofF f6 (by decide)).trans (by rw [e8]; exact FrS.si (by decide) (by decide)))
      have W8 := W.slot fr8 ns (fun _ h => h)
      have r8 : vi M8 (m + 8) s = nI (nV T.1 q) := by rw [e8, vi_seti, if_pos ⟨rfl, rfl⟩]
      have r15 : vi M8 m 15 = nI 0 := by rw [e8, vi_seti, if_neg (by omega)]; exact h7
      have z15 : vi M8 m 15 = 0 := r15
      have e257 : (nV T.1 q = gN (sh T) ∨ ¬ gB (sh T) (nV T.1 q) = 32) → At G (d + 5) 194 257 [(0, .ref m), (1, .int (nI s)), (4, .int (nI q))] [] M8 (qV Q) := fun y => by
        have ef : (pM T.1 (sh T) k q).1 = flt q 1 := by rw [pe]; unfold pClo; rw [cif_T z, cif_T y]; rfl
        refine r_readsMark_257 W8.1 (s_fails (c := 1) W8.1 r15 (by omega) (by omega) (by omega) (fun M9 f9 h9 => ⟨f9.ra W8.1, ?_⟩))
        refine e264 M9 (nV T.1 q) (by omega) (fr8.trans (FrS.ofF (f9.sub (by decide) (by decide)) (by decide))) (by rw [f9.i (by decide) (by decide)]; exact r8) (fun M28 fr28 x14 x15 xo x9 x11 => ?_)
        refine bad M28 (flt q 1) fr28 ef (by unfold flt; omega) ?_
        rw [x15, h9, if_pos rfl]
      refine ⟨fun c => absurd z15 c, fun _ => ⟨v6, ?_⟩⟩
      rw [r8, h5, eq_I (by omega) (by omega)]
      refine ⟨fun c => e257 (Or.inl c), fun c => ⟨v6, ?_⟩⟩
      have vg : nV T.1 q < gN (sh T) := by omega
      rw [nI_clamp (by omega), W8.rs.2.2.gb vg]
      refine ⟨vp_in_nI (by omega) (by omega), fun c32 => ?_, fun c32 => e257 (Or.inr c32)⟩
      have pr : pM T.1 (sh T) k q = (0, (1, nI (nV T.1 q), nI (nV T.1 q + 1), -1, []), nX T.1 q) := by
        rw [pe]; unfold pClo; rw [cif_T z, cif_F (fun y => y.elim c (fun y => y c32))]
      refine e264 M8 (nV T.1 q) (by omega) fr8 r8 (fun M28 fr28 x14 x15 xo x9 x11 => ?_)
      refine hy (by rw [pr]) M28 fr28 ?_ ?_ (by rw [x15]; exact r15)
      · rw [pr]
        refine ⟨?_, ?_, ?_, ?_, ?_, fun i hi => absurd hi (by simp [kX])⟩
        · rw [xo 7 (by decide) (by decide) (by decide), e8, vi_seti, if_neg (by omega), f6.i (by decide) (by decide), f5.i (by decide) (by decide), e4, vi_seti, if_pos ⟨rfl, rfl⟩]; rfl
        · rw [xo 8 (by decide) (by decide) (by decide), r8]; rfl
        · rw [x9]; rfl
        · rw [xo 10 (by decide) (by decide) (by decide), e8, vi_seti, if_neg (by omega), f6.i (by decide) (by decide), f5.i (by decide) (by decide), e4, vi_seti, if_neg (by omega)]; exact a10
        · rw [x11]
          show (1 : Int32) = if (1 : Int32) = 0 then _ else nI (nV T.1 q + 1) - nI (nV T.1 q)
          rw [if_neg (by decide), pk_sub (by omega), show nV T.1 q + 1 - nV T.1 q = 1 by omega]; rfl
      · rw [x14, pr, e8, vi_seti, if_neg (by omega)]; exact h6
    · rw [sid]
      intro z v M6 f6 h7
      refine ⟨f6.ra W5.1, v6, ?_⟩
      intro M8 e8
      have fr8 : FrS m s mkLs M M8 := fr5.trans ((FrS.ofF f6 (by decide)).trans (by rw [e8]; exact FrS.si (by decide) (by decide)))
      have r15 : vi M8 m 15 = nI (nuF T.1 q 0 (gN (sh T))) := by rw [e8, vi_seti, if_neg (by omega)]; exact h7
      have nz : ¬ vi M8 m 15 = 0 := by rw [r15]; exact nl z (nb (by omega))
      refine ⟨fun _ => ?_, fun c => absurd c nz⟩
      refine r_readsMark_264 (fr8.1.ra W.1) ⟨v6, v6, ?_⟩
      rw [nI_clamp (by omega)]
      intro M27 e27
      refine ⟨v6, ?_⟩
      intro M28 e28
      refine e285 M28 (by rw [e28, e27]; exact (fr8.1.ra W.1)) (bad M28 (nuF T.1 q 0 (gN (sh T))) ?_ ?_ z ?_)
      · refine fr8.trans (FrS.trans (M' := M27) ?_ ?_)
        · rw [e27]; exact FrS.si (by decide) (by decide)
        · rw [e28]; exact FrS.si (by decide) (by decide)
      · rw [pe]; unfold pClo; rw [cif_F z]; rfl
      · rw [e28, vi_seti, if_neg (by omega), e27, vi_seti, if_neg (by omega)]; exact r15
  · -- swap
    refine ⟨v6, ?_⟩
    intro M9 e9
    have fr9 : FrS m s mkLs M M9 := fr3.trans (by rw [e9]; exact FrS.si (by decide) (by decide))
    have W9 := W.slot fr9 ns (fun _ h => h)
    have b14 : vi M9 m 14 = nI p := by rw [e9, vi_seti, if_neg (by omega)]; exact a14
    have b15 : vi M9 m 15 = nI 0 := by rw [e9, vi_seti, if_neg (by omega)]; exact a15
    have p0 : pM T.1 (sh T) k q = cif (pSpF T.1 (sh T) q = 0) (cif (nuF T.1 (q3 T.1 q) (nV T.1 (q2 T.1 q) + 1) (gN (sh T)) = 0) (0, (4, nI (nV T.1 q), nI (nV T.1 (q2 T.1 q)), nI (nV T.1 (q3 T.1 q)), []), nX T.1 (q3 T.1 q)) (rdF (nuF T.1 (q3 T.1 q) (nV T.1 (q2 T.1 q) + 1) (gN (sh T))))) (rdF (pSpF T.1 (sh T) q)) := by
      unfold pM; rw [cif_F k0, cif_F (show ¬ k = 7 by omega), cif_F (show ¬ k = 4 by omega), cif_T e6]
    refine s_span W9 s6 ns b14 p4 b15 ?_ ?_
    · rw [hq0]
      intro z M10 f10 x8 x9 x11 x14 x15
      have fr10 : FrS m s mkLs M M10 := fr9.trans (f10.sub (by decide) (by decide))
      have W10 := W.slot fr10 ns (fun _ h => h)
      have z15 : vi M10 m 15 = 0 := x15
      refine ⟨W10.1, fun c => absurd z15 c, fun _ => ⟨v6, ?_⟩⟩
      have b2 : nV T.1 (q2 T.1 q) ≤ 200 := by
        have y : nuF T.1 (q2 T.1 q) (nV T.1 q + 1) (gN (sh T)) = 0 := by
          unfold pSpF at z
          by_cases u : nuF T.1 q 0 (gN (sh T)) = 0
          · rw [cif_T u] at z; exact z
          · rw [cif_F u] at z; exact absurd z u
        have := nuF_ok y
        omega
      rw [x9, nI_1]
      refine s_spot W10 x14 (nX_le sq2) x15 (by omega) (by omega) (fun z3 M11 f11 h11 h12 => ?_) (fun z3 v M11 f11 h12 => ?_)
      · have z3 : nuF T.1 (q3 T.1 q) (nV T.1 (q2 T.1 q) + 1) (gN (sh T)) = 0 := z3
        refine ⟨f11.ra W10.1, v6, ?_⟩
        intro M13 e13
        have fr13 : FrS m s mkLs M M13 := fr10.trans ((FrS.ofF f11 (by decide)).trans (by rw [e13]; exact FrS.si (by decide) (by decide)))
        have pr : pM T.1 (sh T) k q = (0, (4, nI (nV T.1 q), nI (nV T.1 (q2 T.1 q)), nI (nV T.1 (q3 T.1 q)), []), nX T.1 (q3 T.1 q)) := by rw [p0, cif_T z, cif_T z3]
        refine e285 M13 (fr13.1.ra W.1) (hy (by rw [pr]) M13 fr13 ?_ ?_ ?_)
        · rw [pr]
          refine ⟨?_, ?_, ?_, ?_, ?_, fun i hi => absurd hi (by simp [kX])⟩
          · rw [e13, vi_seti, if_neg (by omega), f11.i (by decide) (by decide), f10.1.i (by decide) (by decide), e9, vi_seti, if_pos ⟨rfl, rfl⟩]; rfl
          · rw [e13, vi_seti, if_neg (by omega), f11.i (by decide) (by decide), x8]; rfl
          · rw [e13, vi_seti, if_neg (by omega), f11.i (by decide) (by decide), x9]; rfl
          · rw [e13, vi_seti, if_pos ⟨rfl, rfl⟩]; rfl
          · rw [e13, vi_seti, if_neg (by omega), f11.i (by decide) (by decide), x11]
            show _ = if (4 : Int32) = 0 then _ else _
            rw [if_neg (by decide)]; rfl
        · rw [pr, e13, vi_seti, if_neg (by omega)]; exact h11
        · rw [e13, vi_seti, if_neg (by omega)]; exact h12
      · have z3 : ¬ nuF T.1 (q3 T.1 q) (nV T.1 (q2 T.1 q) + 1) (gN (sh T)) = 0 := z3
        refine ⟨f11.ra W10.1, v6, ?_⟩
        intro M13 e13
        have fr13 : FrS m s mkLs M M13 := fr10.trans ((FrS.ofF f11 (by decide)).trans (by rw [e13]; exact FrS.si (by decide) (by decide)))
        refine e285 M13 (fr13.1.ra W.1) (bad M13 _ fr13 ?_ z3 ?_)
        · rw [p0, cif_T z, cif_F z3]; rfl
        · rw [e13, vi_seti, if_neg (by omega)]; exact h12
    · rw [hq0]
      intro z M10 f10 x15
      have fr10 : FrS m s mkLs M M10 := fr9.trans (f10.sub (by decide) (by decide))
      have b : pSpF T.1 (sh T) q < 100000 := by
        unfold pSpF
        by_cases u : nuF T.1 q 0 (gN (sh T)) = 0
        · rw [cif_T u]; exact nb (by have : skB T.1 (nX T.1 q) ≤ T.1.1 := sq2; omega)
        · rw [cif_F u]; exact nb (by omega)
      have nz : ¬ vi M10 m 15 = 0 := by rw [x15]; exact nl z b
      refine ⟨fr10.1.ra W.1, fun _ => e285 M10 (fr10.1.ra W.1) (bad M10 _ fr10 ?_ z x15), fun c => absurd c nz⟩
      rw [p0, cif_F z]; rfl
  · -- two places, three of a move
    have p0 : pM T.1 (sh T) k q = cif (pSpF T.1 (sh T) q = 0) (cif (k = 4) (cif (nuF T.1 (q3 T.1 q) 0 (gN (sh T)) = 0) (cif (nV T.1 q ≤ nV T.1 (q3 T.1 q) ∧ nV T.1 (q3 T.1 q) ≤ nV T.1 (q2 T.1 q)) (rdF (flt (q3 T.1 q) 1)) (0, (4, nI (nV T.1 q), nI (nV T.1 (q2 T.1 q)), nI (nV T.1 (q3 T.1 q)), []), nX T.1 (q3 T.1 q))) (rdF (nuF T.1 (q3 T.1 q) 0 (gN (sh T))))) (0, (nI k, nI (nV T.1 q), nI (nV T.1 (q2 T.1 q)), -1, []), nX T.1 (q2 T.1 q))) (rdF (pSpF T.1 (sh T) q)) := by
      unfold pM; rw [cif_F k0, cif_F (by omega), cif_F (show ¬ k = 6 by omega)]
    have kz : ¬ nI k = 0 := nI_ne0 (by omega) (by omega)
    refine s_span W3 s6 ns a14 p4 a15 ?_ ?_
    · rw [hq0]
      intro z M14 f14 x8 x9 x11 x14 x15
      have fr14 : FrS m s mkLs M M14 := fr3.trans (f14.sub (by decide) (by decide))
      have W14 := W.slot fr14 ns (fun _ h => h)
      have z15 : vi M14 m 15 = 0 := x15
      have y7 : vi M14 (m + 7) s = nI k := by rw [f14.1.i (by decide) (by decide)]; exact a7
      have y10 : vi M14 (m + 10) s = -1 := by rw [f14.1.i (by decide) (by decide)]; exact a10
      refine ⟨W14.1, fun k4 => ?_, fun k4 => ⟨fun c => absurd z15 c, fun _ => ?_⟩⟩
      · have pr : pM T.1 (sh T) k q = (0, (nI k, nI (nV T.1 q), nI (nV T.1 (q2 T.1 q)), -1, []), nX T.1 (q2 T.1 q)) := by rw [p0, cif_T z, cif_F k4]
        refine e285 M14 W14.1 (hy (by rw [pr]) M14 fr14 ?_ (by rw [pr]; exact x14) x15)
        rw [pr]
        refine ⟨y7, x8, x9, y10, ?_, fun i hi => absurd hi (by simp [kX])⟩
        rw [x11]
        show _ = if nI k = 0 then _ else _
        rw [if_neg kz]; rfl
      · have y : nuF T.1 (q2 T.1 q) (nV T.1 q + 1) (gN (sh T)) = 0 := by
          unfold pSpF at z
          by_cases u : nuF T.1 q 0 (gN (sh T)) = 0
          · rw [cif_T u] at z; exact z
          · rw [cif_F u] at z; exact absurd z u
        have ok2 := nuF_ok y
        refine s_blanks W14 x14 (by have := nX_le sq2; omega) (fun M15 f15 h15 => ⟨f15.ra W14.1, ?_⟩)
        have h15 : vi M15 m 14 = nI (q3 T.1 q) := h15
        have W15 := W14.fr f15 (fun o ho => by simp <;> omega) (by decide)
        have c15 : vi M15 m 15 = nI 0 := by rw [f15.f (by decide) (by decide)]; exact x15
        have fr15 : FrS m s mkLs M M15 := fr14.trans (FrS.ofF (f15.sub (by decide) (by decide)) (by decide))
        have sid : skB T.1 (q3 T.1 q) = q3 T.1 q := skB_id _ _
        refine s_spot (lo := 0) W15 h15 sq3 c15 (by omega) (by omega) ?_ ?_
        · rw [sid]
          intro z3 M16 f16 h16 h17
          have ok3 := nuF_ok z3
          refine ⟨f16.ra W15.1, v6, ?_⟩
          intro M18 e18
          have fr18 : FrS m s mkLs M M18 := fr15.trans ((FrS.ofF f16 (by decide)).trans (by rw [e18]; exact FrS.si (by decide) (by decide)))
          have W18 := W.slot fr18 ns (fun _ h => h)
          have r15 : vi M18 m 15 = nI 0 := by rw [e18, vi_seti, if_neg (by omega)]; exact h17
          have z18 : vi M18 m 15 = 0 := r15
          have r7 : vi M18 (m + 7) s = nI k := by rw [e18, vi_seti, if_neg (by omega), f16.i (by decide) (by decide), f15.i (by decide) (by decide)]; exact y7
          have r8 : vi M18 (m + 8) s = nI (nV T.1 q) := by rw [e18, vi_seti, if_neg (by omega), f16.i (by decide) (by decide), f15.i (by decide) (by decide)]; exact x8
          have r9 : vi M18 (m + 9) s = nI (nV T.1 (q2 T.1 q)) := by rw [e18, vi_seti, if_neg (by omega), f16.i (by decide) (by decide), f15.i (by decide) (by decide)]; exact x9
          have r10 : vi M18 (m + 10) s = nI (nV T.1 (q3 T.1 q)) := by rw [e18, vi_seti, if_pos ⟨rfl, rfl⟩]
          have r11 : vi M18 (m + 11) s = nI (nV T.1 (q2 T.1 q)) - nI (nV T.1 q) := by rw [e18, vi_seti, if_neg (by omega), f16.i (by decide) (by decide), f15.i (by decide) (by decide)]; exact x11
          refine ⟨fun c => absurd z18 c, fun _ => ⟨v6, v6, v6, ?_⟩⟩
          rw [r8, r9, r10, h15]
          refine s_in (nV T.1 q ≤ nV T.1 (q3 T.1 q) ∧ nV T.1 (q3 T.1 q) ≤ nV T.1 (q2 T.1 q)) ?_ ⟨W18.1, bz (fun c => ?_) (fun c => r_readsMark_145 W18.1 ?_)⟩
          · rw [Int32.toInt_toInt64, Int32.toInt_toInt64, Int32.toInt_toInt64, nI_toIntN (by omega), nI_toIntN (by omega), nI_toIntN (by omega)]
            omega
          · refine s_fails (c := 1) W18.1 r15 (by omega) (by omega) (by omega) (fun M21 f21 h21 => ⟨f21.ra W18.1, r_readsMark_145 (f21.ra W18.1) (e285 M21 (f21.ra W18.1) (bad M21 (flt (q3 T.1 q) 1) (fr18.trans (FrS.ofF (f21.sub (by decide) (by decide)) (by decide))) ?_ (by unfold flt; omega) ?_))⟩)
            · rw [p0, cif_T z, cif_T k4, cif_T z3, cif_T c]; rfl
            · rw [h21, if_pos rfl]
          · have pr : pM T.1 (sh T) k q = (0, (4, nI (nV T.1 q), nI (nV T.1 (q2 T.1 q)), nI (nV T.1 (q3 T.1 q)), []), nX T.1 (q3 T.1 q)) := by rw [p0, cif_T z, cif_T k4, cif_T z3, cif_F c]
            refine e285 M18 W18.1 (hy (by rw [pr]) M18 fr18 ?_ ?_ r15)
            · rw [pr]
              refine ⟨by rw [r7, k4]; rfl, r8, r9, r10, ?_, fun i hi => absurd hi (by simp [kX])⟩
              rw [r11]
              show _ = if (4 : Int32) = 0 then _ else _
              rw [if_neg (by decide)]; rfl
            · rw [pr, e18, vi_seti, if_neg (by omega)]; exact h16
        · rw [sid]
          intro z3 v M16 f16 h17
          refine ⟨f16.ra W15.1, v6, ?_⟩
          intro M18 e18
          have fr18 : FrS m s mkLs M M18 := fr15.trans ((FrS.ofF f16 (by decide)).trans (by rw [e18]; exact FrS.si (by decide) (by decide)))
          have r15 : vi M18 m 15 = nI (nuF T.1 (q3 T.1 q) 0 (gN (sh T))) := by rw [e18, vi_seti, if_neg (by omega)]; exact h17
          have nz : ¬ vi M18 m 15 = 0 := by rw [r15]; exact nl z3 (nb (by omega))
          refine ⟨fun _ => r_readsMark_145 (fr18.1.ra W.1) (e285 M18 (fr18.1.ra W.1) (bad M18 _ fr18 ?_ z3 r15)), fun c => absurd c nz⟩
          rw [p0, cif_T z, cif_T k4, cif_F z3]; rfl
    · rw [hq0]
      intro z M14 f14 x15
      have fr14 : FrS m s mkLs M M14 := fr3.trans (f14.sub (by decide) (by decide))
      have b : pSpF T.1 (sh T) q < 100000 := by
        unfold pSpF
        by_cases u : nuF T.1 q 0 (gN (sh T)) = 0
        · rw [cif_T u]; exact nb (by have : skB T.1 (nX T.1 q) ≤ T.1.1 := sq2; omega)
        · rw [cif_F u]; exact nb (by omega)
      have nz : ¬ vi M14 m 15 = 0 := by rw [x15]; exact nl z b
      have fi : Q M14 := bad M14 _ fr14 (by rw [p0, cif_F z]; rfl) z x15
      exact ⟨fr14.1.ra W.1, fun _ => e285 M14 (fr14.1.ra W.1) fi, fun _ => ⟨fun _ => e285 M14 (fr14.1.ra W.1) fi, fun c => absurd c nz⟩⟩
  · -- ins
    have pe : pM T.1 (sh T) k q = pIns T.1 (sh T) q := by unfold pM; rw [cif_T k0]
    refine s_spot (lo := 0) W3 a14 p4 a15 (by omega) (by omega) ?_ ?_
    · rw [hq0]
      intro z M22 f22 h22 h23
      have ok := nuF_ok z
      refine ⟨f22.ra W3.1, v6, ?_⟩
      intro M24 e24
      have fr24 : FrS m s mkLs M M24 := fr3.trans ((FrS.ofF f22 (by decide)).trans (by rw [e24]; exact FrS.si (by decide) (by decide)))
      have W24 := W.slot fr24 ns (fun _ h => h)
      have r14 : vi M24 m 14 = nI (nX T.1 q) := by rw [e24, vi_seti, if_neg (by omega)]; exact h22
      have r15 : vi M24 m 15 = nI 0 := by rw [e24, vi_seti, if_neg (by omega)]; exact h23
      have z15 : vi M24 m 15 = 0 := r15
      refine ⟨fun c => absurd z15 c, fun _ => ?_⟩
      refine s_readsText W24 s6 ns r14 (nX_le sk.2) r15 (fun yq tx nx M25 ep f25 x12 x11 x14 x15 => ?_) (fun f M25 f0 ef f25 x15 => ?_)
      · have fr25 : FrS m s mkLs M M25 := fr24.trans (f25.sub (by decide) (by decide))
        have pr : pM T.1 (sh T) k q = (0, (0, nI (nV T.1 q), -1, -1, tx), nx) := by
          rw [pe]; unfold pIns; rw [cif_T z, cif_T yq, ep, cif_T rfl]
        refine ⟨fr25.1.ra W.1, e285 M25 (fr25.1.ra W.1) (hy (by rw [pr]) M25 fr25 ?_ (by rw [pr]; exact x14) x15)⟩
        rw [pr]
        refine ⟨?_, ?_, ?_, ?_, ?_, x12⟩
        · rw [f25.1.i (by decide) (by decide), e24, vi_seti, if_neg (by omega), f22.i (by decide) (by decide), a7, k0]; rfl
        · rw [f25.1.i (by decide) (by decide), e24, vi_seti, if_pos ⟨rfl, rfl⟩]; rfl
        · rw [f25.1.i (by decide) (by decide), e24, vi_seti, if_neg (by omega), f22.i (by decide) (by decide)]; exact a9
        · rw [f25.1.i (by decide) (by decide), e24, vi_seti, if_neg (by omega), f22.i (by decide) (by decide)]; exact a10
        · rw [x11]
          show _ = if (0 : Int32) = 0 then nI tx.length else _
          rw [if_pos rfl]
      · have fr25 : FrS m s mkLs M M25 := fr24.trans (f25.sub (by decide) (by decide))
        refine ⟨fr25.1.ra W.1, e285 M25 (fr25.1.ra W.1) (bad M25 f fr25 ?_ f0 x15)⟩
        rw [pe]; unfold pIns; rw [cif_T z]
        rcases ef with ⟨e1, e2⟩ | ⟨e1, e2⟩
        · rw [cif_F e1, e2]; rfl
        · rw [cif_T e1, cif_F (by rw [e2]; exact f0), e2]; rfl
    · rw [hq0]
      intro z v M22 f22 h23
      refine ⟨f22.ra W3.1, v6, ?_⟩
      intro M24 e24
      have fr24 : FrS m s mkLs M M24 := fr3.trans ((FrS.ofF f22 (by decide)).trans (by rw [e24]; exact FrS.si (by decide) (by decide)))
      have r15 : vi M24 m 15 = nI (nuF T.1 q 0 (gN (sh T))) := by rw [e24, vi_seti, if_neg (by omega)]; exact h23
      have nz : ¬ vi M24 m 15 = 0 := by rw [r15]; exact nl z (nb (by omega))
      refine ⟨fun _ => e285 M24 (fr24.1.ra W.1) (bad M24 _ fr24 ?_ z r15), fun c => absurd c nz⟩
      rw [pe]; unfold pIns; rw [cif_F z]; rfl
end
