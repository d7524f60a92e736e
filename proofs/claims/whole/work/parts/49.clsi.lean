/-! IMAGES: the class -/
section
variable {G : GT} {d : Nat} {w : Nat → Nat} {M M' : Mem} {x c : Nat} {T : StT}
theorem vi_cpi (M : Mem) (a sp b dp n e : Nat) : vi (cpi M a sp b dp n) e = if e = b then va_cpy (vi M a) (vi M b) sp dp n else vi M e := rfl
theorem vl_cpl (M : Mem) (a sp b dp n e : Nat) : vl (cpl M a sp b dp n) e = if e = b then va_cpy (vl M a) (vl M b) sp dp n else vl M e := rfl
theorem vr_cpr (M : Mem) (a sp b dp n e : Nat) : vr (cpr M a sp b dp n) e = if e = b then va_cpy (vr M a) (vr M b) sp dp n else vr M e := rfl
/-- one array of a sheet is copied -/
theorem cp_i {a b n : Nat} {z1 z2 z3 : Int32} (e1 : z1.toNatClampNeg = 0) (e2 : z2.toNatClampNeg = 0) (e3 : z3.toNatClampNeg = n) (hM : M' = cpi M a z1.toNatClampNeg b z2.toNatClampNeg z3.toNatClampNeg) : (∀ e, e ≠ b → same M M' e) ∧ (∀ k, k < n → vi M' b k = vi M a k) ∧ vr M' = vr M ∧ vl M' = vl M ∧ mK M' = mK M ∧ mA M' = mA M ∧ mN M' = mN M ∧ mS M' = mS M := by
  rw [e1, e2, e3] at hM
  subst hM
  refine ⟨fun e he => ⟨by rw [vi_cpi, if_neg he], rfl, rfl⟩, fun k hk => ?_, rfl, rfl, rfl, rfl, rfl, rfl⟩
  rw [vi_cpi, if_pos rfl, pk_cpy_in (by omega) (by omega)]
  congr 1; omega
theorem cp_l {a b n : Nat} {z1 z2 z3 : Int32} (e1 : z1.toNatClampNeg = 0) (e2 : z2.toNatClampNeg = 0) (e3 : z3.toNatClampNeg = n) (hM : M' = cpl M a z1.toNatClampNeg b z2.toNatClampNeg z3.toNatClampNeg) : (∀ e, e ≠ b → same M M' e) ∧ (∀ k, k < n → vl M' b k = vl M a k) ∧ vr M' = vr M ∧ vi M' = vi M ∧ mK M' = mK M ∧ mA M' = mA M ∧ mN M' = mN M ∧ mS M' = mS M := by
  rw [e1, e2, e3] at hM
  subst hM
  refine ⟨fun e he => ⟨rfl, by rw [vl_cpl, if_neg he], rfl⟩, fun k hk => ?_, rfl, rfl, rfl, rfl, rfl, rfl⟩
  rw [vl_cpl, if_pos rfl, pk_cpy_in (by omega) (by omega)]
  congr 1; omega
theorem cp_r {a b n : Nat} {z1 z2 z3 : Int32} (e1 : z1.toNatClampNeg = 0) (e2 : z2.toNatClampNeg = 0) (e3 : z3.toNatClampNeg = n) (hM : M' = cpr M a z1.toNatClampNeg b z2.toNatClampNeg z3.toNatClampNeg) : (∀ e, e ≠ b → same M M' e) ∧ (∀ k, k < n → vr M' b k = vr M a k) ∧ vi M' = vi M ∧ vl M' = vl M ∧ mK M' = mK M ∧ mA M' = mA M ∧ mN M' = mN M ∧ mS M' = mS M := by
  rw [e1, e2, e3] at hM
  subst hM
  refine ⟨fun e he => ⟨rfl, rfl, by rw [vr_cpr, if_neg he]⟩, fun k hk => ?_, rfl, rfl, rfl, rfl, rfl, rfl⟩
  rw [vr_cpr, if_pos rfl, pk_cpy_in (by omega) (by omega)]
  congr 1; omega
/-- what is copied, sheet a to sheet o -/
def cpd (o a : Nat) (M M' : Mem) : Prop :=
  (vi M' o 1 = vi M a 1 ∧ vi M' o 3 = vi M a 3 ∧ vi M' o 6 = vi M a 6) ∧ (∀ k, k < 200 → vi M' (o + 1) k = vi M (a + 1) k) ∧ (∀ k, k < 200 → vi M' (o + 2) k = vi M (a + 2) k) ∧ (∀ k, k < 4 → vi M' (o + 3) k = vi M (a + 3) k) ∧ (∀ k, k < 4 → vi M' (o + 4) k = vi M (a + 4) k) ∧
  (∀ k, k < 64 → vr M' (o + 5) k = vr M (a + 5) k) ∧ (∀ k, k < 7 → vi M' (o + 6) k = vi M (a + 6) k) ∧ (∀ k, k < 64 → vi M' (o + 7) k = vi M (a + 7) k) ∧ ∀ k, k < 64 → vl M' (o + 8) k = vl M (a + 8) k
theorem k_copyFrom {o a : Nat} {Q : Mem → Prop} (O : ObAt 8 M o) (A : ObAt 8 M a) (ap : o + 9 ≤ a ∨ a + 9 ≤ o) (hm : ∀ k z, k < 64 → vr M (a + 5) k = some z → mK M z = 6) (hq : ∀ M', Frv o [1, 3, 6] [1, 2, 3, 4, 5, 6, 7, 8] M M' → cpd o a M M' → Q M') : CV G (d + 1) 74 [.ref o, .ref a] M Q := by
  refine c_X8_copyFrom O A ?_
  intro M1 e1 M2 e2 M3 e3 M4 e4
  have q1 := cp_i (n := 200) rfl rfl rfl e1
  have q2 := cp_i (n := 200) rfl rfl rfl e2
  have q3 := cp_i (n := 4) rfl rfl rfl e3
  have q4 := cp_i (n := 4) rfl rfl rfl e4
  have s4 : ∀ e, e ≠ o + 1 → e ≠ o + 2 → e ≠ o + 3 → e ≠ o + 4 → same M M4 e := fun e h1 h2 h3 h4 => (((q1.1 e h1).trans (q2.1 e h2)).trans (q3.1 e h3)).trans (q4.1 e h4)
  have k4 : mK M4 = mK M ∧ mA M4 = mA M ∧ mN M4 = mN M ∧ mS M4 = mS M ∧ vr M4 = vr M := ⟨by rw [q4.2.2.2.2.1, q3.2.2.2.2.1, q2.2.2.2.2.1, q1.2.2.2.2.1], by rw [q4.2.2.2.2.2.1, q3.2.2.2.2.2.1, q2.2.2.2.2.2.1, q1.2.2.2.2.2.1], by rw [q4.2.2.2.2.2.2.1, q3.2.2.2.2.2.2.1, q2.2.2.2.2.2.2.1, q1.2.2.2.2.2.2.1], by rw [q4.2.2.2.2.2.2.2, q3.2.2.2.2.2.2.2, q2.2.2.2.2.2.2.2, q1.2.2.2.2.2.2.2], by rw [q4.2.2.1, q3.2.2.1, q2.2.2.1, q1.2.2.1]⟩
  refine ⟨fun i hi z hz => ?_, ?_⟩
  · rw [k4.2.2.2.2] at hz
    rw [k4.1]
    have hi2 : i < 64 := hi
    exact hm _ z (show (0 : Int32).toNatClampNeg + i < 64 by rw [show (0 : Int32).toNatClampNeg = 0 from rfl]; omega) hz
  · intro M5 e5
    have q5 := cp_r (n := 64) rfl rfl rfl e5
    have O5 : ObAt 8 M5 o := by
      refine ob_vr O (by rw [q5.2.2.2.2.1, k4.1]) (by rw [q5.2.2.2.2.2.1, k4.2.1]) ?_
      rw [(q5.1 o (by omega)).2.2, k4.2.2.2.2]
    have A5 : ObAt 8 M5 a := by
      refine ob_vr A (by rw [q5.2.2.2.2.1, k4.1]) (by rw [q5.2.2.2.2.2.1, k4.2.1]) ?_
      rw [(q5.1 a (by omega)).2.2, k4.2.2.2.2]
    refine c_X8_copyFrom_75 O5 A5 ?_
    intro M6 e6 M7 e7 M8 e8
    have q6 := cp_i (n := 7) rfl rfl rfl e6
    have q7 := cp_i (n := 64) rfl rfl rfl e7
    have q8 := cp_l (n := 64) rfl rfl rfl e8
    have O8 : ObAt 8 M8 o := ob_vr O5 (by rw [q8.2.2.2.2.1, q7.2.2.2.2.1, q6.2.2.2.2.1]) (by rw [q8.2.2.2.2.2.1, q7.2.2.2.2.2.1, q6.2.2.2.2.2.1]) (by rw [q8.2.2.1, q7.2.2.1, q6.2.2.1])
    have A8 : ObAt 8 M8 a := ob_vr A5 (by rw [q8.2.2.2.2.1, q7.2.2.2.2.1, q6.2.2.2.2.1]) (by rw [q8.2.2.2.2.2.1, q7.2.2.2.2.2.1, q6.2.2.2.2.2.1]) (by rw [q8.2.2.1, q7.2.2.1, q6.2.2.1])
    refine c_X8_copyFrom_120 O8 A8 ?_
    intro M9 e9 M10 e10 M11 e11
    have s8 : ∀ e, (∀ i, 1 ≤ i → i ≤ 8 → e ≠ o + i) → same M M8 e := fun e h => ((((s4 e (h 1 (by omega) (by omega)) (h 2 (by omega) (by omega)) (h 3 (by omega) (by omega)) (h 4 (by omega) (by omega))).trans (q5.1 e (h 5 (by omega) (by omega)))).trans (q6.1 e (h 6 (by omega) (by omega)))).trans (q7.1 e (h 7 (by omega) (by omega)))).trans (q8.1 e (h 8 (by omega) (by omega)))
    have s11 : ∀ e, e ≠ o → same M8 M11 e := fun e h => by
      rw [e11, e10, e9]
      exact ⟨by funext j; rw [vi_seti, if_neg (fun z => h z.1), vi_seti, if_neg (fun z => h z.1), vi_seti, if_neg (fun z => h z.1)], rfl, rfl⟩
    have sA : ∀ i, i < 9 → same M M8 (a + i) := fun i hi => s8 _ (fun j h1 h2 e => by omega)
    have sa0 : same M M8 a := s8 _ (fun j h1 h2 e => by omega)
    have so0 : same M M8 o := s8 _ (fun j h1 h2 e => by omega)
    have r9 : vi M9 a = vi M a := by rw [e9]; funext j; rw [vi_seti, if_neg (by omega), sa0.1]
    have r10 : vi M10 a = vi M a := by rw [e10]; funext j; rw [vi_seti, if_neg (by omega), r9]
    rw [sa0.1] at e9
    rw [r9] at e10
    rw [r10] at e11
    have kk : mK M11 = mK M ∧ mA M11 = mA M ∧ mN M11 = mN M ∧ mS M11 = mS M := by
      refine ⟨?_, ?_, ?_, ?_⟩
      · rw [e11, e10, e9, mK_seti, mK_seti, mK_seti, q8.2.2.2.2.1, q7.2.2.2.2.1, q6.2.2.2.2.1, q5.2.2.2.2.1, k4.1]
      · rw [e11, e10, e9, mA_seti, mA_seti, mA_seti, q8.2.2.2.2.2.1, q7.2.2.2.2.2.1, q6.2.2.2.2.2.1, q5.2.2.2.2.2.1, k4.2.1]
      · rw [e11, e10, e9, mN_seti, mN_seti, mN_seti, q8.2.2.2.2.2.2.1, q7.2.2.2.2.2.2.1, q6.2.2.2.2.2.2.1, q5.2.2.2.2.2.2.1, k4.2.2.1]
      · rw [e11, e10, e9, mS_seti, mS_seti, mS_seti, q8.2.2.2.2.2.2.2, q7.2.2.2.2.2.2.2, q6.2.2.2.2.2.2.2, q5.2.2.2.2.2.2.2, k4.2.2.2.1]
    refine hq M11 ⟨kk.2.2.1, kk.2.2.2, kk.1, kk.2.1, fun e h1 h2 => ?_, ?_, fun k hk => ?_⟩ ⟨⟨?_, ?_, ?_⟩, fun k hk => ?_, fun k hk => ?_, fun k hk => ?_, fun k hk => ?_, fun k hk => ?_, fun k hk => ?_, fun k hk => ?_, fun k hk => ?_⟩
    · refine (s8 e (fun i h3 h4 => h2 i ?_)).trans (s11 e h1)
      have key : ∀ i, 1 ≤ i → i ≤ 8 → i ∈ [1, 2, 3, 4, 5, 6, 7, 8] := by
        intro i h3 h4
        simp; omega
      exact key i h3 h4
    · rw [e11, e10, e9, vr_seti, vr_seti, vr_seti, so0.2.2]
    · have hk2 : k ≠ 1 ∧ k ≠ 3 ∧ k ≠ 6 := by simpa using hk
      refine ⟨?_, ?_⟩
      · rw [e11, vi_seti, if_neg (fun z => hk2.2.2 z.2), e10, vi_seti, if_neg (fun z => hk2.2.1 z.2), e9, vi_seti, if_neg (fun z => hk2.1 z.2), so0.1]
      · rw [e11, e10, e9, vl_seti, vl_seti, vl_seti, so0.2.1]
    · rw [e11, vi_seti, if_neg (by omega), e10, vi_seti, if_neg (by omega), e9, vi_seti, if_pos ⟨rfl, rfl⟩]
    · rw [e11, vi_seti, if_neg (by omega), e10, vi_seti, if_pos ⟨rfl, rfl⟩]
    · rw [e11, vi_seti, if_pos ⟨rfl, rfl⟩]
    · rw [(s11 _ (by omega)).1, (q8.1 _ (by omega)).1, (q7.1 _ (by omega)).1, (q6.1 _ (by omega)).1, (q5.1 _ (by omega)).1, (q4.1 _ (by omega)).1, (q3.1 _ (by omega)).1, (q2.1 _ (by omega)).1, q1.2.1 k hk]
    · rw [(s11 _ (by omega)).1, (q8.1 _ (by omega)).1, (q7.1 _ (by omega)).1, (q6.1 _ (by omega)).1, (q5.1 _ (by omega)).1, (q4.1 _ (by omega)).1, (q3.1 _ (by omega)).1, q2.2.1 k hk, (q1.1 _ (by omega)).1]
    · rw [(s11 _ (by omega)).1, (q8.1 _ (by omega)).1, (q7.1 _ (by omega)).1, (q6.1 _ (by omega)).1, (q5.1 _ (by omega)).1, (q4.1 _ (by omega)).1, q3.2.1 k hk, (q2.1 _ (by omega)).1, (q1.1 _ (by omega)).1]
    · rw [(s11 _ (by omega)).1, (q8.1 _ (by omega)).1, (q7.1 _ (by omega)).1, (q6.1 _ (by omega)).1, (q5.1 _ (by omega)).1, q4.2.1 k hk, (q3.1 _ (by omega)).1, (q2.1 _ (by omega)).1, (q1.1 _ (by omega)).1]
    · rw [(s11 _ (by omega)).2.2, (q8.1 _ (by omega)).2.2, (q7.1 _ (by omega)).2.2, (q6.1 _ (by omega)).2.2, q5.2.1 k hk, (s4 _ (by omega) (by omega) (by omega) (by omega)).2.2]
    · rw [(s11 _ (by omega)).1, (q8.1 _ (by omega)).1, (q7.1 _ (by omega)).1, q6.2.1 k hk, (q5.1 _ (by omega)).1, (s4 _ (by omega) (by omega) (by omega) (by omega)).1]
    · rw [(s11 _ (by omega)).1, (q8.1 _ (by omega)).1, q7.2.1 k hk, (q6.1 _ (by omega)).1, (q5.1 _ (by omega)).1, (s4 _ (by omega) (by omega) (by omega) (by omega)).1]
    · rw [(s11 _ (by omega)).2.1, q8.2.1 k hk, (q7.1 _ (by omega)).2.1, (q6.1 _ (by omega)).2.1, (q5.1 _ (by omega)).2.1, (s4 _ (by omega) (by omega) (by omega) (by omega)).2.1]
/-- a sheet that is copied holds the same -/
theorem cpd.sh {o a : Nat} {S : ShT} (F : frM M) (V : okS S) (h : cpd o a M M') (A : cSh w M a S) (km : keepM w M M') : cSh w M' o S := by
  obtain ⟨⟨a1, a2, a3⟩, h1, h2, h3, h4, h5, h6, h7, h8⟩ := h
  have W := A
  have hg := V.g
  have hw := V.w
  have hh := V.h
  refine ⟨⟨by rw [a1]; exact A.1.1, by rw [a2]; exact A.1.2.1, by rw [a3]; exact A.1.2.2⟩, fun k hk => ?_, fun k hk => ?_, fun k hk => ?_, fun k hk => ?_, fun s hs => ?_, fun k hk => ?_, fun s hs => ?_, fun s hs q hq => ?_⟩
  · rw [h1 k (by omega)]; exact A.2.1 k hk
  · rw [h2 k (by omega)]; exact A.2.2.1 k hk
  · rw [h3 k (by omega)]; exact A.2.2.2.1 k hk
  · rw [h4 k hk]; exact A.2.2.2.2.1 k hk
  · rw [h5 s hs]
    refine ⟨fun im => ?_, (A.2.2.2.2.2.1 s hs).2⟩
    obtain ⟨p, e1, e2⟩ := (A.2.2.2.2.2.1 s hs).1 im
    exact ⟨p, e1, e2.keep F km⟩
  · rw [h6 k hk]; exact A.2.2.2.2.2.2.1 k hk
  · rw [h7 s (isM_lt V hs)]; exact A.2.2.2.2.2.2.2.1 s hs
  · rw [h8 s (isM_lt V hs)]; exact A.2.2.2.2.2.2.2.2 s hs q hq
theorem cSh.mk {a : Nat} {S : ShT} (A : cSh w M a S) : ∀ k z, k < 64 → vr M (a + 5) k = some z → mK M z = 6 := fun k z hk hz => by
  by_cases im : isM S k
  · obtain ⟨p, e1, e2⟩ := (A.2.2.2.2.2.1 k hk).1 im
    have : z = p := some_inj e1 hz
    subst this
    exact e2.1.k
  · rw [(A.2.2.2.2.2.1 k hk).2 im] at hz; cases hz
end
