/-! READING LAWS: the reference's values and sums -/
section
variable {G : GT} {d : Nat} {M M' : Mem} {m s p n f : Nat} {T : StT} {cd : List Nat}
theorem rS_n {c : Nat} (h : c < 100000) : nI 0 = nI (rSort c) ∧ nI c = nI (rNum c) := by
  unfold rSort rNum; rw [if_pos h, if_pos h]; exact ⟨rfl, rfl⟩
theorem rS_w {k : Nat} (h : k < 7) : nI 1 = nI (rSort (100000 + k)) ∧ nI k = nI (rNum (100000 + k)) := by
  unfold rSort rNum
  rw [if_neg (by omega), if_pos (by omega), if_neg (by omega), if_pos (by omega), show 100000 + k - 100000 = k by omega]; exact ⟨rfl, rfl⟩
theorem s_value {Q : Mem → Prop} (h : LwA M m T s p cd n f) (hq : ∀ M' p' cd' n' f', FrW m s M M' → LwA M' m T s p' cd' n' f' → lStp (pVal T.1 (skB T.1 p) cd n) f f' p' cd' n' → Q M') : CV G (d + 6) 182 [.ref m] M Q := by
  have t4 : T.1.1 ≤ 400 := h.x.t4
  have p4 := h.p4
  have sk := skB_le p4
  refine r_value h.1.1 (s_blanks h.1 h.pp (by omega) (fun M1 g1 e1 => ⟨g1.ra h.1.1, ?_⟩))
  have h1 := h.mv g1 e1 sk.2 sk.1
  have w1 : FrW m s M M1 := FrW.ofF g1 (by decide)
  generalize skB T.1 p = q at *
  have dq := dl_le sk.2
  have wq := wl_le sk.2
  have fl3 := flt_lt (p := q) (c := 3) (by omega) (by omega)
  refine s_isDigit h1.1 e1 (by omega) ⟨h1.1.1, bz (fun c => ?_) (fun c => ?_)⟩
  · have d0 : 0 < dl T.1 q := by
      rw [show dl T.1 q = dl T.1 (q + 1) + 1 from run_y (P := fun i => isD (T.1.2 i)) c.1 c.2]; omega
    rw [e1]
    refine s_ldigits h1 d0 (fun M4 v f4 g4 h4 a4 b4 c4 => ⟨h4.1.1, s_isCounted h4 (by omega) (fun M6 f6 g6 h6 a6 b6 => ⟨h6.1.1, ?_⟩)⟩)
    have all : f = 0 → (5 < dl T.1 q → f6 = flt q 1) ∧ (dl T.1 q ≤ 5 → f6 = if n = 60 then flt q 3 else 0) := fun z => by
      refine ⟨fun y => ?_, fun y => ?_⟩
      · have e := b4 z
        rw [if_pos y] at e
        rw [a6 (by rw [e]; exact flt_ne _ _), e]
      · have e := b4 z
        rw [if_neg (by omega)] at e
        exact b6 e
    refine s_entry (c := vlF T.1 q (dl T.1 q)) h6 (fun z => ?_) (fun z => ?_) (fun M7 cd7 g7 h7 c7 => ⟨h7.1.1, hq M7 _ cd7 (n + 1) f6 (w1.trans (g4.trans (g6.trans g7))) h7 ⟨fun z => ?_, fun z => ?_⟩⟩)
    · have f40 : f4 = 0 := Classical.byContradiction (fun y => y (by rw [← a6 y]; exact z))
      have f0 : f = 0 := Classical.byContradiction (fun y => y (by rw [← a4 y]; exact f40))
      have d5 : dl T.1 q ≤ 5 := by
        rcases Nat.lt_or_ge 5 (dl T.1 q) with y | y
        · rw [(all f0).1 y] at z; exact absurd z (flt_ne _ _)
        · exact y
      have vb := vlF_lt (t := T.1) (p := q) (n := dl T.1 q) (run_in (P := fun i => isD (T.1.2 i)) _ q rfl)
      have h7 : 10 ^ dl T.1 q ≤ 10 ^ 5 := Nat.pow_le_pow_right (by decide) d5
      rw [c4 d5]
      exact rS_n (by omega)
    · have f40 : f4 = 0 := Classical.byContradiction (fun y => y (by rw [← a6 y]; exact z))
      have f0 : f = 0 := Classical.byContradiction (fun y => y (by rw [← a4 y]; exact f40))
      have := h.b f0
      omega
    · have e4 := a4 z
      rw [a6 (by rw [e4]; exact z), e4]
    · unfold pVal
      rw [cif_T d0]
      rcases Nat.lt_or_ge 5 (dl T.1 q) with y | y
      · rw [cif_T y, (all z).1 y]
        exact ⟨rfl, fun u => absurd u (flt_ne _ _)⟩
      · rw [cif_F (by omega), (all z).2 y]
        by_cases u : n = 60
        · rw [cif_T u, if_pos u]
          exact ⟨rfl, fun u => absurd u (flt_ne _ _)⟩
        · rw [cif_F u, if_neg u]
          refine ⟨rfl, fun _ => ?_⟩
          rw [c7 (by rw [(all z).2 y, if_neg u])]
  · have d0 : ¬ 0 < dl T.1 q := by
      rw [show dl T.1 q = 0 from run_n (P := fun i => isD (T.1.2 i)) c]; omega
    rw [e1]
    -- the word k is there
    have found : ∀ k, k < 7 → lIx T.1 q = k → wAt T.1 q = strB.getD (16 + k) [] → CV G (d + 5) 180 [.ref m, .int (nI q)] M1 (fun M21 => RefAt M21 m ∧ (CR G (d + 5) 171 [.int (nI k)] M21 (fun o28 M22 => RefAt M22 m ∧ ((∀ r23, o28 = some r23 → (∃ i, i < 27 ∧ r23 = gk G i) ∧ CI G (d + 5) 275 [.ref r23] M22 (fun v25 M24 => RefAt M24 m ∧ (∀ M26, M26 = seti M24 m 14 ((vi M21 m 14) + v25) → CV G (d + 5) 179 [.ref m, .int (1 : Int32), .int (nI k)] M26 (fun M27 => RefAt M27 m ∧ (Q M27))))) ∧ (o28 = none → False))))) := by
      intro k k7 ek ew
      refine s_isCounted h1 (by omega) (fun M6 f6 g6 h6 a6 b6 => ⟨h6.1.1, s_wordOf k7 ⟨h6.1.1, fun r er => ?_, fun er => (by cases er)⟩⟩)
      cases er
      refine ⟨⟨16 + k, by omega, rfl⟩, s_length (by omega) ⟨h6.1.1, fun M8 e8 => ?_⟩⟩
      rw [h6.pp, nI_add, ← ew, wAt_len] at e8
      have g8 : Frl m [14] [] M6 M8 := by rw [e8]; exact Frl.sf (by decide)
      have h8 := h6.mv g8 (by rw [e8, vi_seti, if_pos ⟨rfl, rfl⟩]) wq (by omega)
      refine s_entry (c := 100000 + k) h8 (fun _ => rS_w k7) (fun z => ?_) (fun M9 cd9 g9 h9 c9 => ⟨h9.1.1, hq M9 _ cd9 (n + 1) f6 (w1.trans (g6.trans ((FrW.ofF g8 (by decide)).trans g9))) h9 ⟨a6, fun z => ?_⟩⟩)
      · have f0 : f = 0 := Classical.byContradiction (fun y => y (by rw [← a6 y]; exact z))
        have := h.b f0
        omega
      · unfold pVal
        rw [cif_F d0, cif_F (by omega), b6 z, ek]
        by_cases u : n = 60
        · rw [cif_T u, if_pos u]
          exact ⟨rfl, fun u => absurd u (flt_ne _ _)⟩
        · rw [cif_F u, if_neg u]
          refine ⟨rfl, fun _ => ?_⟩
          rw [c9 (by rw [b6 z, if_neg u])]
    have v22 : ∀ {M2 : Mem}, RX M2 m T → vi M2 m 22 = nI 7 := fun W => W.2.2.2.2.1
    have key : ∀ (j k : Nat), j + k = 7 → (∀ i, i < k → ¬ wAt T.1 q = lWs.getD i []) → At G (d + 6) 182 38 [(0, .ref m), (1, .int (nI q)), (2, .int (nI k))] [] M1 (qV Q) := by
      intro j
      induction j with
      | zero =>
        intro k ek hk
        refine r_value_38 h1.1.1 ?_
        rw [v22 h1.1]
        refine ⟨fun _ => ⟨fun y => absurd (by rw [show k = 7 by omega]) y, fun _ => ?_⟩, fun y => absurd (nI_le (by omega) (by omega)) y⟩
        refine s_fails (c := 0) h1.1.1 h1.ff h1.f4 (by omega) (by omega) (fun M3 g3 h3 => ⟨g3.ra h1.1.1, ?_⟩)
        have f4 := h.f4
        have l7 : lIx T.1 q = 7 := fst_n 7 (fun i hi => hk i (by omega))
        refine hq M3 q cd n (if f = 0 then flt q 0 else f) (w1.trans (FrW.ofF g3 (by decide))) (h1.ft g3 h3 ?_ ?_) ⟨fun z => if_neg z, fun z => ?_⟩
        · by_cases z : f = 0
          · rw [if_pos z]; exact flt_ne _ _
          · rw [if_neg z]; exact z
        · by_cases z : f = 0
          · rw [if_pos z]; exact flt_lt (by omega) (by omega)
          · rw [if_neg z]; exact f4
        · unfold pVal
          rw [cif_F d0, cif_T l7, if_pos z]
          exact ⟨rfl, fun u => absurd u (flt_ne _ _)⟩
      | succ j ih =>
        intro k ek hk
        refine r_value_38 h1.1.1 ?_
        rw [v22 h1.1]
        refine ⟨fun y => absurd y (nI_ge (by omega) (by omega)), fun _ => s_wordOf (by omega) ⟨h1.1.1, fun r er => ?_, fun er => (by cases er)⟩⟩
        cases er
        refine s_isAt h1.1 (by omega) e1 sk.2 ⟨h1.1.1, bnz (fun c => ⟨fun _ => found k (by omega) ?_ c, fun y => ?_⟩) (fun c => ?_)⟩
        · exact fst_y (p := fun i => wAt T.1 q = lWs.getD i []) (by rw [lWs_s k (by omega)]; exact c) hk 7 (by omega)
        · rw [v22 h1.1, eq_I (by omega) (by omega)] at y; omega
        · rw [nI_1]
          refine ih (k + 1) (by omega) (fun i hi => ?_)
          rcases Nat.lt_or_ge i k with z | z
          · exact hk i z
          · rw [show i = k by omega, lWs_s k (by omega)]; exact c
    exact key 7 0 rfl (fun i hi => absurd hi (Nat.not_lt_zero i))
end
