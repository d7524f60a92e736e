/-! READING LAWS: the reference's terms, sums, FACTS made of a SIGN -/
section
variable {G : GT} {d : Nat} {M M' : Mem} {m s p n f : Nat} {T : StT} {cd : List Nat}
theorem rS_o {k e : Nat} (h : k < 12) (he : [2, 3, 13, 14, 4, 5, 6, 7, 8, 10, 11, 9].getD k 0 = e) : nI e = nI (rSort (200000 + k)) ∧ nI 0 = nI (rNum (200000 + k)) := by
  unfold rSort rNum
  rw [if_neg (by omega), if_neg (by omega), if_neg (by omega), if_neg (by omega), show 200000 + k - 200000 = k by omega, he]; exact ⟨rfl, rfl⟩
theorem lStp.zero {F : Nat × LxT} {f' p' n' : Nat} {cd' : List Nat} (h : lStp F 0 f' p' cd' n') : f' = F.1 ∧ (f' = 0 → F.2 = (p', cd', n')) := h.2 rfl
theorem s_term {Q : Mem → Prop} (h : LwA M m T s p cd n f) (hq : ∀ M' p' cd' n' f', FrW m s M M' → LwA M' m T s p' cd' n' f' → lStp (pTm T.1 (skB T.1 p) cd n) f f' p' cd' n' → Q M') : CV G (d + 7) 183 [.ref m] M Q := by
  have t4 : T.1.1 ≤ 400 := h.x.t4
  have p4 := h.p4
  have sk := skB_le p4
  -- the loop
  have lp : ∀ (j : Nat) (M1 : Mem) (p1 : Nat) (cd1 : List Nat) (n1 f1 : Nat) (Q : Mem → Prop), LwA M1 m T s (skB T.1 p1) cd1 n1 f1 → p1 ≤ T.1.1 → (f1 = 0 → T.1.1 - skB T.1 p1 < j) → (f1 = 0 → 3 * cd1.length + 3 ≤ 6 * n1 + p1) →
      (∀ M' p' cd' n' f', FrW m s M1 M' → LwA M' m T s p' cd' n' f' → lStp (pTmL T.1 j p1 cd1 n1) f1 f' p' cd' n' → Q M') → At G (d + 7) 183 8 [(0, .ref m)] [] M1 (qV Q) := by
    intro j
    induction j with
    | zero =>
      intro M1 p1 cd1 n1 f1 Q h1 p14 hj hb hq
      have f4 := h1.f4
      refine r_term_8 h1.1.1 ?_
      rw [h1.ff, il_0, eq_I (by omega) (by omega)]
      exact ⟨fun z => hq M1 _ cd1 n1 f1 FrW.refl h1 ⟨fun _ => rfl, fun y => absurd y z⟩, fun z => absurd (hj z) (Nat.not_lt_zero _)⟩
    | succ j ih =>
      intro M1 p1 cd1 n1 f1 Q h1 p14 hj hb hq
      have f4 := h1.f4
      refine r_term_8 h1.1.1 ?_
      rw [h1.ff, il_0, eq_I (by omega) (by omega)]
      refine ⟨fun z => hq M1 _ cd1 n1 f1 FrW.refl h1 ⟨fun _ => rfl, fun y => absurd y z⟩, fun z => ?_⟩
      subst z
      have q4 := h1.p4
      have n6 := h1.b rfl
      have hb1 := hb rfl
      have sk1 := skB_le p14
      -- one turn
      have turn : ∀ (e c : Nat), (pk T.1 (skB T.1 p1) = 42 ∨ pk T.1 (skB T.1 p1) = 47) → c = cif (pk T.1 (skB T.1 p1) = 42) 200002 200003 → (nI e = nI (rSort c) ∧ nI 0 = nI (rNum c)) → ∀ M7, M7 = seti M1 m 14 (nI (skB T.1 p1) + 1) → CV G (d + 6) 182 [.ref m] M7 (fun M8 => RefAt M8 m ∧ (CV G (d + 6) 179 [.ref m, .int (nI e), .int (0 : Int32)] M8 (fun M9 => RefAt M9 m ∧ (CV G (d + 6) 175 [.ref m] M9 (fun M10 => RefAt M10 m ∧ (At G (d + 7) 183 8 [(0, .ref m)] [] M10 (qV Q))))))) := by
        intro e c cc ec es M7 e7
        rw [nI_1] at e7
        have qi := (pk_at (c := pk T.1 (skB T.1 p1)) rfl (by rcases cc with c | c <;> rw [c] <;> decide)).1
        have g7 : Frl m [14] [] M1 M7 := by rw [e7]; exact Frl.sf (by decide)
        have h7 := h1.mv g7 (by rw [e7, vi_seti, if_pos ⟨rfl, rfl⟩]) (by omega) (by omega)
        have sk2 := skB_le (t := T.1) (p := skB T.1 p1 + 1) (by omega)
        have rm := pVal_rom (cd := cd1) t4 sk2.2 n6.1
        refine s_value h7 (fun M8 p8 cd8 n8 f8 g8 h8 st8 => ⟨h8.1.1, ?_⟩)
        have st := st8.zero
        have cu : pTmL T.1 (j + 1) p1 cd1 n1 = cif ((pVal T.1 (skB T.1 (skB T.1 p1 + 1)) cd1 n1).1 = 0) (pTmL T.1 j (pVal T.1 (skB T.1 (skB T.1 p1 + 1)) cd1 n1).2.1 ((pVal T.1 (skB T.1 (skB T.1 p1 + 1)) cd1 n1).2.2.1 ++ [c]) (pVal T.1 (skB T.1 (skB T.1 p1 + 1)) cd1 n1).2.2.2) (pVal T.1 (skB T.1 (skB T.1 p1 + 1)) cd1 n1) := by
          rw [ec]
          exact cif_T cc
        generalize pVal T.1 (skB T.1 (skB T.1 p1 + 1)) cd1 n1 = V at *
        obtain ⟨va, vp, vc, vn⟩ := V
        dsimp only at st cu
        have sl : f8 = 0 → vp = p8 ∧ vc = cd8 ∧ vn = n8 ∧ 3 * (cd8.length + 1) + 3 ≤ 6 * n8 + p8 ∧ skB T.1 p1 + 1 ≤ p8 := fun z => by
          have e := st.2 z
          have e1 : vp = p8 := congrArg (fun z => z.1) e
          have e2 : vc = cd8 := congrArg (fun z => z.2.1) e
          have e3 : vn = n8 := congrArg (fun z => z.2.2) e
          have r2 := rm.2 (by rw [← st.1]; exact z)
          dsimp only at r2
          rw [e1, e2, e3] at r2
          exact ⟨e1, e2, e3, by omega, by omega⟩
        refine s_entry (c := c) h8 (fun _ => es) (fun z => by have := sl z; omega) (fun M9 cd9 g9 h9 c9 => ⟨h9.1.1, ?_⟩)
        have p84 := h8.p4
        refine s_blanks h9.1 h9.pp (by omega) (fun M10 g10 e10 => ⟨g10.ra h9.1.1, ?_⟩)
        have sk8 := skB_le p84
        have h10 := h9.mv g10 e10 sk8.2 sk8.1
        have gA : FrW m s M1 M10 := (FrW.ofF g7 (by decide)).trans (g8.trans (g9.trans (FrW.ofF g10 (by decide))))
        refine ih M10 p8 cd9 n8 f8 Q h10 p84 (fun z => by
          have := sl z
          have := hj rfl
          omega) (fun z => by
          have := sl z
          rw [c9 z, List.length_append, List.length_singleton]; omega) (fun M' p' cd' n' f' g' h' st' => hq M' p' cd' n' f' (gA.trans g') h' ⟨fun y => absurd rfl y, fun _ => ?_⟩)
        rw [cu]
        by_cases z : f8 = 0
        · rw [cif_T (by rw [← st.1]; exact z)]
          have w := sl z
          rw [w.1, w.2.1, w.2.2.1, ← c9 z]
          exact st'.2 z
        · rw [cif_F (by rw [← st.1]; exact z)]
          have e := st'.1 z
          rw [e]
          exact ⟨st.1, fun y => absurd y z⟩
      refine s_sign h1.1 h1.pp (by omega) ⟨h1.1.1, fun c => s_sign h1.1 h1.pp (by omega) ⟨h1.1.1, fun y => absurd c y, fun _ M7 e7 => ?_⟩, fun c => s_sign h1.1 h1.pp (by omega) ⟨h1.1.1, fun c2 => ?_, fun c2 => s_sign h1.1 h1.pp (by omega) ⟨h1.1.1, fun _ M7 e7 => ?_, fun y => absurd y c⟩⟩⟩
      · rw [h1.pp] at e7
        exact turn 13 200002 (Or.inl c) (by rw [cif_T c]) (rS_o (k := 2) (by decide) rfl) M7 e7
      · refine hq M1 _ cd1 n1 0 FrW.refl h1 ⟨fun y => absurd rfl y, fun _ => ?_⟩
        rw [show pTmL T.1 (j + 1) p1 cd1 n1 = (0, skB T.1 p1, cd1, n1) from cif_F (fun z => z.elim c c2)]
        exact ⟨rfl, fun _ => rfl⟩
      · rw [h1.pp] at e7
        exact turn 14 200003 (Or.inr c2) (by rw [cif_F c]) (rS_o (k := 3) (by decide) rfl) M7 e7
  refine r_term h.1.1 (s_value h (fun M1 p1 cd1 n1 f1 g1 h1 st1 => ⟨h1.1.1, s_blanks h1.1 h1.pp (by have := h1.p4; omega) (fun M2 g2 e2 => ⟨g2.ra h1.1.1, ?_⟩)⟩))
  have p14 := h1.p4
  have sk1 := skB_le p14
  have h2 := h1.mv g2 e2 sk1.2 sk1.1
  have gA : FrW m s M M2 := g1.trans (FrW.ofF g2 (by decide))
  refine lp 401 M2 p1 cd1 n1 f1 Q h2 p14 (fun _ => by omega) (fun z => ?_) (fun M' p' cd' n' f' g' h' st' => hq M' p' cd' n' f' (gA.trans g') h' ?_)
  · have f0 : f = 0 := Classical.byContradiction (fun y => y (by rw [← st1.1 y]; exact z))
    have b := h.b f0
    have st := st1.2 f0
    have rm := (pVal_rom (cd := cd) t4 sk.2 b.1).2 (by rw [← st.1]; exact z)
    rw [st.2 z] at rm
    dsimp only at rm
    omega
  · refine ⟨fun y => ?_, fun y => ?_⟩
    · have e := st1.1 y
      rw [st'.1 (by rw [e]; exact y), e]
    · have st := st1.2 y
      unfold pTm
      by_cases z : f1 = 0
      · rw [cif_T (by rw [← st.1]; exact z)]
        rw [st.2 z]
        exact st'.2 z
      · rw [cif_F (by rw [← st.1]; exact z)]
        rw [st'.1 z]
        exact ⟨st.1, fun y => absurd y z⟩
theorem s_sum {Q : Mem → Prop} (h : LwA M m T s p cd n f) (hq : ∀ M' p' cd' n' f', FrW m s M M' → LwA M' m T s p' cd' n' f' → lStp (pSm T.1 (skB T.1 p) cd n) f f' p' cd' n' → Q M') : CV G (d + 8) 184 [.ref m] M Q := by
  have t4 : T.1.1 ≤ 400 := h.x.t4
  have p4 := h.p4
  have sk := skB_le p4
  have lp : ∀ (j : Nat) (M1 : Mem) (p1 : Nat) (cd1 : List Nat) (n1 f1 : Nat) (Q : Mem → Prop), LwA M1 m T s p1 cd1 n1 f1 → (f1 = 0 → T.1.1 - p1 < j) → (f1 = 0 → 3 * cd1.length + 3 ≤ 6 * n1 + p1) →
      (∀ M' p' cd' n' f', FrW m s M1 M' → LwA M' m T s p' cd' n' f' → lStp (pSmL T.1 j p1 cd1 n1) f1 f' p' cd' n' → Q M') → At G (d + 8) 184 4 [(0, .ref m)] [] M1 (qV Q) := by
    intro j
    induction j with
    | zero =>
      intro M1 p1 cd1 n1 f1 Q h1 hj hb hq
      have f4 := h1.f4
      refine r_sum_4 h1.1.1 ?_
      rw [h1.ff, il_0, eq_I (by omega) (by omega)]
      exact ⟨fun z => hq M1 _ cd1 n1 f1 FrW.refl h1 ⟨fun _ => rfl, fun y => absurd y z⟩, fun z => absurd (hj z) (Nat.not_lt_zero _)⟩
    | succ j ih =>
      intro M1 p1 cd1 n1 f1 Q h1 hj hb hq
      have f4 := h1.f4
      refine r_sum_4 h1.1.1 ?_
      rw [h1.ff, il_0, eq_I (by omega) (by omega)]
      refine ⟨fun z => hq M1 _ cd1 n1 f1 FrW.refl h1 ⟨fun _ => rfl, fun y => absurd y z⟩, fun z => ?_⟩
      subst z
      have p14 := h1.p4
      have n6 := h1.b rfl
      have hb1 := hb rfl
      have turn : ∀ (e c : Nat), (pk T.1 p1 = 43 ∨ pk T.1 p1 = 45) → c = cif (pk T.1 p1 = 43) 200000 200001 → (nI e = nI (rSort c) ∧ nI 0 = nI (rNum c)) → ∀ M7, M7 = seti M1 m 14 (nI p1 + 1) → CV G (d + 7) 183 [.ref m] M7 (fun M8 => RefAt M8 m ∧ (CV G (d + 7) 179 [.ref m, .int (nI e), .int (0 : Int32)] M8 (fun M9 => RefAt M9 m ∧ (At G (d + 8) 184 4 [(0, .ref m)] [] M9 (qV Q))))) := by
        intro e c cc ec es M7 e7
        rw [nI_1] at e7
        have qi := (pk_at (c := pk T.1 p1) rfl (by rcases cc with c | c <;> rw [c] <;> decide)).1
        have g7 : Frl m [14] [] M1 M7 := by rw [e7]; exact Frl.sf (by decide)
        have h7 := h1.mv g7 (by rw [e7, vi_seti, if_pos ⟨rfl, rfl⟩]) (by omega) (by omega)
        have sk2 := skB_le (t := T.1) (p := p1 + 1) (by omega)
        have rm := pTm_rom (cd := cd1) t4 sk2.2 n6.1
        refine s_term h7 (fun M8 p8 cd8 n8 f8 g8 h8 st8 => ⟨h8.1.1, ?_⟩)
        have st := st8.zero
        have cu : pSmL T.1 (j + 1) p1 cd1 n1 = cif ((pTm T.1 (skB T.1 (p1 + 1)) cd1 n1).1 = 0) (pSmL T.1 j (pTm T.1 (skB T.1 (p1 + 1)) cd1 n1).2.1 ((pTm T.1 (skB T.1 (p1 + 1)) cd1 n1).2.2.1 ++ [c]) (pTm T.1 (skB T.1 (p1 + 1)) cd1 n1).2.2.2) (pTm T.1 (skB T.1 (p1 + 1)) cd1 n1) := by
          rw [ec]
          exact cif_T cc
        generalize pTm T.1 (skB T.1 (p1 + 1)) cd1 n1 = V at *
        obtain ⟨va, vp, vc, vn⟩ := V
        dsimp only at st cu
        have sl : f8 = 0 → vp = p8 ∧ vc = cd8 ∧ vn = n8 ∧ 3 * (cd8.length + 1) + 3 ≤ 6 * n8 + p8 ∧ p1 + 1 ≤ p8 := fun z => by
          have e := st.2 z
          have e1 : vp = p8 := congrArg (fun z => z.1) e
          have e2 : vc = cd8 := congrArg (fun z => z.2.1) e
          have e3 : vn = n8 := congrArg (fun z => z.2.2) e
          have r2 := rm.2 (by rw [← st.1]; exact z)
          dsimp only at r2
          rw [e1, e2, e3] at r2
          exact ⟨e1, e2, e3, by omega, by omega⟩
        refine s_entry (c := c) h8 (fun _ => es) (fun z => by have := sl z; omega) (fun M9 cd9 g9 h9 c9 => ⟨h9.1.1, ?_⟩)
        have gA : FrW m s M1 M9 := (FrW.ofF g7 (by decide)).trans (g8.trans g9)
        refine ih M9 p8 cd9 n8 f8 Q h9 (fun z => by
          have := sl z
          have := hj rfl
          omega) (fun z => by
          have := sl z
          rw [c9 z, List.length_append, List.length_singleton]; omega) (fun M' p' cd' n' f' g' h' st' => hq M' p' cd' n' f' (gA.trans g') h' ⟨fun y => absurd rfl y, fun _ => ?_⟩)
        rw [cu]
        by_cases z : f8 = 0
        · rw [cif_T (by rw [← st.1]; exact z)]
          have w := sl z
          rw [w.1, w.2.1, w.2.2.1, ← c9 z]
          exact st'.2 z
        · rw [cif_F (by rw [← st.1]; exact z)]
          have e := st'.1 z
          rw [e]
          exact ⟨st.1, fun y => absurd y z⟩
      refine s_sign h1.1 h1.pp (by omega) ⟨h1.1.1, fun c => s_sign h1.1 h1.pp (by omega) ⟨h1.1.1, fun y => absurd c y, fun _ M7 e7 => ?_⟩, fun c => s_sign h1.1 h1.pp (by omega) ⟨h1.1.1, fun c2 => ?_, fun c2 => s_sign h1.1 h1.pp (by omega) ⟨h1.1.1, fun _ M7 e7 => ?_, fun y => absurd y c⟩⟩⟩
      · rw [h1.pp] at e7
        exact turn 2 200000 (Or.inl c) (by rw [cif_T c]) (rS_o (k := 0) (by decide) rfl) M7 e7
      · refine hq M1 _ cd1 n1 0 FrW.refl h1 ⟨fun y => absurd rfl y, fun _ => ?_⟩
        rw [show pSmL T.1 (j + 1) p1 cd1 n1 = (0, p1, cd1, n1) from cif_F (fun z => z.elim c c2)]
        exact ⟨rfl, fun _ => rfl⟩
      · rw [h1.pp] at e7
        exact turn 3 200001 (Or.inr c2) (by rw [cif_F c]) (rS_o (k := 1) (by decide) rfl) M7 e7
  refine r_sum h.1.1 (s_term h (fun M1 p1 cd1 n1 f1 g1 h1 st1 => ⟨h1.1.1, ?_⟩))
  have p14 := h1.p4
  refine lp 401 M1 p1 cd1 n1 f1 Q h1 (fun _ => by omega) (fun z => ?_) (fun M' p' cd' n' f' g' h' st' => hq M' p' cd' n' f' (g1.trans g') h' ?_)
  · have f0 : f = 0 := Classical.byContradiction (fun y => y (by rw [← st1.1 y]; exact z))
    have b := h.b f0
    have st := st1.2 f0
    have rm := (pTm_rom (cd := cd) t4 sk.2 b.1).2 (by rw [← st.1]; exact z)
    rw [st.2 z] at rm
    dsimp only at rm
    omega
  · refine ⟨fun y => ?_, fun y => ?_⟩
    · have e := st1.1 y
      rw [st'.1 (by rw [e]; exact y), e]
    · have st := st1.2 y
      unfold pSm
      by_cases z : f1 = 0
      · rw [cif_T (by rw [← st.1]; exact z)]
        rw [st.2 z]
        exact st'.2 z
      · rw [cif_F (by rw [← st.1]; exact z)]
        rw [st'.1 z]
        exact ⟨st.1, fun y => absurd y z⟩
end
