/-! RUN, COSTS: the reference's calls -/
section
variable {G : GT} {d : Nat} {M M' : Mem} {m w : Nat} {T : StT}
theorem chM_4 {l : Nat} (V : okS (sh T)) (w5 : 5 ≤ w) : chM T l w ≤ 400 := by
  have h1 := Nat.le_trans (lnL_le (t := gL' (sh T)) (w := w) (by omega)) (txW_4 (a := 0) V)
  have h2 := Nat.le_trans (lnL_le (t := ouT (sh T) (qL T l)) (w := w) (by omega)) ouT_4
  unfold chM chA chB; omega
theorem m_run {r v g : Int32} {Q : Int32 → Mem → Prop} (W : RX M m T) (hq : ∀ M', RX M' m T → Ou m M M' → Q (f_run T r v g) M') : CI G (d + 11) 250 [.ref m, .int r, .int v, .int g] M Q := by
  unfold f_run at hq
  have q4 := W.q4
  refine r_run W.1 (s_isLaw W ⟨W.1, bz (fun ok => ?_) (fun no => by rw [cif_F (fun z => no z.1)] at hq; exact hq M W Ou.refl)⟩)
  refine s_width ⟨W.1, bz (fun cw => ?_) (fun cw => by rw [cif_F (fun z => cw z.2.1)] at hq; exact hq M W Ou.refl)⟩
  refine s_in (1 ≤ g.toInt ∧ g.toInt ≤ 60) ?_ ⟨W.1, bnz (fun cg => ?_) (fun cg => by rw [cif_F (fun z => cg z.2.2)] at hq; exact hq M W Ou.refl)⟩
  · rw [Int32.toInt_toInt64, show (1 : Int64).toInt = 1 from rfl, show (60 : Int64).toInt = 60 from rfl]
  rw [cif_T ⟨ok, cw, cg⟩] at hq
  obtain ⟨l, hl, ea⟩ := asN ok.1 ok.2
  subst ea
  obtain ⟨w, hw, ev⟩ := asN (a := v) (N := 61) (by have := cw.1; omega) (by have := cw.2; omega)
  subst ev
  obtain ⟨b, hb, eb⟩ := asN (a := g) (N := 61) (by have := cg.1; omega) (by have := cg.2; omega)
  subst eb
  unfold wOk at cw
  rw [nI_toIntN (by omega)] at cw cg
  rw [nI_clamp (n := w) (by omega), nI_clamp (n := l) (by omega), nI_clamp (n := b) (by omega)] at hq
  refine s_changes W hl (by omega) (by omega) (fun M1 g1 e1 x1 _ => ⟨g1.ra W.1, ?_⟩)
  have hq := hq M1 (W.cf g1) (g1.ou (by decide))
  have cm := chM_4 (T := T) (l := l) W.rs.2.1 (w := w) (by omega)
  generalize chM T l w = n at *
  generalize dif (chA T w) (chB T l w) = p at *
  have key : ∀ j i, j + i = n → At G (d + 11) 250 52 [(0, .ref m), (3, .int (nI b)), (4, .int (nI (pg p b i).1)), (5, .int (pg p b i).2), (6, .int (nI i))] [] M1 (qI Q) := by
    intro j
    induction j with
    | zero =>
      intro i e
      have e : i = n := by omega
      subst e
      refine r_run_52 (g1.ra W.1) ?_
      rw [e1, le_I (by omega) (by omega)]
      exact ⟨fun _ => hq, fun z => absurd (Nat.le_refl _) z⟩
    | succ j ih =>
      intro i e
      have nx := ih (i + 1) (by omega)
      refine r_run_52 (g1.ra W.1) ?_
      rw [e1, le_I (by omega) (by omega), nI_clamp (by omega), x1 i (by omega), nI_1, nI_1, pk_div (by omega) (by omega) (by omega)]
      have nz : ¬ nI b = 0 := nI_ne0 (by omega) (by omega)
      refine ⟨fun z => absurd z (by omega), fun _ => ⟨vp_in_nI (by omega) (by omega), bz (fun y => ⟨nz, fun eq => ?_, fun ne => ⟨nz, ?_⟩⟩) (fun no => ?_)⟩⟩
      · rw [show pg p b (i + 1) = pg p b i by show cif _ _ _ = _; rw [cif_F (fun z => z.2 eq)]] at nx; exact nx
      · rw [show pg p b (i + 1) = ((pg p b i).1 + 1, nI (i / b)) by show cif _ _ _ = _; rw [cif_T ⟨y, ne⟩]] at nx; exact nx
      · rw [show pg p b (i + 1) = pg p b i by show cif _ _ _ = _; rw [cif_F (fun z => no z.1)]] at nx; exact nx
  exact key n 0 rfl
theorem m_costs {r v : Int32} {Q : Int32 → Mem → Prop} (W : RX M m T) (hq : ∀ M', RX M' m T → Ou m M M' → Q (f_costs T r v) M') : CI G (d + 11) 251 [.ref m, .int r, .int v] M Q := by
  unfold f_costs at hq
  have q4 := W.q4
  have V := W.rs.2.1
  refine r_costs W.1 (s_isLaw W ⟨W.1, bz (fun ok => ?_) (fun no => by rw [cif_F (fun z => no z.1)] at hq; exact hq M W Ou.refl)⟩)
  refine s_width ⟨W.1, bnz (fun cw => ?_) (fun cw => by rw [cif_F (fun z => cw z.2)] at hq; exact hq M W Ou.refl)⟩
  rw [cif_T ⟨ok, cw⟩] at hq
  obtain ⟨l, hl, ea⟩ := asN ok.1 ok.2
  subst ea
  obtain ⟨w, hw, ev⟩ := asN (a := v) (N := 61) (by have := cw.1; omega) (by have := cw.2; omega)
  subst ev
  unfold wOk at cw
  rw [nI_toIntN (by omega)] at cw
  rw [nI_clamp (n := w) (by omega), nI_clamp (n := l) (by omega)] at hq
  refine ⟨show vp_in (nI 6) 7 from vp_in_nI (by omega) (by omega), ?_⟩
  refine s_changes W hl (by omega) (by omega) (fun M1 g1 _ _ b1 => ⟨g1.ra W.1, ?_⟩)
  have W1 := W.cf g1
  have R1 := W1.rs
  have hq := hq M1 W1 (g1.ou (by decide))
  have cm := chM_4 (T := T) (l := l) V (w := w) (by omega)
  rw [(pg_1 _ (by omega)).1] at hq
  rw [show (6 : Int32).toNatClampNeg = 6 from rfl, W.rs.2.2.k (by decide)]
  generalize nI (ct (dif (chA T w) (chB T l w)) (chM T l w)) = n at *
  generalize hp : stS (sh T) (qL T l) = p at *
  have pi : ∀ s, p s → isM (sh T) s := fun s hs => by rw [← hp] at hs; exact hs.1
  have key : ∀ j i, j + i = 64 → At G (d + 11) 251 42 [(0, .ref m), (3, .int (cC (sh T) 6 * n + csM (sh T) p i)), (4, .int (nI i))] [] M1 (qI Q) := by
    intro j
    induction j with
    | zero =>
      intro i e
      have e : i = 64 := by omega
      subst e
      refine r_costs_42 W1.1 ⟨fun _ => by rw [Int32.add_comm]; exact hq, fun z => absurd (show (64 : Int32) ≤ nI 64 by decide) z⟩
    | succ j ih =>
      intro i e
      have nx := ih (i + 1) (by omega)
      have v6 : vp_in (nI i) 64 := vp_in_nI (by omega) (by omega)
      refine r_costs_42 W1.1 ⟨fun z => absurd z (nI_ge (a := i) (b := 64) (by omega) (by decide)), fun _ => ⟨v6, ?_⟩⟩
      rw [nI_clamp (by omega), b1 i (by omega)]
      have inn : ∀ k o, k + o = i → At G (d + 11) 251 61 [(0, .ref m), (3, .int (cC (sh T) 6 * n + csM (sh T) p i)), (4, .int (nI i)), (5, .int (bI (p i ∧ ∀ o', o' < o → p o' → ¬ kM (sh T) o' = kM (sh T) i))), (6, .int (nI o))] [] M1 (qI Q) := by
        intro k
        induction k with
        | zero =>
          intro o eo
          have eo : o = i := by omega
          subst eo
          refine r_costs_61 W1.1 ?_
          rw [le_I (by omega) (by omega), nI_clamp (by omega), nI_1]
          refine ⟨fun _ => bz (fun y => ?_) (fun no => ?_), fun z => absurd (Nat.le_refl _) z⟩
          · have iM := pi o y.1
            have ok := V.m iM
            obtain ⟨kk, hk, ek⟩ := asN (a := kK (kM (sh T) o)) (N := 6) ok.1.1 (by have := ok.1.2; omega)
            rw [R1.2.2.m7 iM, R1.2.2.m11 iM]
            have e1 : csM (sh T) p (o + 1) = csM (sh T) p o + cC (sh T) (kK (kM (sh T) o)).toNatClampNeg * kL (kM (sh T) o) := by show _ + cif _ _ _ = _; rw [cif_T y]
            rw [e1] at nx
            rw [ek, nI_clamp (n := kk) (by omega)] at nx ⊢
            rw [R1.2.2.k (by omega), Int32.add_assoc]
            exact ⟨v6, vp_in_nI (by omega) (by omega), v6, nx⟩
          · have e1 : csM (sh T) p (o + 1) = csM (sh T) p o := by show _ + cif _ _ _ = _; rw [cif_F no, Int32.add_zero]
            rw [e1] at nx
            rw [Int32.add_zero]
            exact nx
        | succ k ihk =>
          intro o eo
          have nk := ihk (o + 1) (by omega)
          have vo : vp_in (nI o) 64 := vp_in_nI (by omega) (by omega)
          refine r_costs_61 W1.1 ?_
          rw [le_I (by omega) (by omega), nI_clamp (n := o) (by omega), b1 o (by omega), nI_1, nI_1]
          refine ⟨fun z => absurd z (by omega), fun _ => bz (fun y => ⟨vo, bz (fun yo => ?_) (fun no => ?_)⟩) (fun no => ?_)⟩
          · refine s_areAlike R1 (pi o yo) (pi i y.1) ⟨W1.1, bnz (fun eq => ?_) (fun ne => ?_)⟩
            · rw [bI_F (fun z => z.2 o (by omega) yo eq)] at nk; exact nk
            · have yy : ∀ o', o' < o + 1 → p o' → ¬ kM (sh T) o' = kM (sh T) i := fun o' ho' po' => by
                by_cases z : o' = o
                · rw [z]; exact ne
                · exact y.2 o' (by omega) po'
              rw [bI_T ⟨y.1, yy⟩] at nk; exact nk
          · have yy : ∀ o', o' < o + 1 → p o' → ¬ kM (sh T) o' = kM (sh T) i := fun o' ho' po' => by
              by_cases z : o' = o
              · rw [z] at po'; exact absurd po' no
              · exact y.2 o' (by omega) po'
            rw [bI_T ⟨y.1, yy⟩] at nk; exact nk
          · rw [bI_F (fun z => no ⟨z.1, fun o' ho' => z.2 o' (by omega)⟩)] at nk; exact nk
      have := inn i 0 rfl
      rw [show (p i ∧ ∀ o', o' < 0 → p o' → ¬ kM (sh T) o' = kM (sh T) i) = p i from propext ⟨fun z => z.1, fun z => ⟨z, fun o' ho' => absurd ho' (Nat.not_lt_zero o')⟩⟩] at this
      exact this
  have := key 64 0 rfl
  rw [show cC (sh T) 6 * n + csM (sh T) p 0 = cC (sh T) 6 * n from Int32.add_zero _] at this
  exact this
end
