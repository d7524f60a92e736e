/-! THE TEXT: the class; all moves -/
theorem gDm {ss : List Nat} {i : Nat} (h : i < ss.length) : ss.take (i + 1) = ss.take i ++ [ss.getD i 0] := take_s h
/-- item 0 stays the first -/
theorem mv_hd {L : List Nat} {f s t : Nat} (hN : L.Nodup) (hc : contig L f s) (hu : 2 * t ∈ L) (fs : f < s) (ht : t ≤ f ∨ s ≤ t) (h0 : ∃ L', L = 0 :: L') : ∃ L', mvL L f s t = 0 :: L' := by
  obtain ⟨A, B, C, D, e, eab, nc, em⟩ := mv_str hN hc hu fs ht
  obtain ⟨L', eL'⟩ := h0
  have hA : ∃ A', A = 0 :: A' := by
    match A, e with
    | [], e =>
      exfalso
      have m0 : (0 : Nat) ∈ row f s := by
        have : (row f s ++ B).head? = some 0 := by rw [show row f s ++ B = L by rw [e]; rfl, eL']; rfl
        have rl : 0 < (row f s).length := by unfold row; rw [List.length_range']; omega
        match hr : row f s, rl with
        | y :: R, _ => rw [hr] at this; simp at this; rw [this]; exact List.mem_cons_self
      have := mem_row.mp m0
      omega
    | y :: A', e =>
      rw [eL'] at e
      have : (0 : Nat) = y := by simp at e; exact e.1
      exact ⟨A', by rw [this]⟩
  obtain ⟨A', eA⟩ := hA
  rw [eA] at eab
  match C, eab, em with
  | [], eab, em =>
    have : (0 : Nat) = 2 * t := by simp at eab; omega
    exact ⟨_, by rw [em, ← this]; rfl⟩
  | y :: C', eab, em =>
    have : (0 : Nat) = y := by simp at eab; exact eab.1
    exact ⟨_, by rw [em, ← this]; rfl⟩
section
variable {G : GT} {d : Nat} {M M' : Mem} {o a : Nat} {w : Nat → Nat} {S : ShT} {L ss : List Nat} {p dn : Nat → Prop}
theorem k_widest {Q : Option Nat → Mem → Prop} (O : ObAt 0 M o) (V : okS S) (hm : mrA w M a S ss) (dk : ∀ i, i < ss.length → vi M (o + 6) i = bI (dn (ss.getD i 0))) (hn : wdl S dn ss = none → Q none M) (hy : ∀ b r, wdl S dn ss = some b → cMk w M r (kM S b) → Q (some r) M) : CR G (d + 1) 4 [.ref o, .ref a, .int (nI ss.length)] M Q := by
  have g2 := V.g
  obtain ⟨m1, m2, m3, m4⟩ := hm
  have key : ∀ (j i : Nat), j + i = ss.length → (wdl S dn (ss.take i) = none → At G (d + 1) 4 5 [(0, .ref o), (1, .ref a), (2, .int (nI ss.length)), (3, .null), (4, .int (nI i))] [] M (qR Q)) ∧ (∀ b r, wdl S dn (ss.take i) = some b → isM S b → kK (kM S b) = 4 → cMk w M r (kM S b) → At G (d + 1) 4 5 [(0, .ref o), (1, .ref a), (2, .int (nI ss.length)), (3, .ref r), (4, .int (nI i))] [] M (qR Q)) := by
    intro j
    induction j with
    | zero =>
      intro i e
      have e : i = ss.length := by omega
      subst e
      rw [List.take_length]
      exact ⟨fun z => c_X0_widestMove_5n3 O ⟨fun _ => hn z, fun y => absurd (nI_le (Nat.le_refl _) (by omega)) y⟩, fun b r z _ _ hr => c_X0_widestMove_5 O ⟨fun _ => hy b r z hr, fun y => absurd (nI_le (Nat.le_refl _) (by omega)) y⟩⟩
    | succ j ih =>
      intro i e
      have hi : i < ss.length := by omega
      have ih := ih (i + 1) (by omega)
      rw [gDm hi, wdl_s] at ih
      obtain ⟨is, r1, er, hr⟩ := m4 i hi
      have dki := dk i hi
      generalize ss.getD i 0 = s at *
      have k19 : (14 ≤ mK M a ∧ mK M a ≤ 21) := by rw [m1]; decide
      have k18 : (18 ≤ mK M a ∧ mK M a ≤ 21) := by rw [m1]; decide
      have va : vp_in (nI i) (mA M a) := vp_in_nI (by omega) (by omega)
      have v6 : vp_in (nI i) 64 := vp_in_nI (by omega) (by omega)
      have ok := V.m is
      refine ⟨fun z => ?_, fun b r z ib kb hb => ?_⟩
      · rw [z] at ih
        have en : wdS' S dn none s = cif (kK (kM S s) = 4 ∧ ¬ dn s) (some s) none := rfl
        rw [en] at ih
        have no : ¬ (kK (kM S s) = 4 ∧ ¬ dn s) → At G (d + 1) 4 5 [(0, .ref o), (1, .ref a), (2, .int (nI ss.length)), (3, .null), (4, .int (nI (i + 1)))] [] M (qR Q) := fun n => ih.1 (cif_F n)
        refine c_X0_widestMove_5n3 O ⟨fun y => absurd y (nI_ge (a := i) (b := ss.length) (by omega) (by omega)), fun _ => ⟨fun y => absurd y (nI_ge (a := i) (b := 64) (by omega) (by decide)), fun _ => ⟨k19, fun y => absurd y (nI_ge (a := i) (b := mA M a) (by omega) (by omega)), fun _ => ⟨k18, va, fun r2 e2 => ?_, fun e2 => ?_⟩⟩⟩⟩
        · rw [nI_clamp (by omega)] at e2
          have e2 : r2 = r1 := some_inj er e2
          subst e2
          rw [hr.1.f0, nI_clamp (by omega), dki, nI_1]
          refine ⟨hr.1.k, fun n => no (fun y => n y.1), fun k4 => ⟨v6, bz (fun dy => no (fun y => y.2 dy)) (fun dy => ?_)⟩⟩
          exact ih.2 s r2 (cif_T ⟨k4, dy⟩) is k4 hr
        · rw [nI_clamp (by omega), er] at e2; cases e2
      · rw [z] at ih
        have en : wdS' S dn (some b) s = cif ((kK (kM S s) = 4 ∧ ¬ dn s) ∧ mSp (kM S b) < mSp (kM S s)) (some s) (some b) := rfl
        rw [en] at ih
        have no : ¬ ((kK (kM S s) = 4 ∧ ¬ dn s) ∧ mSp (kM S b) < mSp (kM S s)) → At G (d + 1) 4 5 [(0, .ref o), (1, .ref a), (2, .int (nI ss.length)), (3, .ref r), (4, .int (nI (i + 1)))] [] M (qR Q) := fun n => ih.2 b r (cif_F n) ib kb hb
        refine c_X0_widestMove_5 O ⟨fun y => absurd y (nI_ge (a := i) (b := ss.length) (by omega) (by omega)), fun _ => ⟨fun y => absurd y (nI_ge (a := i) (b := 64) (by omega) (by decide)), fun _ => ⟨k19, fun y => absurd y (nI_ge (a := i) (b := mA M a) (by omega) (by omega)), fun _ => ⟨k18, va, fun r2 e2 => ?_, fun e2 => ?_⟩⟩⟩⟩
        · rw [nI_clamp (by omega)] at e2
          have e2 : r2 = r1 := some_inj er e2
          subst e2
          rw [hr.1.f0, nI_clamp (by omega), dki, nI_1]
          refine ⟨hr.1.k, fun n => no (fun y => n y.1.1), fun k4 => ⟨v6, bz (fun dy => no (fun y => y.1.2 dy)) (fun dy => ?_)⟩⟩
          rw [mv_span g2 hr.1 ok k4, mv_span g2 hb.1 (V.m ib) kb]
          exact ⟨hr.1.k, hr.1.k, hb.1.k, hb.1.k, fun y => no (fun u => absurd u.2 (le_nlt y)), fun y => ih.2 s r2 (cif_T ⟨⟨k4, dy⟩, nle_lt y⟩) is k4 hr⟩
        · rw [nI_clamp (by omega), er] at e2; cases e2
  refine c_X0_widestMove O ?_
  exact (key ss.length 0 rfl).1 rfl
theorem mrA.fr {F Ls : List Nat} (h : mrA w M a S ss) (g : Frl o F Ls M M') (Fm : frM M) (hw : ∀ b, w b = 2 → b ≠ o ∧ ∀ i ∈ Ls, b ≠ o + i) : mrA w M' a S ss := by
  obtain ⟨m1, m2, m3, m4⟩ := h
  have km : keepM w M M' := fun b hb _ => ⟨⟨by funext k; exact (g.2.2.2.2.2 b k (fun e => absurd e (hw b hb).1) (hw b hb).2).1, by funext k; exact (g.2.2.2.2.2 b k (fun e => absurd e (hw b hb).1) (hw b hb).2).2, by rw [g.2.2.2.2.1]⟩, by rw [g.2.2.1], by rw [g.2.2.2.1]⟩
  refine ⟨by rw [g.2.2.1]; exact m1, by rw [g.2.2.2.1]; exact m2, by rw [g.2.2.2.1]; exact m3, fun i hi => ?_⟩
  obtain ⟨is, r, er, hr⟩ := m4 i hi
  exact ⟨is, r, by rw [g.2.2.2.2.1]; exact er, hr.keep Fm km⟩
theorem k_doMoves {Q : Mem → Prop} (O : ObAt 0 M o) (V : okS S) (Fm : frM M) (hp : pOk S p) (es : ss = psl p 64) (hm : mrA w M a S ss) (hw : ∀ b, w b = 2 → b ≠ o ∧ ∀ i ∈ [2, 3, 6], b ≠ o + i) (hL : chR M o (List.range (2 * gN S + 1))) (hq : ∀ M', Frl o [] [2, 3, 6] M M' → chR M' o (its S p) → Q M') : CV G (d + 3) 3 [.ref o, .ref a, .int (nI ss.length)] M Q := by
  have g2 := V.g
  have sm : ∀ i, i < ss.length → p (ss.getD i 0) ∧ ss.getD i 0 < 64 := fun i hi => by
    have := gD_mem hi
    rw [es] at this
    have := psl_mem.mp this
    rw [← es] at this
    exact ⟨this.2, this.1⟩
  have l6 : ss.length ≤ 64 := by rw [es, psl_ct]; exact ct_le _ _
  have FM : ∀ {M' : Mem}, Frl o [] [2, 3, 6] M M' → frM M' := fun g b hb => by rw [g.2.2.1]; exact Fm b (by rw [← g.1]; exact hb)
  have MR : ∀ {M' : Mem}, Frl o [] [2, 3, 6] M M' → mrA w M' a S ss := fun g => hm.fr g Fm hw
  have wl : ∀ dn, wdl S dn ss = wd S p dn 64 := fun dn => by rw [es]; exact (wd_l 64).symm
  -- the rounds
  have key : ∀ (n i : Nat) (dn : Nat → Prop) (L : List Nat) (Mx : Mem), n + i = ss.length → nMv S p dn ≤ n → mvI S p dn L → (∃ L', L = 0 :: L') → its S p = mvs S p n dn L → Frl o [] [2, 3, 6] M Mx → chR Mx o L → (∀ k, k < ss.length → vi Mx (o + 6) k = bI (dn (ss.getD k 0))) → At G (d + 3) 3 10 [(0, .ref o), (1, .ref a), (2, .int (nI ss.length)), (3, .int (nI i))] [] Mx (qV Q) := by
    intro n
    induction n with
    | zero =>
      intro i dn L Mx e hn mv h0 et gx cx dk
      have e : i = ss.length := by omega
      subst e
      have et : its S p = L := et
      exact c_X0_doMoves_10 (gx.ob O) ⟨fun _ => hq Mx gx (by rw [et]; exact cx), fun z => absurd (nI_le (Nat.le_refl _) (by omega)) z⟩
    | succ n ih =>
      intro i dn L Mx e hn mv h0 et gx cx dk
      have et : its S p = (match wd S p dn 64 with | none => L | some b => mvs S p n (dnN S p dn b) (mvB S L b)) := et
      have Ox := gx.ob O
      refine c_X0_doMoves_10 Ox ⟨fun z => absurd z (nI_ge (a := i) (b := ss.length) (by omega) (by omega)), fun _ => k_widest Ox V (MR gx) dk (fun z => ⟨Ox, fun r er => (by cases er), fun _ => ?_⟩) (fun b r z hr => ⟨Ox, fun r3 er => ?_, fun er => (by cases er)⟩)⟩
      · rw [wl] at z
        rw [z] at et
        exact hq Mx gx (by rw [et]; exact cx)
      · cases er
        rw [wl] at z
        rw [z] at et
        dsimp only at et
        have q := wd_some 64 b z
        obtain ⟨q1, q2, q3, q4, q5, q6, k1, k2, k3⟩ := mv.bk V hp q.2.1
        have mvn := mv.s V hp z
        have nm := nMv_s V z
        refine k_shift (f := fN (kM S b)) (s := sN (kM S b)) (t := dN (kM S b)) (n := 0) Ox hr.1 k1 k2 k3 q1 (by omega) (by omega) q4 mv.1 (fun z hz => by have := (mv.2.1 z).mp hz; omega) q6 q5 h0 cx (fun M1 g1 c1 => ⟨g1.ob Ox, ?_⟩)
        have gg : Frl o [] [2, 3, 6] M M1 := gx.trans (g1.sub (by decide) (by decide))
        have h1 : ∃ L', mvB S L b = 0 :: L' := mv_hd mv.1 q6 q5 q1 q4 h0
        have ib := hp.1 b q.2.1.1
        have KM : ∀ {M1 M2 : Mem} {Ls : List Nat}, Frl o [] Ls M1 M2 → (∀ i ∈ Ls, i ∈ [2, 3, 6]) → keepM w M1 M2 := fun g hs b hb _ => by
          have ne : ∀ i ∈ [2, 3, 6], b ≠ o + i := (hw b hb).2
          have y : ∀ k, _ := fun k => g.2.2.2.2.2 b k (fun e => absurd e (hw b hb).1) (fun i hi => ne i (hs i hi))
          exact ⟨⟨by funext k; exact (y k).1, by funext k; exact (y k).2, by rw [g.2.2.2.2.1]⟩, by rw [g.2.2.1], by rw [g.2.2.2.1]⟩
        have hr1 : cMk w M1 r (kM S b) := hr.keep (FM gx) (KM g1 (by decide))
        have dk1 : ∀ k, k < ss.length → vi M1 (o + 6) k = bI (dn (ss.getD k 0)) := fun k hk => by rw [g1.i (by decide) (by decide)]; exact dk k hk
        -- those alike are done too
        have l2 : ∀ (j k : Nat) (M2 : Mem), j + k = ss.length → Frl o [] [6] M1 M2 → (∀ k', k' < ss.length → vi M2 (o + 6) k' = bI ((k' < k ∧ dnN S p dn b (ss.getD k' 0)) ∨ (¬ k' < k ∧ dn (ss.getD k' 0)))) → At G (d + 3) 3 38 [(0, .ref o), (1, .ref a), (2, .int (nI ss.length)), (3, .int (nI i)), (4, .ref r), (5, .int (nI k))] [] M2 (qV Q) := by
          intro j
          induction j with
          | zero =>
            intro k M2 ek g2' hx
            have ek : k = ss.length := by omega
            subst ek
            have gg2 : Frl o [] [2, 3, 6] M M2 := gg.trans (g2'.sub (by decide) (by decide))
            refine c_X0_doMoves_38 (gg2.ob O) ⟨fun _ => ?_, fun y => absurd (nI_le (Nat.le_refl _) (by omega)) y⟩
            rw [nI_1]
            refine ih (i + 1) (dnN S p dn b) (mvB S L b) M2 (by omega) (by omega) mvn h1 et gg2 ?_ (fun k hk => ?_)
            · have en : ∀ z, vi M2 (o + 2) z = vi M1 (o + 2) z := fun z => g2'.i (by decide) (by decide) z
              have eb : ∀ z, vi M2 (o + 3) z = vi M1 (o + 3) z := fun z => g2'.i (by decide) (by decide) z
              exact chn_cg c1 (fun z _ => ⟨en z, eb z⟩)
            · rw [hx k hk]
              exact bI_c ⟨fun y => y.elim (fun u => u.2) (fun u => absurd hk u.1), fun y => Or.inl ⟨hk, y⟩⟩
          | succ j ihb =>
            intro k M2 ek g2' hx
            have hk : k < ss.length := by omega
            have gg2 : Frl o [] [2, 3, 6] M M2 := gg.trans (g2'.sub (by decide) (by decide))
            obtain ⟨m1, m2, m3, m4⟩ := MR gg2
            obtain ⟨is, rk, erk, hrk⟩ := m4 k hk
            have hr2 : cMk w M2 r (kM S b) := hr1.keep (FM gg) (KM g2' (by decide))
            have xk : vi M2 (o + 6) k = bI (dn (ss.getD k 0)) := by
              rw [hx k hk]
              exact bI_c ⟨fun y => y.elim (fun u => absurd u.1 (by omega)) (fun u => u.2), fun y => Or.inr ⟨by omega, y⟩⟩
            have nx : ∀ (M3 : Mem), Frl o [] [6] M1 M3 → (∀ k', k' ≠ k → vi M3 (o + 6) k' = vi M2 (o + 6) k') → vi M3 (o + 6) k = bI (dnN S p dn b (ss.getD k 0)) → At G (d + 3) 3 38 [(0, .ref o), (1, .ref a), (2, .int (nI ss.length)), (3, .int (nI i)), (4, .ref r), (5, .int (nI (k + 1)))] [] M3 (qV Q) := fun M3 g3 h3 h4 => by
              refine ihb (k + 1) M3 (by omega) g3 (fun k' hk' => ?_)
              by_cases y : k' = k
              · rw [y, h4]
                exact bI_c ⟨fun u => Or.inl ⟨by omega, u⟩, fun u => u.elim (fun q => q.2) (fun q => absurd (by omega) q.1)⟩
              · rw [h3 k' y, hx k' hk']
                exact bI_c ⟨fun u => u.elim (fun q => Or.inl ⟨by omega, q.2⟩) (fun q => Or.inr ⟨by omega, q.2⟩), fun u => u.elim (fun q => Or.inl ⟨by omega, q.2⟩) (fun q => Or.inr ⟨by omega, q.2⟩)⟩
            have va : vp_in (nI k) (mA M2 a) := vp_in_nI (by omega) (by omega)
            refine c_X0_doMoves_38 (gg2.ob O) ⟨fun y => absurd y (nI_ge (a := k) (b := ss.length) (by omega) (by omega)), fun _ => ⟨fun y => absurd y (nI_ge (a := k) (b := 64) (by omega) (by decide)), fun _ => ⟨by rw [m1]; decide, fun y => absurd y (nI_ge (a := k) (b := mA M2 a) (by omega) (by omega)), fun _ => ⟨by rw [m1]; decide, va, fun r6 e6 => ?_, fun e6 => ?_⟩⟩⟩⟩
            · rw [nI_clamp (by omega)] at e6
              have e6 : r6 = rk := some_inj erk e6
              subst e6
              refine ⟨hrk.1.k, k_isAlike hrk.1 hr2.1 (V.m is) (V.m ib) ⟨gg2.ob O, ?_⟩⟩
              rw [nI_1, nI_clamp (by omega)]
              refine bz (fun al => ⟨vp_in_nI (by omega) (by omega), fun M9 e9 => ?_⟩) (fun al => nx M2 g2' (fun _ _ => rfl) ?_)
              · refine nx M9 (g2'.trans (by rw [e9]; exact Frl.si (by decide))) (fun k' hk' => by rw [e9, vi_seti, if_neg (fun u => hk' u.2)]) ?_
                rw [e9, vi_seti, if_pos ⟨rfl, rfl⟩]
                exact (bI_T (Or.inr ⟨(sm k hk).1, al⟩)).symm
              · rw [xk]
                exact bI_c ⟨Or.inl, fun u => u.elim id (fun q => absurd q.2 al)⟩
            · rw [nI_clamp (by omega), erk] at e6; cases e6
        refine l2 ss.length 0 M1 rfl Frl.refl (fun k' hk' => ?_)
        rw [dk1 k' hk']
        exact bI_c ⟨fun u => Or.inr ⟨by omega, u⟩, fun u => u.elim (fun q => absurd q.1 (by omega)) (fun q => q.2)⟩
  have k6 : mK M (o + 6) = 15 := ob0_k6 O
  have a6 : mA M (o + 6) = 64 := ob0_l6 O
  refine c_X0_doMoves O (k_fill (b := o) (F := []) (L := [6]) (o := 6) rfl (by decide) k6 (by rw [a6]; decide) (fun M1 g1 z1 _ => ⟨g1.ob O, ?_⟩))
  rw [a6] at z1
  have nm : nMv S p (fun _ => False) ≤ ss.length := by
    rw [es, psl_ct]
    exact ct_le2 64 (fun k _ hk => hk.1)
  refine key ss.length 0 (fun _ => False) (List.range (2 * gN S + 1)) M1 rfl nm (mvI_0 V hp) ⟨_, by rw [List.range_succ_eq_map]⟩ (mvs_m V _ _ nm l6).symm (g1.sub (by decide) (by decide)) (chn_cg hL (fun z _ => ⟨g1.i (by decide) (by decide) z, g1.i (by decide) (by decide) z⟩)) (fun k hk => ?_)
  rw [z1 k (by omega)]
  exact (bI_F id).symm
end
