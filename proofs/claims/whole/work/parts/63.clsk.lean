/-! THE CLASS'S READER OF MARKS -/
theorem wix_s {W : List Int32} : ∀ (ws : List (List Int32)) (k j : Nat), wix W ws k = some j → k ≤ j ∧ j - k < ws.length ∧ ws.getD (j - k) [] = W ∧ ∀ i, i < j - k → ¬ ws.getD i [] = W
  | [], k, j, h => by cases h
  | w :: ws, k, j, h => by
    have h0 : cif (w = W) (some k) (wix W ws (k + 1)) = some j := h
    by_cases c : w = W
    · rw [cif_T c] at h0
      cases h0
      rw [Nat.sub_self]
      exact ⟨Nat.le_refl _, Nat.zero_lt_succ _, c, fun i hi => absurd hi (Nat.not_lt_zero i)⟩
    · rw [cif_F c] at h0
      obtain ⟨h1, h2, h3, h4⟩ := wix_s ws (k + 1) j h0
      have e : j - k = (j - (k + 1)) + 1 := by omega
      rw [e]
      refine ⟨by omega, Nat.succ_lt_succ h2, h3, fun i hi => ?_⟩
      rcases i with _ | i
      · exact c
      · exact h4 i (by omega)
theorem wix_n {W : List Int32} : ∀ (ws : List (List Int32)) (k : Nat), wix W ws k = none → ∀ i, i < ws.length → ¬ ws.getD i [] = W
  | [], k, h, i, hi => absurd hi (Nat.not_lt_zero i)
  | w :: ws, k, h, i, hi => by
    have h0 : cif (w = W) (some k) (wix W ws (k + 1)) = none := h
    by_cases c : w = W
    · rw [cif_T c] at h0; cases h0
    · rw [cif_F c] at h0
      rcases i with _ | i
      · exact c
      · exact wix_n ws (k + 1) h0 i (Nat.lt_of_succ_lt_succ hi)
theorem wix_vIx {t : TpT} {p k : Nat} (h : wix (wAt t p) vWs 0 = some k) : k < 8 ∧ vIx t p = k := by
  obtain ⟨_, h2, h3, h4⟩ := wix_s vWs 0 k h
  rw [Nat.sub_zero] at h2 h3 h4
  exact ⟨h2, fst_y (p := fun k => wAt t p = vWs.getD k []) h3.symm (fun j hj z => h4 j hj z.symm) 8 h2⟩
theorem wix_v8 {t : TpT} {p : Nat} (h : wix (wAt t p) vWs 0 = none) : vIx t p = 8 :=
  fst_n (p := fun k => wAt t p = vWs.getD k []) 8 (fun j hj z => wix_n vWs 0 h j hj z.symm)
noncomputable def nuE (t : TpT) (p lo hi : Nat) : Nat := cif (dl t p = 0) (flt p 0) (cif (3 < dl t p ∨ nV t p < lo ∨ hi ≤ nV t p) (flt p 1) 0)
theorem nuE_F (t : TpT) (p lo hi : Nat) : nuF t p lo hi = nuE t p lo (hi + 1) := rfl
def rE (x b : Nat) : Prop := b = x + 1 ∨ b = x + 15 ∨ b = x + 17
/-- the reader was at work, n MARKS new -/
def Rm (x n : Nat) (M M' : Mem) : Prop := Grw (rE x) M M' ∧ vr M' (x + 1) = vr M (x + 1) ∧ vi M' (x + 1) 1 = vi M (x + 1) 1 ∧ vr M' (x + 15) = vr M (x + 15) ∧ vi M' (x + 15) 1 = vi M (x + 15) 1 ∧ mN M' ≤ mN M + 2 * n ∧ mS M' ≤ mS M + 28 * n
def RDA (M : Mem) (x : Nat) (t : TpT) (S : ShT) (p f : Nat) : Prop := tpA M (x + 1) t p f ∧ ObAt 6 M (x + 15) ∧ ObAt 8 M (x + 3) ∧ frM M ∧ x + 101 ≤ mN M ∧ vi M (x + 3) 1 = nI (gN S) ∧ (∀ k, k < gN S → vi M (x + 4) k = gB S k) ∧ gN S ≤ 200
section
variable {x n n' p f p' f' : Nat} {M M' M'' : Mem} {t : TpT} {S : ShT}
theorem Rm.refl (F : frM M) : Rm x 0 M M := ⟨Grw.refl F, rfl, rfl, rfl, rfl, Nat.le_refl _, Nat.le_refl _⟩
theorem Rm.trans (h : Rm x n M M') (h2 : Rm x n' M' M'') : Rm x (n + n') M M'' :=
  ⟨h.1.trans h2.1, h2.2.1.trans h.2.1, h2.2.2.1.trans h.2.2.1, h2.2.2.2.1.trans h.2.2.2.1, h2.2.2.2.2.1.trans h.2.2.2.2.1, by have := h.2.2.2.2.2.1; have := h2.2.2.2.2.2.1; omega, by have := h.2.2.2.2.2.2; have := h2.2.2.2.2.2.2; omega⟩
theorem Rm.tr0 (h : Rm x 0 M M') (h2 : Rm x n M' M'') : Rm x n M M'' := by
  have := h.trans h2
  rw [Nat.zero_add] at this
  exact this
theorem Rm.tp {F : List Nat} (g : Frl (x + 1) F [] M M') (F0 : frM M) (h1 : 1 ∉ F) : Rm x 0 M M' :=
  ⟨Grw.ofF g F0 (Or.inl rfl) (fun o ho => by cases ho), by rw [g.2.2.2.2.1], g.f h1 (by decide), by rw [g.2.2.2.2.1], (g.2.2.2.2.2 (x + 15) 1 (fun e => by omega) (fun o ho => by cases ho)).1, by rw [g.1]; omega, by rw [g.2.1]; omega⟩
theorem Rm.s3 {v : Int32} (F0 : frM M) : Rm x 0 M (seti M (x + 15) 3 v) :=
  ⟨Grw.si F0 (Or.inr (Or.inl rfl)), rfl, by rw [vi_seti, if_neg (by omega)], rfl, by rw [vi_seti, if_neg (by omega)], Nat.le_refl _, Nat.le_refl _⟩
theorem Rm.st {v : Int32} {k : Nat} (F0 : frM M) : Rm x 0 M (seti M (x + 17) k v) :=
  ⟨Grw.si F0 (Or.inr (Or.inr rfl)), rfl, by rw [vi_seti, if_neg (by omega)], rfl, by rw [vi_seti, if_neg (by omega)], Nat.le_refl _, Nat.le_refl _⟩
theorem Rm.gr (g : Grw (fun _ => False) M M') (h0 : x + 101 ≤ mN M) (hN : mN M' ≤ mN M + 2) (hS : mS M' ≤ mS M + 28) : Rm x 1 M M' :=
  ⟨g.sub (fun _ h => h.elim), ((g.1 (x + 1) (by omega)).2.2 id).2.2, by rw [((g.1 (x + 1) (by omega)).2.2 id).1], ((g.1 (x + 15) (by omega)).2.2 id).2.2, by rw [((g.1 (x + 15) (by omega)).2.2 id).1], hN, hS⟩
theorem RDA.step (h : RDA M x t S p f) (r : Rm x n M M') (ht : tpA M' (x + 1) t p' f') : RDA M' x t S p' f' := by
  have F := h.2.2.2.1
  have lx := h.2.2.2.2.1
  refine ⟨ht, r.1.ob F h.2.1 r.2.2.2.1 (by decide), r.1.ob2 F h.2.2.1 (fun z => by unfold rE at z; omega) (by decide), r.1.2.2.2, Nat.le_trans lx r.1.2.1, ?_, fun k hk => ?_, h.2.2.2.2.2.2.2⟩
  · rw [((r.1.1 (x + 3) (by omega)).2.2 (fun z => by unfold rE at z; omega)).1]; exact h.2.2.2.2.2.1
  · rw [((r.1.1 (x + 4) (by omega)).2.2 (fun z => by unfold rE at z; omega)).1]; exact h.2.2.2.2.2.2.1 k hk
theorem RDA.fr (h : RDA M x t S p f) : frM M := h.2.2.2.1
/-- the tape as it was, other cells changed -/
theorem RDA.keepT (h : RDA M x t S p f) (r : Rm x n M M') (s0 : vi M' (x + 1) = vi M (x + 1)) : RDA M' x t S p f :=
  h.step r (h.1.sm (r.1.ob h.fr h.1.1 r.2.1 (by decide)) s0 ((r.1.1 (x + 2) (by have := h.2.2.2.2.1; omega)).2.2 (fun z => by unfold rE at z; omega)).1)
end
section
variable {G : GT} {d x p f : Nat} {M M' : Mem} {t : TpT} {S : ShT}
theorem k_readNumber0 {a b : Int32} {Q : Int32 → Mem → Prop} (h : RDA M x t S p f) (f0 : ¬ f = 0) (f4 : f < 100000) (hq : Q (-1) M) : CI G (d + 1) 64 [.ref (x + 15), .ref (x + 1), .int a, .int b] M Q := by
  refine c_X6_readNumber h.2.1 h.1.1 ?_
  rw [h.1.ff, il_0, eq_I (by omega) (by omega)]
  exact ⟨fun c => absurd c f0, fun _ => hq⟩
theorem k_readNumber {lo hi : Nat} {a b : Int32} {Q : Int32 → Mem → Prop} (h : RDA M x t S p 0) (p4 : p ≤ t.1) (ea : a = nI lo) (lo4 : lo < 100000) (hb : ∀ v, v < 1000 → (nI v ≤ b ↔ v < hi))
    (hy : nuE t p lo hi = 0 → ∀ M', Rm x 0 M M' → RDA M' x t S (skB t (nX t p)) 0 → vi M' (x + 15) 3 = nI p → Q (nI (nV t p)) M')
    (hn : ¬ nuE t p lo hi = 0 → ∀ M', Rm x 0 M M' → RDA M' x t S p (nuE t p lo hi) → Q (-1) M') : CI G (d + 3) 64 [.ref (x + 15), .ref (x + 1), .int a, .int b] M Q := by
  have t4 := h.1.2.2.1
  have dq := dl_le p4
  refine c_X6_readNumber h.2.1 h.1.1 ?_
  rw [h.1.ff, h.1.pp]
  refine ⟨fun _ M1 e1 => ?_, fun c => absurd rfl c⟩
  have r1 : Rm x 0 M M1 := by rw [e1]; exact Rm.s3 h.fr
  have h1 : RDA M1 x t S p 0 := h.keepT r1 (by rw [e1]; funext k; rw [vi_seti, if_neg (by omega)])
  have e3 : vi M1 (x + 15) 3 = nI p := by rw [e1, vi_seti, if_pos ⟨rfl, rfl⟩]
  -- a FAULT
  have bad : ∀ c, c < 8 → nuE t p lo hi = flt p c → CV G (d + 2) 91 [.ref (x + 1), .int (nI p), .int (nI c)] M1 (fun M6 => (ObAt 6 M6 (x + 15) ∧ ObAt 9 M6 (x + 1)) ∧ Q (-1) M6) := fun c hc e => by
    refine k_fail h1.1 (by omega) (fun M6 g6 h6 => ?_)
    have r6 := Rm.tp g6 h1.fr (by decide)
    rw [if_pos rfl, ← e] at h6
    have H := h1.step r6 h6
    exact ⟨⟨H.2.1, H.1.1⟩, hn (by rw [e]; unfold flt; omega) M6 (r1.tr0 r6) H⟩
  refine k_digits h1.1 p4 ⟨⟨h1.2.1, h1.1.1⟩, ?_⟩
  rw [il_0, eq_I (by omega) (by omega), e3, show (3 : Int32) = nI 3 from rfl, le_I (by omega) (by omega)]
  refine ⟨fun c => ⟨fun c3 => ?_, fun c3 => bad 1 (by omega) ?_⟩, fun c => bad 0 (by omega) ?_⟩
  · refine k_valueOf h1.1 p4 (Nat.le_refl _) (by omega) ⟨⟨h1.2.1, h1.1.1⟩, ?_⟩
    rw [show vlF t p (dl t p) = nV t p from rfl]
    have v3 : nV t p < 1000 := by
      have h6 := vlF_lt (t := t) (p := p) (n := dl t p) (fun i hi => run_in (P := fun i => isD (t.2 i)) _ p rfl i hi)
      have h7 : 10 ^ dl t p ≤ 10 ^ 3 := Nat.pow_le_pow_right (by decide) c3
      unfold nV
      omega
    rw [ea, lt_I (by omega) (by omega), e3]
    refine ⟨fun c5 => bad 1 (by omega) ?_, fun c5 => ⟨fun c6 => ?_, fun c6 => bad 1 (by omega) ?_⟩⟩
    · unfold nuE; rw [cif_F c, cif_T (Or.inr (Or.inl c5))]
    · have c6 := (hb _ v3).mp c6
      refine k_pass h1.1 (by omega) (fun M7 g7 h7 => ?_)
      have r7 := Rm.tp g7 h1.fr (by decide)
      have H := h1.step r7 h7
      refine ⟨⟨H.2.1, H.1.1⟩, hy ?_ M7 (r1.tr0 r7) H ?_⟩
      · unfold nuE; rw [cif_F c, cif_F (fun z => by omega)]
      · rw [(g7.2.2.2.2.2 (x + 15) 3 (fun e => by omega) (fun o ho => by cases ho)).1]; exact e3
    · have c7 : ¬ nV t p < hi := fun z => c6 ((hb _ v3).mpr z)
      unfold nuE; rw [cif_F c, cif_T (Or.inr (Or.inr (by omega)))]
  · unfold nuE; rw [cif_F c, cif_T (Or.inl (by omega))]
  · unfold nuE; rw [cif_T c]
theorem le_b {g : Nat} (hg : g ≤ 200) : ∀ v, v < 1000 → (nI v ≤ nI g ↔ v < g + 1) := fun v hv => by
  rw [le_I (by omega) (by omega)]; omega
/-- the text of an ins -/
theorem k_readText {Q : Int32 → Mem → Prop} (h : RDA M x t S p 0) (p4 : p ≤ t.1)
    (hy : (pTx t 21 p []).1 = 0 → ∀ M', Rm x 0 M M' → RDA M' x t S (skB t (pTx t 21 p []).2.2) 0 → (∀ i, i < (pTx t 21 p []).2.1.length → vi M' (x + 17) i = (pTx t 21 p []).2.1.getD i 0) → Q (nI (pTx t 21 p []).2.1.length) M')
    (hn : ¬ (pTx t 21 p []).1 = 0 → ∀ M' q, Rm x 0 M M' → RDA M' x t S q (pTx t 21 p []).1 → Q 0 M') : CI G (d + 2) 65 [.ref (x + 15), .ref (x + 1)] M Q := by
  have t4 := h.1.2.2.1
  refine c_X6_readText h.2.1 h.1.1 ?_
  generalize hP : pTx t 21 p [] = P at *
  have key : ∀ (k q : Nat) (acc : List Int32) (M1 : Mem), k + acc.length = 21 → acc.length ≤ 20 → q ≤ t.1 → Rm x 0 M M1 → RDA M1 x t S q 0 → (∀ i, i < acc.length → vi M1 (x + 17) i = acc.getD i 0) → P = pTx t k q acc → At G (d + 2) 65 2 [(0, .ref (x + 15)), (1, .ref (x + 1)), (2, .int (nI acc.length))] [] M1 (qI Q) := by
    intro k
    induction k with
    | zero => intro q acc M1 e l4; omega
    | succ k ih =>
      intro q acc M1 e l4 q4 r1 h1 ha pe
      have bad : ∀ c, c < 8 → (P).1 = flt q c → CV G (d + 1) 91 [.ref (x + 1), .int (vi M1 (x + 1) 2), .int (nI c)] M1 (fun M6 => (ObAt 6 M6 (x + 15) ∧ ObAt 9 M6 (x + 1)) ∧ Q 0 M6) := fun c hc e => by
        rw [h1.1.pp]
        refine k_fail h1.1 (by omega) (fun M6 g6 h6 => ?_)
        have r6 := Rm.tp g6 h1.fr (by decide)
        rw [if_pos rfl, ← e] at h6
        have H := h1.step r6 h6
        exact ⟨⟨H.2.1, H.1.1⟩, hn (by rw [e]; unfold flt; omega) M6 q (r1.tr0 r6) H⟩
      unfold pTx at pe
      refine c_X6_readText_2 h1.2.1 h1.1.1 ⟨fun c => absurd c (nI_nlt (a := 20) (b := acc.length) (by omega) (by omega)), fun _ => k_peek h1.1 (by omega) ⟨⟨h1.2.1, h1.1.1⟩, ?_⟩⟩
      by_cases c : q < t.1
      · rw [show pk t q = t.2 q from cif_T c]
        rw [cif_T c] at pe
        have tb := h1.1.2.2.2.1 q c
        have nm : ¬ t.2 q = -1 := fun z => by rw [z] at tb; exact absurd tb.1 (by decide)
        refine ⟨fun c39 => ⟨fun _ => ⟨fun y => absurd y c39, fun _ => ?_⟩, fun y => absurd y nm⟩, fun c39 => ?_⟩
        · rw [cif_F c39] at pe
          refine k_isByte ⟨⟨h1.2.1, h1.1.1⟩, bz (fun ok => ?_) (fun ok => bad 2 (by omega) ?_)⟩
          · rw [show (20 : Int32) = nI 20 from rfl, lt_I (by omega) (by omega)]
            refine ⟨fun y => ⟨vp_in_nI (by omega) (by omega), fun M7 e7 M8 e8 => ?_⟩, fun y => bad 2 (by omega) ?_⟩
            · rw [cif_F (fun z => z.elim (fun z => by omega) (fun z => z ok))] at pe
              rw [nI_clamp (by omega)] at e7
              have r7 : Rm x 0 M1 M7 := by rw [e7]; exact Rm.st h1.fr
              have h7 : RDA M7 x t S q 0 := h1.keepT r7 (by rw [e7]; funext k; rw [vi_seti, if_neg (by omega)])
              rw [h7.1.pp, nI_1] at e8
              have g8 : Frl (x + 1) [2] [] M7 M8 := by rw [e8]; exact Frl.sf (by decide)
              have r8 := Rm.tp g8 h7.fr (by decide)
              have h8 := h7.step r8 (h7.1.pl g8 (by rw [e8, vi_seti, if_pos ⟨rfl, rfl⟩]))
              have el : (acc ++ [t.2 q]).length = acc.length + 1 := by rw [List.length_append]; rfl
              have := ih (q + 1) (acc ++ [t.2 q]) M8 (by omega) (by omega) (by omega) ((r1.tr0 r7).tr0 r8) h8 (fun i hi => ?_) pe
              · rw [el] at this
                rw [nI_1]; exact this
              · rw [e8, vi_seti, if_neg (by omega), e7, vi_seti]
                rw [el] at hi
                by_cases z : i = acc.length
                · rw [if_pos ⟨rfl, z⟩, z, gA_r]
                · rw [if_neg (fun y => z y.2), gA_l (by omega)]; exact ha i (by omega)
            · rw [cif_T (Or.inl (by omega))] at pe
              rw [pe]
          · rw [cif_T (Or.inr ok)] at pe
            rw [pe]
        · rw [cif_T c39] at pe
          rw [il_0, le_I (by omega) (by omega)]
          refine ⟨fun z => ⟨fun _ => ⟨fun _ => bad 2 (by omega) ?_, fun y => absurd c39 y⟩, fun y => absurd y nm⟩, fun z => ?_⟩
          · rw [cif_T (List.length_eq_zero_iff.mp (by omega))] at pe
            rw [pe]
          · rw [cif_F (fun y => by rw [y] at z; exact z (Nat.le_refl _))] at pe
            refine k_pass (n := 1) h1.1 (by omega) (fun M7 g7 h7 => ?_)
            have r7 := Rm.tp g7 h1.fr (by decide)
            have H := h1.step r7 h7
            have y := hy (by rw [pe]) M7 (r1.tr0 r7)
            rw [pe] at y
            refine ⟨⟨H.2.1, H.1.1⟩, y H (fun i hi => ?_)⟩
            rw [(g7.2.2.2.2.2 (x + 17) i (fun e => by omega) (fun o ho => by cases ho)).1]; exact ha i hi
      · rw [show pk t q = -1 from cif_F c]
        rw [cif_F c] at pe
        have f0 := bad 0 (by omega) (by rw [pe])
        exact ⟨fun _ => ⟨fun y => absurd rfl y, fun _ => f0⟩, fun y => absurd y (by decide)⟩
  exact key 21 p [] M rfl (by decide) p4 (Rm.refl h.fr) h (fun i hi => absurd hi (Nat.not_lt_zero i)) hP.symm
end
