/-! READING MARKS: the reference, a slot -/
def mkLs : List Nat := [7, 8, 9, 10, 11, 12]
/-- of the MARKS' arrays the slot s alone changed -/
def FrS (m s : Nat) (L : List Nat) (M M' : Mem) : Prop :=
  Frl m [14, 15] L M M' ∧ (∀ o, o ∈ L → o ≠ 12 → ∀ j, j ≠ s → vi M' (m + o) j = vi M (m + o) j) ∧ ∀ j, (j < 20 * s ∨ 20 * s + 20 ≤ j) → vi M' (m + 12) j = vi M (m + 12) j
section
variable {G : GT} {d : Nat} {M M' M'' : Mem} {m p s : Nat} {L L' : List Nat} {T : StT}
theorem FrS.refl : FrS m s L M M := ⟨Frl.refl, fun _ _ _ _ _ => rfl, fun _ _ => rfl⟩
theorem FrS.trans (h : FrS m s L M M') (h2 : FrS m s L M' M'') : FrS m s L M M'' := ⟨h.1.trans h2.1, fun o ho h12 j hj => (h2.2.1 o ho h12 j hj).trans (h.2.1 o ho h12 j hj), fun j hj => (h2.2.2 j hj).trans (h.2.2 j hj)⟩
theorem FrS.sub (h : FrS m s L M M') (hL : ∀ o, o ∈ L → o ∈ L') (h0 : 0 ∉ L') : FrS m s L' M M' :=
  ⟨h.1.sub (fun _ z => z) hL, fun o ho h12 j hj => by
    by_cases z : o ∈ L
    · exact h.2.1 o z h12 j hj
    · exact h.1.i z (Nat.pos_of_ne_zero (fun e => h0 (e ▸ ho))) j, h.2.2⟩
theorem FrS.ofF (f : Frl m [14, 15] [] M M') (h0 : 0 ∉ L) : FrS m s L M M' :=
  FrS.sub (L := []) ⟨f, fun _ h => (by cases h), fun j _ => f.i (o := 12) (by simp) (by decide) j⟩ (fun _ h => (by cases h)) h0
theorem FrS.si {o : Nat} {x : Int32} (ho : o ∈ L) (h12 : o ≠ 12) : FrS m s L M (seti M (m + o) s x) :=
  ⟨Frl.si ho, fun q _ _ j hj => by rw [vi_seti, if_neg (fun z => hj z.2)], fun j hj => by rw [vi_seti, if_neg (fun z => by omega)]⟩
theorem FrS.st {i : Nat} {x : Int32} (ho : 12 ∈ L) (hi : i < 20) : FrS m s L M (seti M (m + 12) (20 * s + i) x) :=
  ⟨Frl.si ho, fun q _ h12 j hj => by rw [vi_seti, if_neg (fun z => by omega)], fun j hj => by rw [vi_seti, if_neg (fun z => by omega)]⟩
theorem RX.slot (W : RX M m T) (f : FrS m s L M M') (hs : ¬ isM (sh T) s) (hL : ∀ o, o ∈ L → o ∈ mkLs) : RX M' m T := by
  have V := W.rs.2.1
  have hz : ∀ o, (o < 7 ∨ 12 < o) → o ∉ L := fun o ho h => by
    have := hL o h
    simp [mkLs] at this
    omega
  have r := W.rs.2.2
  have e : ∀ o, (o < 7 ∨ 12 < o) → 0 < o → ∀ k, vi M' (m + o) k = vi M (m + o) k := fun o h1 h2 k => f.1.i (hz o h1) h2 k
  have ne : ∀ s', isM (sh T) s' → s' ≠ s := fun s' h1 h2 => hs (h2 ▸ h1)
  have es : ∀ o, 7 ≤ o → o ≤ 11 → ∀ s', isM (sh T) s' → vi M' (m + o) s' = vi M (m + o) s' := fun o h1 h2 s' hs' => by
    by_cases z : o ∈ L
    · exact f.2.1 o z (by omega) s' (ne s' hs')
    · exact f.1.i z (by omega) s'
  refine W.upd f.1 (fun o ho => hz o (by omega)) ⟨by decide, by decide⟩ rfl V ?_ W.t4 (fun k hk => W.tk hk) ?_ (fun k hk => ?_)
  · refine ⟨⟨?_, ?_, ?_⟩, fun k hk => ?_, fun k hk => ?_, fun k hk => ?_, fun k hk => ?_, fun k hk => ?_, fun s' hs' => ⟨?_, ?_, ?_, ?_, ?_, fun i hi => ?_⟩⟩
    · show vi M' (m + 1) 0 = _
      rw [e 1 (by omega) (by omega)]; exact r.g
    · show vi M' (m + 1) 1 = _
      rw [e 1 (by omega) (by omega)]; exact r.w
    · show vi M' (m + 1) 2 = _
      rw [e 1 (by omega) (by omega)]; exact r.h
    · show vi M' (m + 2) k = _
      rw [e 2 (by omega) (by omega)]; exact r.gb hk
    · show vi M' (m + 3) k = _
      rw [e 3 (by omega) (by omega)]; exact r.wb hk
    · show vi M' (m + 4) k = _
      rw [e 4 (by omega) (by omega)]; exact r.r hk
    · show vi M' (m + 5) k = _
      rw [e 5 (by omega) (by omega)]; exact r.c hk
    · show vi M' (m + 6) k = _
      rw [e 6 (by omega) (by omega)]; exact r.k hk
    · show vi M' (m + 7) s' = _
      rw [es 7 (by omega) (by omega) s' hs']; exact r.m7 hs'
    · show vi M' (m + 8) s' = _
      rw [es 8 (by omega) (by omega) s' hs']; exact r.m8 hs'
    · show vi M' (m + 9) s' = _
      rw [es 9 (by omega) (by omega) s' hs']; exact r.m9 hs'
    · show vi M' (m + 10) s' = _
      rw [es 10 (by omega) (by omega) s' hs']; exact r.m10 hs'
    · show vi M' (m + 11) s' = _
      rw [es 11 (by omega) (by omega) s' hs']; exact r.m11 hs'
    · show vi M' (m + 12) (20 * s' + i) = _
      have := len20 V hs'
      have := ne s' hs'
      rw [f.2.2 _ (by omega)]; exact r.m12 hs' hi
  · rw [f.1.f (by decide) (hz 0 (by omega))]; exact W.t
  · rw [e 13 (by omega) (by omega)]; exact W.tb hk
/-- the text is in the slot -/
def txS (M : Mem) (m s : Nat) (tx : List Int32) : Prop := ∀ i, i < tx.length → vi M (m + 12) (20 * s + i) = tx.getD i 0
theorem s_text {Q : Mem → Prop} (W : RX M m T) (s6 : s < 64) (ns : ¬ isM (sh T) s)
    (hy : ∀ tx nx M', FrS m s [11, 12] M M' → txS M' m s tx → vi M' (m + 11) s = nI tx.length → vi M' m 14 = nI nx → vi M' m 15 = nI 0 → pTx T.1 21 p [] = (0, tx, nx) → Q M')
    (hn : ∀ f M', ¬ f = 0 → (pTx T.1 21 p []).1 = f → FrS m s [11, 12] M M' → vi M' m 15 = nI f → Q M') :
    ∀ (fu pp : Nat) (acc : List Int32) (M1 : Mem), fu + acc.length = 21 → acc.length ≤ 20 → pp ≤ T.1.1 → pTx T.1 21 p [] = pTx T.1 fu pp acc → FrS m s [11, 12] M M1 → txS M1 m s acc → vi M1 m 14 = nI pp → vi M1 m 15 = nI 0 → At G (d + 3) 192 51 [(0, .ref m), (1, .int (nI s)), (2, .int (nI acc.length))] [] M1 (qV Q) := by
  have t4 : T.1.1 ≤ 400 := W.t4
  have tN4 : tN T = T.1.1 := rfl
  have l11 : ∀ o, o ∈ [11, 12] → o ∈ mkLs := by decide
  -- a fault was told: to the end
  have bad : ∀ (M1 : Mem) (n f q : Nat), n ≤ 20 → ¬ f = 0 → f < 100000 → (pTx T.1 21 p []).1 = f → FrS m s [11, 12] M M1 → vi M1 m 14 = nI q → vi M1 m 15 = nI f → At G (d + 3) 192 199 [(0, .ref m), (1, .int (nI s)), (2, .int (nI n))] [] M1 (qV Q) := by
    intro M1 n f q n20 hf0 hf4 hf fr e1 e2
    refine r_readsText_199 (fr.1.ra W.1) ?_
    intro M2 h2
    refine ⟨vp_in_nI s6 (by omega), ?_⟩
    rw [nI_clamp (by omega)]
    intro M3 h3
    refine hn f M3 hf0 hf ?_ ?_
    · rw [h3]
      refine fr.trans (FrS.trans (M' := M2) (FrS.ofF ?_ (by decide)) (FrS.si (by decide) (by decide)))
      rw [h2]; exact Frl.sf (by decide)
    · rw [h3, vi_seti, if_neg (by omega), h2, vi_seti, if_neg (by omega)]; exact e2
  have bad2 : ∀ (M1 : Mem) (n f q : Nat), n ≤ 20 → ¬ f = 0 → f < 100000 → (pTx T.1 21 p []).1 = f → FrS m s [11, 12] M M1 → vi M1 m 14 = nI q → vi M1 m 15 = nI f → At G (d + 3) 192 51 [(0, .ref m), (1, .int (nI s)), (2, .int (nI n))] [] M1 (qV Q) := by
    intro M1 n f q n20 hf0 hf4 hf fr e1 e2
    have nz : ¬ vi M1 m 15 = 0 := by rw [e2]; exact nI_ne0 (by omega) (by omega)
    exact r_readsText_51 (fr.1.ra W.1) ⟨fun _ => r_readsText_179 (fr.1.ra W.1) ⟨fun _ => bad M1 n f q n20 hf0 hf4 hf fr e1 e2, fun z => absurd z nz⟩, fun z => absurd z nz⟩
  intro fu
  induction fu with
  | zero => 
    intro pp acc M1 h1 h20 h2 h3 fr tx e1 e2
    exact absurd h20 (by omega)
  | succ fu ih => 
    intro pp acc M1 h1 h20 h2 h3 fr tx e1 e2
    have W1 := W.slot fr ns l11
    have R1 := W1.1
    have z0 : vi M1 m 15 = 0 := e2
    have e3 : pTx T.1 21 p [] = cif (pp < T.1.1) (cif (T.1.2 pp = 39) (cif (acc = []) (flt pp 2, [], 0) (0, acc, pp + 1)) (cif (acc.length = 20 ∨ ¬ okB (T.1.2 pp)) (flt pp 2, [], 0) (pTx T.1 fu (pp + 1) (acc ++ [T.1.2 pp])))) (flt pp 0, [], 0) := h3
    have fl : ∀ c, c < 8 → ¬ flt pp c = 0 ∧ flt pp c < 100000 := fun c hc => by unfold flt; omega
    -- a fault is told
    have tell : ∀ c, c < 8 → (pTx T.1 21 p []).1 = flt pp c → CV G (d + 2) 173 [.ref m, .int (nI c), .int (vi M1 m 14)] M1 (fun M9 => RefAt M9 m ∧ (At G (d + 3) 192 51 [(0, .ref m), (1, .int (nI s)), (2, .int (nI acc.length))] [] M9 (qV Q))) := fun c hc hf => by
      rw [e1]
      refine s_fails R1 e2 (by omega) (by omega) hc (fun M2 f2 h4 => ?_)
      have g : FrS m s [11, 12] M M2 := fr.trans (FrS.ofF (f2.sub (by decide) (by decide)) (by decide))
      refine ⟨g.1.ra W.1, bad2 M2 acc.length (flt pp c) pp h20 (fl c hc).1 (fl c hc).2 hf g ?_ ?_⟩
      · rw [f2.f (by decide) (by decide)]; exact e1
      · rw [h4, if_pos rfl]
    have e83 : ¬ (pp < T.1.1 ∧ T.1.2 pp = 39) → At G (d + 3) 192 83 [(0, .ref m), (1, .int (nI s)), (2, .int (nI acc.length))] [] M1 (qV Q) := by
      intro n39
      refine r_readsText_83 R1 ?_
      rw [W1.t]
      refine ⟨fun c => ?_, fun c => tell 0 (by omega) ?_⟩
      · rw [e1, lt_I (by omega) (by omega)] at c
        have cp : pp < T.1.1 := c
        have c39 : ¬ T.1.2 pp = 39 := fun z => n39 ⟨cp, z⟩
        rw [cif_T cp, cif_F c39] at e3
        have tk := W1.tk c
        rw [show (20 : Int32) = nI 20 from rfl, eq_I (by omega) (by omega)]
        refine ⟨fun c20 => r_readsText_131 R1 (tell 2 (by omega) ?_), fun c20 => ?_⟩
        · rw [e3, cif_T (Or.inl c20)]
        · rw [e1, nI_clamp (by omega), W1.tb c, and255 tk]
          refine ⟨vp_in_nI (by omega) (by omega), s_isByte ⟨R1, bnz (fun ob => ?_) (fun ob => r_readsText_131 R1 (tell 2 (by omega) ?_))⟩⟩
          · rw [e1, nI_clamp (by omega), W1.tb c, pk_mul, nI_add, nI_clamp (by omega), okB_sb ob]
            refine ⟨vp_in_nI (by omega) (by omega), vp_in_nI (by omega) (by omega), ?_⟩
            intro M6 h6 M7 h7
            have r14 : vi M6 m 14 = nI pp := by rw [h6, vi_seti, if_neg (by omega)]; exact e1
            rw [r14, nI_1] at h7
            have hb : okB (T.1.2 pp) := ob
            rw [cif_F (fun z => z.elim c20 (fun y => y hb))] at e3
            rw [nI_1]
            have ll : (acc ++ [T.1.2 pp]).length = acc.length + 1 := by simp
            rw [← ll]
            refine ih (pp + 1) (acc ++ [T.1.2 pp]) M7 (by omega) (by omega) (by omega) e3 ?_ (fun i hi => ?_) ?_ ?_
            · refine fr.trans (FrS.trans (M' := M6) ?_ (FrS.ofF ?_ (by decide)))
              · rw [h6]; exact FrS.st (by decide) (by omega)
              · rw [h7]; exact Frl.sf (by decide)
            · rw [ll] at hi
              rw [h7, vi_seti, if_neg (by omega), h6, vi_seti]
              by_cases z : i = acc.length
              · rw [if_pos ⟨rfl, by omega⟩, z]
                rw [List.getD_eq_getElem?_getD, List.getElem?_append_right (Nat.le_refl _)]
                simp
                rfl
              · rw [if_neg (fun y => z (by omega)), tx i (by omega), List.getD_eq_getElem?_getD, List.getD_eq_getElem?_getD, List.getElem?_append_left (by omega)]
            · rw [h7, vi_seti, if_pos ⟨rfl, rfl⟩]
            · rw [h7, vi_seti, if_neg (by omega), h6, vi_seti, if_neg (by omega)]; exact e2
          · rw [e3, cif_T (Or.inr (show ¬ okB (T.1.2 pp) from ob))]
      · rw [e1, lt_I (by omega) (by omega)] at c
        rw [e3, cif_F (show ¬ pp < T.1.1 from c)]
    refine r_readsText_51 R1 ⟨fun c => absurd z0 c, fun _ => ?_⟩
    rw [W1.t, e1, le_I (by omega) (by omega)]
    refine ⟨fun c => e83 (fun z => by omega), fun c => ⟨vp_in_nI (by omega) (by omega), ?_⟩⟩
    have hk : pp < tN T := by omega
    rw [nI_clamp (by omega), W1.tb hk, sb_inj (W1.tk hk) ⟨by decide, by decide⟩]
    refine ⟨fun c39 => r_readsText_179 R1 ⟨fun c => absurd z0 c, fun _ => ⟨fun c0 => ?_, fun c0 => ?_⟩⟩, fun c39 => e83 (fun z => c39 z.2)⟩
    · rw [il_0, eq_I (by omega) (by omega)] at c0
      have na : ¬ acc = [] := fun z => c0 (by rw [z]; rfl)
      rw [cif_T (show pp < T.1.1 from hk), cif_T (show T.1.2 pp = 39 from c39), cif_F na] at e3
      refine r_readsText_199 R1 ?_
      rw [e1, nI_1]
      intro M2 h4
      refine ⟨vp_in_nI s6 (by omega), ?_⟩
      rw [nI_clamp (by omega)]
      intro M3 h5
      refine hy acc (pp + 1) M3 ?_ (fun i hi => ?_) ?_ ?_ ?_ e3
      · rw [h5]
        refine fr.trans (FrS.trans (M' := M2) (FrS.ofF ?_ (by decide)) (FrS.si (by decide) (by decide)))
        rw [h4]; exact Frl.sf (by decide)
      · rw [h5, vi_seti, if_neg (by omega), h4, vi_seti, if_neg (by omega)]; exact tx i hi
      · rw [h5, vi_seti, if_pos ⟨rfl, rfl⟩]
      · rw [h5, vi_seti, if_neg (by omega), h4, vi_seti, if_pos ⟨rfl, rfl⟩]
      · rw [h5, vi_seti, if_neg (by omega), h4, vi_seti, if_neg (by omega)]; exact e2
    · rw [il_0, eq_I (by omega) (by omega)] at c0
      have na : acc = [] := List.eq_nil_of_length_eq_zero c0
      rw [cif_T (show pp < T.1.1 from hk), cif_T (show T.1.2 pp = 39 from c39), cif_T na] at e3
      rw [e1]
      refine s_fails (c := 2) R1 e2 (by omega) (by omega) (by omega) (fun M2 f2 h4 => ?_)
      have g : FrS m s [11, 12] M M2 := fr.trans (FrS.ofF (f2.sub (by decide) (by decide)) (by decide))
      refine ⟨g.1.ra W.1, bad M2 acc.length (flt pp 2) pp h20 (fl 2 (by omega)).1 (fl 2 (by omega)).2 (by rw [e3]) g ?_ ?_⟩
      · rw [f2.f (by decide) (by decide)]; exact e1
      · rw [h4, if_pos rfl]
/-- the rest of an ins -/
theorem s_readsText {Q : Mem → Prop} (W : RX M m T) (s6 : s < 64) (ns : ¬ isM (sh T) s) (hp : vi M m 14 = nI p) (p4 : p ≤ T.1.1) (hf : vi M m 15 = nI 0)
    (hy : skB T.1 p < T.1.1 ∧ T.1.2 (skB T.1 p) = 39 → ∀ tx nx M', pTx T.1 21 (skB T.1 p + 1) [] = (0, tx, nx) → FrS m s [11, 12] M M' → txS M' m s tx → vi M' (m + 11) s = nI tx.length → vi M' m 14 = nI nx → vi M' m 15 = nI 0 → Q M')
    (hn : ∀ f M', ¬ f = 0 → (¬ (skB T.1 p < T.1.1 ∧ T.1.2 (skB T.1 p) = 39) ∧ f = flt (skB T.1 p) 0) ∨ ((skB T.1 p < T.1.1 ∧ T.1.2 (skB T.1 p) = 39) ∧ (pTx T.1 21 (skB T.1 p + 1) []).1 = f) → FrS m s [11, 12] M M' → vi M' m 15 = nI f → Q M') : CV G (d + 3) 192 [.ref m, .int (nI s)] M Q := by
  have t4 : T.1.1 ≤ 400 := W.t4
  have tN4 : tN T = T.1.1 := rfl
  have sk := skB_le p4
  refine r_readsText W.1 (s_blanks W hp (by omega) (fun M1 f1 h1 => ?_))
  have W1 := W.fr f1 (fun o ho => by simp <;> omega) (by decide)
  have g1 : FrS m s [11, 12] M M1 := FrS.ofF (f1.sub (by decide) (by decide)) (by decide)
  have e2 : vi M1 m 15 = nI 0 := by rw [f1.f (by decide) (by decide)]; exact hf
  have e29 : ¬ (skB T.1 p < T.1.1 ∧ T.1.2 (skB T.1 p) = 39) → At G (d + 3) 192 29 [(0, .ref m)] [] M1 (qV Q) := fun z => by
    refine r_readsText_29 W1.1 ?_
    rw [h1]
    refine s_fails (c := 0) W1.1 e2 (by omega) (by omega) (by omega) (fun M2 f2 h4 => ?_)
    have g : FrS m s [11, 12] M M2 := g1.trans (FrS.ofF (f2.sub (by decide) (by decide)) (by decide))
    refine ⟨g.1.ra W.1, hn (flt (skB T.1 p) 0) M2 (by unfold flt; omega) (Or.inl ⟨z, rfl⟩) g ?_⟩
    rw [h4, if_pos rfl]
  refine ⟨W1.1, ?_⟩
  rw [W1.t, h1, le_I (by omega) (by omega)]
  refine ⟨fun c => e29 (fun z => by omega), fun c => ⟨vp_in_nI (by omega) (by omega), ?_⟩⟩
  have hk : skB T.1 p < tN T := by omega
  rw [nI_clamp (by omega), W1.tb hk, sb_inj (W1.tk hk) ⟨by decide, by decide⟩, nI_1]
  refine ⟨fun c39 => ?_, fun c39 => e29 (fun z => c39 z.2)⟩
  intro M2 e3
  have yes : skB T.1 p < T.1.1 ∧ T.1.2 (skB T.1 p) = 39 := ⟨hk, c39⟩
  have g2 : FrS m s [11, 12] M M2 := g1.trans (FrS.ofF (by rw [e3]; exact Frl.sf (by decide)) (by decide))
  exact s_text W s6 ns (fun tx nx M' a1 a2 a3 a4 a5 a6 => hy yes tx nx M' a6 a1 a2 a3 a4 a5) (fun f M' a1 a2 a3 a4 => hn f M' a1 (Or.inr ⟨yes, a2⟩) a3 a4) 21 (skB T.1 p + 1) [] M2 rfl (by decide) (by omega) rfl g2 (fun i hi => absurd hi (by simp)) (by rw [e3, vi_seti, if_pos ⟨rfl, rfl⟩]) (by rw [e3, vi_seti, if_neg (by omega)]; exact e2)
end
