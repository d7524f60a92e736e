/-! THE TEXT: the class composes -/
theorem chn_at {nx bf : Nat → Int32} : ∀ {L : List Nat} {l r : Int32}, chn nx bf l L r → ∀ k, k < L.length → nx (L.getD k 0) = if k + 1 < L.length then nI (L.getD (k + 1) 0) else r
  | [], _, _, _, k, hk => absurd hk (Nat.not_lt_zero k)
  | [x], l, r, h, k, hk => by
    have hk : k < 1 := hk
    have e : k = 0 := by omega
    subst e
    rw [if_neg (by show ¬ 0 + 1 < 1; omega)]; exact h.2
  | x :: y :: t, l, r, h, k, hk => by
    cases k with
    | zero => rw [if_pos (by show 0 + 1 < t.length + 2; omega)]; exact h.2.1
    | succ k =>
      have ih := chn_at h.2.2 k (by simpa using hk)
      show nx ((y :: t).getD k 0) = if k + 1 + 1 < (y :: t).length + 1 then nI ((y :: t).getD (k + 1) 0) else r
      rw [ih]
      by_cases c : k + 1 < (y :: t).length
      · rw [if_pos c, if_pos (by omega)]
      · rw [if_neg c, if_neg (by omega)]
section
variable {S : ShT} {p : Nat → Prop} {q : Nat}
theorem covL_p {k : Int32} : covL S (psl p 64) k q ↔ cov S p k q := by
  unfold covL cov
  exact ⟨fun ⟨s, h1, h2⟩ => ⟨s, (psl_mem.mp h1).1, (psl_mem.mp h1).2, h2⟩, fun ⟨s, h1, h2, h3⟩ => ⟨s, psl_mem.mpr ⟨h1, h2⟩, h3⟩⟩
theorem puI_p {s : Nat} : puI S (psl p 64) q s ↔ s < 64 ∧ isI S p q s := by
  unfold puI isI
  rw [psl_mem]
  exact ⟨fun h => ⟨h.1.1, h.1.2, h.2⟩, fun h => ⟨⟨h.1, h.2.1⟩, h.2.2⟩⟩
theorem iTx_e (hp : pOk S p) {s : Nat} (s6 : s < 64) (h : isI S p q s) : iTx S p q = kX (kM S s) := by
  have f6 : fst (isI S p q) 64 < 64 := by
    rcases Nat.lt_or_ge (fst (isI S p q) 64) 64 with z | z
    · exact z
    · exact absurd h (fst_no 64 s (by omega))
  have hi := fst_in (p := isI S p q) 64 f6
  unfold iTx
  rw [cif_T f6]
  generalize fst (isI S p q) 64 = u at *
  have c := hp.2 u s hi.1 h.1
  unfold ck at c
  rw [cif_F (by rw [hi.2.1, h.2.1]; decide)] at c
  unfold ck0 at c
  rw [cif_T hi.2.1, cif_T h.2.1] at c
  have e : kM S u = kM S s := Classical.byContradiction (fun n => by
    rw [cif_T ⟨hi.2.2.trans h.2.2.symm, n⟩] at c; exact absurd c (by decide))
  rw [e]
theorem iTx_0 (h : ¬ ∃ s, s < 64 ∧ isI S p q s) : iTx S p q = [] := by
  unfold iTx
  rw [fst_n 64 (fun j hj z => h ⟨j, hj, z⟩), cif_F (by omega)]
theorem out_b (V : okS S) (hp : pOk S p) {c : Int32} (ec : c = gB S q) : cif (tch S (psl p 64) q = 1) [] [cif ((tch S (psl p 64) q = 2 ∧ isS c) ∨ (tch S (psl p 64) q = 3 ∧ isU c)) (c ^^^ 32) c] = outI S p (2 * q + 1) := by
  have eo : outI S p (2 * q + 1) = cif (cov S p 1 q) [] [ltr S p q (gB S q)] := by
    unfold outI
    rw [if_neg (by omega), show (2 * q + 1) / 2 = q by omega]
  rw [eo, ← ec]
  have t1 : tch S (psl p 64) q = cif (cov S p 1 q) 1 (cif (cov S p 2 q) 2 (cif (cov S p 3 q) 3 (-1))) := by
    unfold tch
    rw [propext (covL_p (k := 1)), propext (covL_p (k := 2)), propext (covL_p (k := 3))]
  rw [t1]
  have n23 : cov S p 2 q → ¬ cov S p 3 q := fun a b => no23 V hp (i := 64) (i' := 64) a b
  by_cases c1 : cov S p 1 q
  · rw [cif_T c1, cif_T rfl, cif_T c1]
  · rw [cif_F c1, cif_F c1]
    unfold ltr
    by_cases c2 : cov S p 2 q
    · rw [cif_T c2, cif_F (by decide)]
      have c3 := n23 c2
      by_cases s : isS c
      · rw [cif_T (Or.inl ⟨rfl, s⟩), cif_T ⟨c2, s⟩, xor_s s]
      · rw [cif_F (fun z => z.elim (fun u => s u.2) (fun u => absurd u.1 (by decide))), cif_F (fun z => s z.2), cif_F (fun z => c3 z.1)]
    · rw [cif_F c2]
      by_cases c3 : cov S p 3 q
      · rw [cif_T c3, cif_F (show ¬ (3 : Int32) = 1 by decide), cif_F (show ¬ (cov S p 2 q ∧ isS c) from fun z => c2 z.1)]
        by_cases s : isU c
        · rw [cif_T (show ((3 : Int32) = 2 ∧ isS c) ∨ ((3 : Int32) = 3 ∧ isU c) from Or.inr ⟨rfl, s⟩), cif_T (show cov S p 3 q ∧ isU c from ⟨c3, s⟩), xor_u s]
        · rw [cif_F (show ¬ (((3 : Int32) = 2 ∧ isS c) ∨ ((3 : Int32) = 3 ∧ isU c)) from fun z => z.elim (fun u => absurd u.1 (by decide)) (fun u => s u.2)), cif_F (show ¬ (cov S p 3 q ∧ isU c) from fun z => s z.2)]
      · rw [cif_F c3, cif_F (show ¬ (-1 : Int32) = 1 by decide), cif_F (show ¬ (cov S p 2 q ∧ isS c) from fun z => c2 z.1), cif_F (show ¬ (cov S p 3 q ∧ isU c) from fun z => c3 z.1), cif_F (show ¬ (((-1 : Int32) = 2 ∧ isS c) ∨ ((-1 : Int32) = 3 ∧ isU c)) from fun z => z.elim (fun u => absurd u.1 (by decide)) (fun u => absurd u.1 (by decide)))]
end
section
variable {G : GT} {d : Nat} {M M' : Mem} {o a b : Nat} {w : Nat → Nat} {S : ShT} {L ss : List Nat} {p dn : Nat → Prop}
theorem k_write {r n : Nat} {x : MkT} {T : List Int32} {Q : Mem → Prop} (O : ObAt 0 M o) (Fm : frM M) (hr : cMk w M r x) (k0 : kK x = 0) (x20 : (kX x).length ≤ 20) (hw : ∀ b, w b = 2 → b ≠ o ∧ ∀ i ∈ [1], b ≠ o + i) (h : txK M o T) (hq : ∀ M', Frv o [1] [1] M M' → txK M' o (T ++ kX x) → Q M') : CV G (d + 3) 8 [.ref o, .ref r] M Q := by
  have KM : ∀ {M' : Mem}, Frv o [1] [1] M M' → keepM w M M' := fun g b hb _ => ⟨g.2.2.2.2.1 b (hw b hb).1 (hw b hb).2, by rw [g.2.2.1], by rw [g.2.2.2.1]⟩
  rcases hr.1.f5 with ⟨z, _⟩ | ⟨_, t, e1, e2, e3, e4⟩
  · exact absurd k0 z
  · refine c_X0_write O hr.1.k ⟨fun r1 _ => ?_, fun e => (by rw [e1] at e; cases e)⟩
    have key : ∀ (j i : Nat) (Mx : Mem), j + i = (kX x).length → Frv o [1] [1] M Mx → txK Mx o (T ++ (kX x).take i) → At G (d + 3) 8 14 [(0, .ref o), (1, .ref r), (2, .int (nI i))] [] Mx (qV Q) := by
      intro j
      induction j with
      | zero =>
        intro i Mx e gx tx
        have hr' := hr.keep Fm (KM gx)
        have st := KM gx t (hr.2.2 t e1) (Fm.lt (by rw [e2]; decide))
        have so := KM gx r hr.2.1 (Fm.lt (by rw [hr.1.k]; decide))
        refine c_X0_write_14 (gx.ob O) hr'.1.k ⟨fun r2 e5 => ?_, fun e5 => (by rw [so.1.2.2, e1] at e5; cases e5)⟩
        rw [so.1.2.2] at e5
        have e5 : r2 = t := some_inj e1 e5
        subst e5
        rw [st.2.1, st.2.2, e2, e3, le_I (by omega) (by omega)]
        rw [show i = (kX x).length by omega, List.take_length] at tx
        exact ⟨by decide, fun _ => hq Mx gx tx, fun z => absurd (by omega) z⟩
      | succ j ih =>
        intro i Mx e gx tx
        have hr' := hr.keep Fm (KM gx)
        have st := KM gx t (hr.2.2 t e1) (Fm.lt (by rw [e2]; decide))
        have so := KM gx r hr.2.1 (Fm.lt (by rw [hr.1.k]; decide))
        refine c_X0_write_14 (gx.ob O) hr'.1.k ⟨fun r2 e5 => ?_, fun e5 => (by rw [so.1.2.2, e1] at e5; cases e5)⟩
        rw [so.1.2.2] at e5
        have e5 : r2 = t := some_inj e1 e5
        subst e5
        rw [st.2.1, st.2.2, e2, e3, le_I (by omega) (by omega)]
        refine ⟨by decide, fun z => absurd z (by omega), fun _ => ⟨fun r3 e6 => ?_, fun e6 => (by rw [so.1.2.2, e1] at e6; cases e6)⟩⟩
        rw [so.1.2.2] at e6
        have e6 : r3 = r2 := some_inj e1 e6
        subst e6
        rw [st.2.1, st.2.2, e2, e3, nI_clamp (by omega), st.1.1, e4 i (by omega), nI_1]
        refine ⟨rfl, vp_in_nI (by omega) (by omega), k_writeByte (gx.ob O) tx (fun M1 g1 t1 => ?_)⟩
        have gg := gx.trans g1
        have hr1 := hr.keep Fm (KM gg)
        refine ⟨⟨gg.ob O, hr1.1.k⟩, ih (i + 1) M1 (by omega) gg ?_⟩
        rw [cif_F (by decide), cif_F (fun z => z.elim (fun u => absurd u.1 (by decide)) (fun u => absurd u.1 (by decide)))] at t1
        have ts : (kX x).take (i + 1) = (kX x).take i ++ [(kX x).getD i 0] := by
          rw [List.take_succ_eq_append_getElem (by omega), List.getD_eq_getElem?_getD, List.getElem?_eq_getElem (by omega)]; rfl
        rw [ts, ← List.append_assoc]
        exact t1
    exact key _ 0 M rfl Frv.refl (by rw [List.take_zero, List.append_nil]; exact h)
theorem its_I (V : okS S) (hp : pOk S p) : ∃ dn, mvI S p dn (its S p) := by
  have key : ∀ (n : Nat) (dn : Nat → Prop) (L : List Nat), mvI S p dn L → ∃ dn', mvI S p dn' (mvs S p n dn L) := by
    intro n
    induction n with
    | zero => intro dn L h; exact ⟨dn, h⟩
    | succ n ih =>
      intro dn L h
      show ∃ dn', mvI S p dn' (match wd S p dn 64 with | none => L | some b => mvs S p n (dnN S p dn b) (mvB S L b))
      cases hb : wd S p dn 64 with
      | none => exact ⟨dn, h⟩
      | some b => exact ih _ _ (h.s V hp hb)
  exact key 64 _ _ (mvI_0 V hp)
theorem its_0 (V : okS S) (hp : pOk S p) : ∃ L', its S p = 0 :: L' := by
  have key : ∀ (n : Nat) (dn : Nat → Prop) (L : List Nat), mvI S p dn L → (∃ L', L = 0 :: L') → ∃ L', mvs S p n dn L = 0 :: L' := by
    intro n
    induction n with
    | zero => intro dn L _ h; exact h
    | succ n ih =>
      intro dn L mv h
      show ∃ L', (match wd S p dn 64 with | none => L | some b => mvs S p n (dnN S p dn b) (mvB S L b)) = 0 :: L'
      cases hb : wd S p dn 64 with
      | none => exact h
      | some b =>
        have q := wd_some 64 b hb
        obtain ⟨q1, q2, q3, q4, q5, q6, -⟩ := mv.bk V hp q.2.1
        exact ih _ _ (mv.s V hp hb) (mv_hd mv.1 q6 q5 q1 q4 h)
  exact key 64 _ _ (mvI_0 V hp) ⟨_, by rw [List.range_succ_eq_map]⟩
theorem k_compose {Q : Mem → Prop} (O : ObAt 0 M o) (W : CS w M b S) (Fm : frM M) (hp : pOk S p) (hm : mrA w M a S (psl p 64)) (hw : ∀ c, w c = 2 → c ≠ o ∧ ∀ i ∈ [1, 2, 3, 4, 5, 6], c ≠ o + i) (ha : a ≠ o ∧ ∀ i ∈ [1, 2, 3, 4, 5, 6], a ≠ o + i) (hb : b + 9 ≤ o) (hq : ∀ M', Frv o [1] [1, 2, 3, 4, 5, 6] M M' → txK M' o (txt S p) → Q M') : CV G (d + 4) 1 [.ref o, .ref b, .ref a, .int (nI (psl p 64).length)] M Q := by
  have V := W.2.1
  have g2 := V.g
  have FM : ∀ {M' : Mem}, Frv o [1] [1, 2, 3, 4, 5, 6] M M' → frM M' := fun g c hc => by rw [g.2.2.1]; exact Fm c (by rw [← g.1]; exact hc)
  have KM : ∀ {M1 M2 : Mem}, Frv o [1] [1, 2, 3, 4, 5, 6] M1 M2 → keepM w M1 M2 := fun g c hc _ => ⟨g.2.2.2.2.1 c (hw c hc).1 (hw c hc).2, by rw [g.2.2.1], by rw [g.2.2.2.1]⟩
  have bn : ∀ i, i < 9 → b + i ≠ o ∧ ∀ j ∈ [1, 2, 3, 4, 5, 6], b + i ≠ o + j := fun i hi => ⟨by omega, fun j _ => by omega⟩
  have WS : ∀ {M' : Mem}, Frv o [1] [1, 2, 3, 4, 5, 6] M M' → CS w M' b S := fun g => ⟨g.ob2 (bn 0 (by decide)).1 (bn 0 (by decide)).2 W.1, V, W.2.2.keep Fm (KM g) (fun i hi => g.2.2.2.2.1 _ (bn i hi).1 (bn i hi).2)⟩
  have MR : ∀ {M' : Mem}, Frv o [1] [1, 2, 3, 4, 5, 6] M M' → mrA w M' a S (psl p 64) := fun g => hm.frv g Fm hw ha
  have l6 : (psl p 64).length ≤ 64 := by rw [psl_ct]; exact ct_le _ _
  have sl : ∀ s ∈ psl p 64, s < 64 ∧ p s := fun s hs => psl_mem.mp hs
  obtain ⟨m1, m2, m3, m4⟩ := hm
  obtain ⟨dn, mv⟩ := its_I V hp
  have len := mv.len
  -- writing along the chain
  have l2 : ∀ (j k : Nat) (Mx : Mem), j + k = (its S p).length → Frv o [1] [1, 2, 3, 4, 5, 6] M Mx → chR Mx o (its S p) → ntR w Mx o S (psl p 64) → txK Mx o (((its S p).take k).flatMap (outI S p)) → At G (d + 4) 1 72 [(0, .ref o), (1, .ref b), (5, .int (if k < (its S p).length then nI ((its S p).getD k 0) else -1)), (6, .int (nI k))] [] Mx (qV Q) := by
    intro j
    induction j with
    | zero =>
      intro k Mx e gx cx nt tx
      have e : k = (its S p).length := by omega
      rw [e, List.take_length] at tx
      have fin : Q Mx := hq Mx gx (by unfold txt; exact tx)
      rw [e, if_neg (Nat.lt_irrefl _)]
      exact c_X0_compose_72 (a2 := a) (gx.ob O) (WS gx).1 ⟨fun _ => fin, fun _ => ⟨fun _ => fin, fun z => absurd (show (-1 : Int32) < 0 by decide) z⟩⟩
    | succ j ih =>
      intro k Mx e gx cx nt tx
      have hk : k < (its S p).length := by omega
      have xk := (mv.2.1 _).mp (gD_mem hk)
      have nxk := chn_at cx k hk
      have Wx := WS gx
      have Ox := gx.ob O
      rw [if_pos hk]
      -- a turn's end
      have nx : ∀ (M1 : Mem), Frv o [1] [1] Mx M1 → txK M1 o (((its S p).take k).flatMap (outI S p) ++ outI S p ((its S p).getD k 0)) → (ObAt 0 M1 o ∧ ObAt 8 M1 b) ∧ (vp_in (nI ((its S p).getD k 0)) 401 ∧ At G (d + 4) 1 72 [(0, .ref o), (1, .ref b), (5, .int (vi M1 (o + 2) (nI ((its S p).getD k 0)).toNatClampNeg)), (6, .int (nI k + 1))] [] M1 (qV Q)) := fun M1 g1 t1 => by
        have gg : Frv o [1] [1, 2, 3, 4, 5, 6] M M1 := gx.trans (g1.sub (by decide) (by decide))
        refine ⟨⟨gg.ob O, (WS gg).1⟩, vp_in_nI (by omega) (by omega), ?_⟩
        have e2 : ∀ z, vi M1 (o + 2) z = vi Mx (o + 2) z := fun z => by rw [(g1.c (by decide) (by decide)).1]
        have e3 : ∀ z, vi M1 (o + 3) z = vi Mx (o + 3) z := fun z => by rw [(g1.c (by decide) (by decide)).1]
        rw [nI_clamp (by omega), e2, nI_1]
        have nxk : vi Mx (o + 2) ((its S p).getD k 0) = if k + 1 < (its S p).length then nI ((its S p).getD (k + 1) 0) else -1 := nxk
        rw [nxk]
        refine ih (k + 1) M1 (by omega) gg (chn_cg cx (fun z _ => ⟨e2 z, e3 z⟩)) ⟨fun q hq2 => by rw [(g1.c (by decide) (by decide)).1]; exact nt.1 q hq2, fun q hq2 => ?_⟩ ?_
        · rw [(g1.c (o := 5) (by decide) (by decide)).2.2]
          refine ⟨fun z => ?_, (nt.2 q hq2).2⟩
          obtain ⟨r, s, h1, h2, h3⟩ := (nt.2 q hq2).1 z
          exact ⟨r, s, h1, h2, h3.keep (FM gx) (KM (g1.sub (by decide) (by decide)))⟩
        · rw [take_s hk, List.flatMap_append, List.flatMap_cons, List.flatMap_nil, List.append_nil]
          exact t1
      generalize (its S p).getD k 0 = x at *
      have dv : nI x / 2 = nI (x / 2) := by rw [show (2 : Int32) = nI 2 from rfl, pk_div (by omega) (by omega) (by omega)]
      have rm : nI x - nI x / 2 * 2 = nI (x % 2) := by rw [show (2 : Int32) = nI 2 from rfl, pk_rem (by omega) (by omega) (by omega)]
      refine c_X0_compose_72 (a2 := a) Ox Wx.1 ?_
      rw [rm, dv, nI_clamp (n := x / 2) (by omega), show (0 : Int32) = nI 0 from rfl, eq_I (by omega) (by omega)]
      refine ⟨fun z => absurd z (nI_ge (a := k) (b := 401) (by omega) (by decide)), fun _ => ⟨fun z => absurd z (nlt0 _ (by omega)), fun _ => ⟨fun z => absurd z (nI_ge (a := x) (b := 401) (by omega) (by decide)), fun _ => ⟨by decide, fun c => ?_, fun c => ?_⟩⟩⟩⟩
      · obtain ⟨q, eq⟩ : ∃ q, x = 2 * q + 1 := ⟨x / 2, by omega⟩
        subst eq
        rw [show (2 * q + 1) / 2 = q by omega] at *
        have vq : vp_in (nI q) 200 := vp_in_nI (by omega) (by omega)
        rw [Wx.gb (show q < gN S by omega), nt.1 q (by omega)]
        refine ⟨by decide, vq, by decide, vq, k_writeByte Ox tx (fun M1 g1 t1 => ?_)⟩
        rw [out_b V hp rfl] at t1
        exact nx M1 g1 t1
      · obtain ⟨q, eq⟩ : ∃ q, x = 2 * q := ⟨x / 2, by omega⟩
        subst eq
        rw [show 2 * q / 2 = q by omega] at *
        have eo : outI S p (2 * q) = iTx S p q := by unfold outI; rw [if_pos (by omega), show 2 * q / 2 = q by omega]
        rw [eo] at nx
        refine ⟨by decide, vp_in_nI (by omega) (by omega), fun r7 e7 => ?_, fun e7 => c_X0_writeN (nx Mx Frv.refl ?_)⟩
        · by_cases ex : ∃ s, puI S (psl p 64) q s
          · obtain ⟨r, s, h1, h2, h3⟩ := (nt.2 q (by omega)).1 ex
            have er : r7 = r := some_inj h1 e7
            subst er
            have pi := puI_p.mp h2
            refine k_write (n := 0) Ox (FM gx) h3 h2.2.1 (len20 V (hp.1 s pi.2.1)) (fun c hc => ⟨(hw c hc).1, fun i hi => (hw c hc).2 i (by simp at hi ⊢; omega)⟩) tx (fun M1 g1 t1 => nx M1 g1 ?_)
            rw [iTx_e hp pi.1 pi.2]; exact t1
          · rw [(nt.2 q (by omega)).2 ex] at e7; cases e7
        · have ex : ¬ ∃ s, puI S (psl p 64) q s := fun z => by
            obtain ⟨r, s, h1, -⟩ := (nt.2 q (by omega)).1 z
            rw [h1] at e7; cases e7
          rw [iTx_0 (fun ⟨s, h⟩ => ex ⟨s, puI_p.mpr h⟩), List.append_nil]; exact tx
  -- what the MARKS note
  have l1 : ∀ (j i : Nat) (Mx : Mem), j + i = (psl p 64).length → Frv o [1] [1, 2, 3, 4, 5, 6] M Mx → chR Mx o (its S p) → ntR w Mx o S ((psl p 64).take i) → At G (d + 4) 1 31 [(0, .ref o), (1, .ref b), (2, .ref a), (4, .int (nI (psl p 64).length)), (5, .int (nI i))] [] Mx (qV Q) := by
    intro j
    induction j with
    | zero =>
      intro i Mx e gx cx nt
      have e : i = (psl p 64).length := by omega
      rw [e, List.take_length] at nt
      refine c_X0_compose_31 (gx.ob O) (WS gx).1 ⟨fun _ M3 e3 => ?_, fun z => absurd (by rw [e]; exact nI_le (Nat.le_refl _) (by omega)) z⟩
      have g3 : Frv o [1] [] Mx M3 := by rw [e3]; exact Frv.sf (by decide)
      have gg : Frv o [1] [1, 2, 3, 4, 5, 6] M M3 := gx.trans (g3.sub (by decide) (by decide))
      have vi3 : ∀ i, 0 < i → vi M3 (o + i) = vi Mx (o + i) := fun i hi => (g3.c (o := i) (by simp) hi).1
      have := l2 (its S p).length 0 M3 rfl gg (chn_cg cx (fun z _ => ⟨by rw [vi3 2 (by decide)], by rw [vi3 3 (by decide)]⟩)) ⟨fun q hq2 => by rw [vi3 4 (by decide)]; exact nt.1 q hq2, fun q hq2 => ?_⟩ ⟨by rw [e3, vi_seti, if_pos ⟨rfl, rfl⟩]; rfl, fun i hi => absurd hi (Nat.not_lt_zero i)⟩
      · obtain ⟨L', eL⟩ := its_0 V hp
        rw [if_pos (by omega), eL] at this
        exact this
      · rw [(g3.c (o := 5) (by decide) (by decide)).2.2]
        refine ⟨fun z => ?_, (nt.2 q hq2).2⟩
        obtain ⟨r, s, h1, h2, h3⟩ := (nt.2 q hq2).1 z
        exact ⟨r, s, h1, h2, h3.keep (FM gx) (KM (g3.sub (by decide) (by decide)))⟩
    | succ j ih =>
      intro i Mx e gx cx nt
      have hi : i < (psl p 64).length := by omega
      obtain ⟨n1, n2, n3, n4⟩ := MR gx
      obtain ⟨is, r, er, hr⟩ := n4 i hi
      refine c_X0_compose_31 (gx.ob O) (WS gx).1 ⟨fun z => absurd z (nI_ge (a := i) (b := (psl p 64).length) (by omega) (by omega)), fun _ => ⟨by rw [n1]; decide, vp_in_nI (by omega) (by omega), fun r4 e4 => ?_, fun e4 => ?_⟩⟩
      · rw [nI_clamp (by omega)] at e4
        have e4 : r4 = r := some_inj er e4
        subst e4
        refine k_note (gx.ob O) V (FM gx) hp (fun s hs => sl s (List.mem_of_mem_take hs)) (sl _ (gD_mem hi)) hr (fun c hc => ⟨(hw c hc).1, fun i hi => (hw c hc).2 i (by simp at hi ⊢; omega)⟩) nt (fun M5 g5 t5 => ?_)
        have gg : Frv o [1] [1, 2, 3, 4, 5, 6] M M5 := gx.trans (g5.sub (by decide) (by decide))
        rw [nI_1]
        refine ⟨⟨gg.ob O, (WS gg).1⟩, ih (i + 1) M5 (by omega) gg (chn_cg cx (fun z _ => ⟨by rw [(g5.c (by decide) (by decide)).1], by rw [(g5.c (by decide) (by decide)).1]⟩)) ?_⟩
        rw [take_s hi]; exact t5
      · rw [nI_clamp (by omega), er] at e4; cases e4
  have mn : (if (if (64 : Int32) < (nI (mA M a)) then (64 : Int32) else (nI (mA M a))) < nI (psl p 64).length then (if (64 : Int32) < (nI (mA M a)) then (64 : Int32) else (nI (mA M a))) else nI (psl p 64).length) = nI (psl p 64).length := by
    rw [if_neg (show ¬ (64 : Int32) < nI (mA M a) by rw [show (64 : Int32) = nI 64 from rfl, lt_I (by omega) (by omega)]; omega), if_neg (by rw [lt_I (by omega) (by omega)]; omega)]
  refine c_X0_compose O W.1 ?_
  rw [W.g]
  refine k_hang O g2 (fun M1 g1 c1 t1 p1 => ?_)
  have gg1 : Frv o [1] [1, 2, 3, 4, 5, 6] M M1 := g1.sub (by decide) (by decide)
  rw [show mA M1 a = mA M a by rw [gg1.2.2.2.1], show mK M1 a = 19 by rw [gg1.2.2.1]; exact m1, mn]
  refine ⟨⟨gg1.ob O, (WS gg1).1⟩, by decide, k_doMoves (gg1.ob O) V (FM gg1) hp rfl (MR gg1) (fun c hc => ⟨(hw c hc).1, fun i hi => (hw c hc).2 i (by simp at hi ⊢; omega)⟩) c1 (fun M2 g2' c2 => ?_)⟩
  have gg2 : Frv o [1] [1, 2, 3, 4, 5, 6] M M2 := gg1.trans ((g2'.v (by decide)).sub (by decide) (by decide))
  refine ⟨⟨gg2.ob O, (WS gg2).1⟩, l1 (psl p 64).length 0 M2 rfl gg2 c2 ⟨fun q hq2 => ?_, fun q hq2 => ⟨fun ⟨s, hs⟩ => absurd hs.1 (by simp), fun _ => ?_⟩⟩⟩
  · rw [g2'.i (by decide) (by decide), t1 q hq2]
    have n : ∀ k : Int32, ¬ covL S ((psl p 64).take 0) k q := fun k ⟨s, h, _⟩ => by simp at h
    unfold tch
    rw [cif_F (n 1), cif_F (n 2), cif_F (n 3)]
  · rw [g2'.2.2.2.2.1]; exact p1 q hq2
end
