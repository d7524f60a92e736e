/-! READING LAWS: the reference's TESTS, by the spec: FACTS; all -/
section
variable {G : GT} {d m s : Nat} {T : StT}
theorem wN91 {t : TpT} {p : Nat} (h : wAt t p = wNot) : ¬ pk t p = 91 := fun z => by
  have lw := wl_of h
  have l3 : wNot.length = 3 := rfl
  have q := pk_at z (by decide)
  have := wAt_get (t := t) (p := p) (i := 0) (by omega)
  rw [h, Nat.add_zero, q.2] at this
  exact absurd this (by decide)
theorem FS_s {k : Nat} (fs : FS G d m s T k) (ts : TS G d m s T k) : FS G d m s T (k + 1) := by
  intro M p cd n σ dp Q h hk hr hd hL hb hq
  have t4 : T.1.1 ≤ 400 := h.1.1.t4
  have p4 := h.1.p4
  have sk := skB_le p4
  have sid := skB_id T.1 p
  have b := h.1.b rfl
  have d10 := h.2.2.2.1
  have eP : ∀ q, pX T.1 (k + 1) 0 dp q cd n = cif (pk T.1 q = 91) (cif (dp = 10) (flt q 2, q, cd, n) (bnd (pX T.1 k 1 (dp + 1) (skB T.1 (q + 1)) cd n) (fun p cd n => cif (pk T.1 p = 93) (0, skB T.1 (p + 1), cd, n) (flt p 0, p, cd, n)))) (cif (wAt T.1 q = wNot) (cif (dp = 10) (flt q 2, q, cd, n) (bnd (pX T.1 k 0 (dp + 1) (skB T.1 (q + 3)) cd n) (fun p cd n => (0, p, cd ++ [200011], n)))) (pCmp T.1 q cd n)) := fun q => cif_T rfl
  rw [eP] at hb hq
  refine r_test_9 h.1.1.1 ⟨fun z => absurd z (by decide), fun _ => ⟨fun z => absurd h.1.ff z, fun _ => ⟨fun z => absurd z (by decide), fun _ => ?_⟩⟩⟩
  refine r_fact h.1.1.1 (s_blanks h.1.1 h.1.pp (by omega) (fun M1 g1 e1 => ⟨g1.ra h.1.1.1, ?_⟩))
  have h1 := h.mv g1 e1 sk.2 sk.1
  have w1 : FrT m s M M1 := FrT.ofF g1 (by decide)
  generalize skB T.1 p = q at *
  refine s_isAt (i := 24) h1.1.1 (by decide) e1 sk.2 ⟨h1.1.1.1, bz (fun c => ?_) (fun c => s_sign h1.1.1 e1 (by omega) ⟨h1.1.1.1, fun c2 => ?_, fun c2 => ?_⟩)⟩
  · have c : wAt T.1 q = wNot := c
    rw [cif_F (wN91 c), cif_T c] at hb hq
    have lw := wl_of c
    have l3 : wNot.length = 3 := rfl
    have wq := wl_le sk.2
    have sk3 := skB_le (t := T.1) (p := q + 3) (by omega)
    refine s_opens2 (a := 9) h1 (Or.inl rfl) (by omega) (fun dn M9 g9 h9 => ⟨h9.1.1.1, fun M10 e10 => ⟨Or.inl rfl, ?_⟩⟩) (fun dn M9 g9 h9 => ⟨h9.1.1, fun M10 e10 => ⟨Or.inl rfl, ?_⟩⟩)
    · rw [cif_F dn] at hb hq
      rw [h9.1.pp, show (3 : Int32) = nI 3 from rfl, nI_add] at e10
      have g10 : Frl m [14] [] M9 M10 := by rw [e10]; exact Frl.sf (by decide)
      have h10 := h9.mv g10 (by rw [e10, vi_seti, if_pos ⟨rfl, rfl⟩]) (by omega) (by omega)
      have w10 := w1.trans (g9.trans (FrT.ofF g10 (by decide)))
      refine ⟨h10.1.1.1, fun z => absurd rfl z, fun _ => r_test_36 h10.1.1.1 ?_⟩
      have n9 : led 9 (9 :: σ) = led 9 σ + 1 := if_pos rfl
      have nR : ledR 9 (9 :: σ) = ledR 9 σ := if_pos rfl
      refine fs M10 (q + 3) cd n (9 :: σ) (dp + 1) Q h10 (by omega) (by rw [n9]; omega) (by rw [n9]; omega) (by rw [List.length_cons]; omega) (hb.one.fr w10) (fun z M2 g2 h2 => ?_)
      rw [bnd_T z] at hq
      rw [n9, nR, show dp + 1 - (led 9 σ + 1) = dp - led 9 σ by omega] at h2
      refine hq rfl M2 (w10.trans g2) ?_
      have ea : (pX T.1 k 0 (dp + 1) (skB T.1 (q + 3)) cd n).2.2.1 ++ [200011] ++ List.replicate (led 9 σ) 200011 = (pX T.1 k 0 (dp + 1) (skB T.1 (q + 3)) cd n).2.2.1 ++ List.replicate (led 9 σ + 1) 200011 := by
        rw [List.append_assoc]; rfl
      dsimp only
      rw [ea]
      exact h2
    · rw [cif_T dn] at hb
      rw [h9.pp, show (3 : Int32) = nI 3 from rfl, nI_add] at e10
      have g10 : Frl m [14] [] M9 M10 := by rw [e10]; exact Frl.sf (by decide)
      have h10 := h9.mv g10 (by rw [e10, vi_seti, if_pos ⟨rfl, rfl⟩]) (by omega) (by omega)
      refine ⟨h10.1.1, fun z => absurd rfl z, fun _ => r_test_36 h10.1.1 (hd_bad h10.toF (flt_ne _ _) ?_)⟩
      exact hb (flt_ne _ _) M10 (w1.trans (g9.trans (FrT.ofF g10 (by decide)))) h10.toF
  · have c : ¬ wAt T.1 q = wNot := c
    rw [cif_F c2, cif_F c] at hb hq
    refine s_compared h1.1 (fun M6 p6 cd6 n6 f6 g6 h6 st6 => ⟨h6.1.1, Or.inr rfl, h6.1.1, fun _ => r_test_36 h6.1.1 ?_, fun z => absurd z (by decide)⟩)
    rw [sid] at st6
    have st := st6.zero
    by_cases z : f6 = 0
    · subst z
      have z1 : (pCmp T.1 q cd n).1 = 0 := st.1.symm
      have e := st.2 rfl
      have r1 := (pCmp_rom (cd := cd) t4 sk.2 b.1).2 z1
      have s1 := pCmp_sk t4 sk.2 b.1 z1
      rw [e] at r1 s1
      dsimp only at r1 s1
      have hq2 := hq z1
      rw [e] at hq2
      have h6' := h1.frw g6 h6
      refine hd0 h6' (by omega) hd (fun M7 g7 h7 => ?_)
      rw [s1] at h7
      exact hq2 M7 (w1.trans (g6.t.trans g7)) h7
    · refine hd_bad h6.toF z ?_
      have e : (pCmp T.1 q cd n).1 = f6 := st.1.symm
      exact hb (by rw [e]; exact z) M6 (w1.trans g6.t) (by rw [e]; exact h6.toF)
  · rw [cif_T c2] at hb hq
    have qi := (pk_at c2 (by decide)).1
    have sk1 := skB_le (t := T.1) (p := q + 1) (by omega)
    refine s_opens2 (a := 12) h1 (Or.inr rfl) (by omega) (fun dn M9 g9 h9 => ⟨h9.1.1.1, fun M10 e10 => ⟨Or.inl rfl, ?_⟩⟩) (fun dn M9 g9 h9 => ⟨h9.1.1, fun M10 e10 => ⟨Or.inl rfl, ?_⟩⟩)
    · rw [cif_F dn] at hb hq
      rw [h9.1.pp, nI_1] at e10
      have g10 : Frl m [14] [] M9 M10 := by rw [e10]; exact Frl.sf (by decide)
      have h10 := h9.mv g10 (by rw [e10, vi_seti, if_pos ⟨rfl, rfl⟩]) (by omega) (by omega)
      have w10 := w1.trans (g9.trans (FrT.ofF g10 (by decide)))
      refine ⟨h10.1.1.1, fun z => absurd rfl z, fun _ => r_test_36 h10.1.1.1 ?_⟩
      have r1 := pX_rom t4 k 1 (dp + 1) (skB T.1 (q + 1)) cd n sk1.2 b.1
      have e9 : rmK 1 = 9 := rfl
      refine ts M10 (q + 1) cd n (12 :: σ) (dp + 1) Q h10 (by omega) ⟨if_neg (by decide), if_neg (by decide), if_neg (by decide)⟩ (by rw [List.length_cons]; omega) (hb.one.fr w10) (fun z M2 g2 h2 => ?_)
      have hb2 := (hb.two z).fr (w10.trans g2)
      rw [bnd_T z] at hq
      have r2 := r1.2 z
      generalize pX T.1 k 1 (dp + 1) (skB T.1 (q + 1)) cd n = R at *
      have w2 := w10.trans g2
      have R4 : R.2.1 ≤ 400 := by omega
      -- the bracket ends
      have clo : ∀ (M12 M22 : Mem), Frl m [15] [] M2 M12 → (∃ M20 M21, M20 = seti M12 m 14 ((vi M12 m 14) + (1 : Int32)) ∧ M21 = seti M20 m 21 ((vi M20 m 21) - (1 : Int32)) ∧ M22 = seti M21 m 19 ((vi M21 m 19) - (1 : Int32))) → Frl m [14, 15, 19, 21] [] M2 M22 ∧ vi M22 m 14 = nI (R.2.1 + 1) ∧ vi M22 m 15 = vi M12 m 15 ∧ vi M22 m 21 = nI σ.length ∧ vi M22 m 19 = nI dp := by
        intro M12 M22 g12 ⟨M20, M21, e20, e21, e22⟩
        have x14 : vi M12 m 14 = nI R.2.1 := by rw [g12.f (by decide) (by decide)]; exact h2.1.pp
        have x21 : vi M12 m 21 = nI (σ.length + 1) := by rw [g12.f (by decide) (by decide)]; exact h2.2.1.1
        have x19 : vi M12 m 19 = nI (dp + 1) := by rw [g12.f (by decide) (by decide)]; exact h2.2.2.1
        rw [x14, nI_1] at e20
        rw [show vi M20 m 21 = nI (σ.length + 1) by rw [e20, vi_seti, if_neg (by omega)]; exact x21, show (1 : Int32) = nI 1 from rfl, pk_sub (by omega), show σ.length + 1 - 1 = σ.length by omega] at e21
        rw [show vi M21 m 19 = nI (dp + 1) by rw [e21, vi_seti, if_neg (by omega), e20, vi_seti, if_neg (by omega)]; exact x19, show (1 : Int32) = nI 1 from rfl, pk_sub (by omega), show dp + 1 - 1 = dp by omega] at e22
        refine ⟨(g12.sub (by decide) (by decide)).trans (by rw [e22, e21, e20]; exact ((Frl.sf (by decide)).trans (Frl.sf (by decide))).trans (Frl.sf (by decide))), ?_, ?_, ?_, ?_⟩
        · rw [e22, vi_seti, if_neg (by omega), e21, vi_seti, if_neg (by omega), e20, vi_seti, if_pos ⟨rfl, rfl⟩]
        · rw [e22, vi_seti, if_neg (by omega), e21, vi_seti, if_neg (by omega), e20, vi_seti, if_neg (by omega)]
        · rw [e22, vi_seti, if_neg (by omega), e21, vi_seti, if_pos ⟨rfl, rfl⟩]
        · rw [e22, vi_seti, if_pos ⟨rfl, rfl⟩]
      unfold tTop
      refine s_top h2 (fun e => by cases e) (fun a r e => ?_)
      cases e
      refine ⟨h2.1.1.1, fun z => absurd rfl z, fun _ => s_sign h2.1.1 h2.1.pp (by omega) ⟨h2.1.1.1, fun c93 => ?_, fun c93 => ?_⟩⟩
      · rw [cif_T c93] at hq
        have qi2 := (pk_at c93 (by decide)).1
        refine r_test_164 h2.1.1.1 (fun M20 e20 M21 e21 M22 e22 => ?_)
        obtain ⟨gg, y14, y15, y21, y19⟩ := clo M2 M22 Frl.refl ⟨M20, M21, e20, e21, e22⟩
        have L22 : LwA M22 m T s (R.2.1 + 1) R.2.2.1 R.2.2.2 0 := h2.1.up (F := [14, 19, 21]) (by rw [e22, e21, e20]; exact ((Frl.sf (by decide)).trans (Frl.sf (by decide))).trans (Frl.sf (by decide))) (by decide) y14 (by rw [y15]; exact h2.1.ff) (by rw [gg.f (by decide) (by decide)]; exact h2.1.cc) (by omega) (by omega) (fun _ => by have := h2.1.b rfl; omega)
        have h22 : TsA M22 m T s (R.2.1 + 1) R.2.2.1 R.2.2.2 σ dp := ⟨L22, ⟨y21, fun i hi => ?_, fun x hx => h2.2.1.2.2 x (List.mem_cons_of_mem _ hx)⟩, y19, d10, by omega⟩
        · have w22 : FrT m s M M22 := w2.trans (FrT.ofF gg (by decide))
          refine r_test_199 h22.1.1.1 (hd0 h22 (by omega) hd (fun M7 g7 h7 => ?_))
          exact hq rfl M7 (w22.trans g7) h7
        · rw [gg.i (by decide) (by decide)]
          have := h2.2.1.2.1 (i + 1) (by rw [List.length_cons]; omega)
          rw [List.length_cons, show σ.length + 1 - 1 - (i + 1) = σ.length - 1 - i by omega] at this
          exact this
      · rw [cif_F c93] at hb2
        rw [h2.1.pp]
        refine s_fails (c := 0) h2.1.1.1 h2.1.ff (by omega) (by omega) (by omega) (fun M14 g14 e14 => ⟨g14.ra h2.1.1.1, ?_⟩)
        rw [if_pos rfl] at e14
        refine r_test_164 (g14.ra h2.1.1.1) (fun M20 e20 M21 e21 M22 e22 => ?_)
        obtain ⟨gg, y14, y15, y21, y19⟩ := clo M14 M22 g14 ⟨M20, M21, e20, e21, e22⟩
        have wF : FrT m s M2 M22 := FrT.ofF gg (by decide)
        have LF : LwF M22 m T (flt R.2.1 0) := ⟨h2.1.1.lawF wF h2.1.2.1, by rw [y15]; exact e14, flt_lt (by omega) (by omega), R.2.1 + 1, by omega, y14⟩
        exact r_test_199 LF.1.1 (hd_bad LF (flt_ne _ _) (hb2 (flt_ne _ _) M22 wF LF))
    · rw [cif_T dn] at hb
      rw [h9.pp, nI_1] at e10
      have g10 : Frl m [14] [] M9 M10 := by rw [e10]; exact Frl.sf (by decide)
      have h10 := h9.mv g10 (by rw [e10, vi_seti, if_pos ⟨rfl, rfl⟩]) (by omega) (by omega)
      refine ⟨h10.1.1, fun z => absurd rfl z, fun _ => r_test_36 h10.1.1 (hd_bad h10.toF (flt_ne _ _) ?_)⟩
      exact hb (flt_ne _ _) M10 (w1.trans (g9.trans (FrT.ofF g10 (by decide)))) h10.toF
theorem all_S : ∀ k, FS G d m s T k ∧ TS G d m s T k ∧ AS G d m s T k ∧ OS G d m s T k
  | 0 => ⟨fun _ _ _ _ _ _ _ _ hk => by omega, fun _ _ _ _ _ _ _ _ hk => by omega, fun _ _ _ _ _ _ _ _ _ _ _ hk => by omega, fun _ _ _ _ _ _ _ _ _ _ _ hk => by omega⟩
  | k + 1 => by
    obtain ⟨fs, ts, as, os⟩ := all_S k
    exact ⟨FS_s fs ts, TS_s fs as os, AS_s fs as, OS_s fs as os⟩
/-- a TEST -/
noncomputable def pTst (t : TpT) (p : Nat) (cd : List Nat) (n : Nat) : Nat × LxT := pX t 1700 1 0 p cd n
theorem s_test {M : Mem} {p n : Nat} {cd : List Nat} {Q : Mem → Prop} (h : LwA M m T s p cd n 0) (h19 : vi M m 19 = nI 0) (hn : ¬ (pTst T.1 (skB T.1 p) cd n).1 = 0 → ∀ M', FrT m s M M' → LwF M' m T (pTst T.1 (skB T.1 p) cd n).1 → Q M')
    (hy : (pTst T.1 (skB T.1 p) cd n).1 = 0 → ∀ M', FrT m s M M' → LwA M' m T s (pTst T.1 (skB T.1 p) cd n).2.1 (pTst T.1 (skB T.1 p) cd n).2.2.1 (pTst T.1 (skB T.1 p) cd n).2.2.2 0 → vi M' m 19 = nI 0 → Q M') : CV G (d + 11) 190 [.ref m] M Q := by
  have t4 : T.1.1 ≤ 400 := h.1.t4
  refine r_test h.1.1 (fun M1 e1 => ?_)
  have g1 : Frl m [19, 21] [20] M M1 := by rw [e1]; exact Frl.sf (by decide)
  have h1 : TsA M1 m T s p cd n [] 0 := ⟨h.ks g1, ⟨by rw [e1, vi_seti, if_pos ⟨rfl, rfl⟩]; rfl, fun i hi => absurd hi (Nat.not_lt_zero i), fun a ha => by cases ha⟩, by rw [e1, vi_seti, if_neg (by omega)]; exact h19, by omega, by decide⟩
  have w1 : FrT m s M M1 := FrT.ks g1
  refine (all_S 1700).2.1 M1 p cd n [] 0 Q h1 (by omega) ⟨rfl, rfl, rfl⟩ (by decide) (fun z M' g' h' => hn z M' (w1.trans g') h') (fun z M' g' h' => ?_)
  unfold tTop
  refine s_top h' (fun _ => ⟨h'.1.1.1, fun _ => r_test_199 h'.1.1.1 (r_test_9 h'.1.1.1 ⟨fun _ => r_test_202 h'.1.1.1 (hy z M' (w1.trans g') h'.1 h'.2.2.1), fun y => absurd rfl y⟩), fun y => absurd y (by decide)⟩) (fun a r e => by cases e)
end
