/-! READING LAWS: the reference's TESTS, by the spec: and, or -/
section
variable {G : GT} {d m s : Nat} {T : StT}
theorem wAO {t : TpT} {p : Nat} (h : wAt t p = wAnd) : ¬ wAt t p = wOr := fun z => by rw [h] at z; exact absurd z (by decide)
/-- and/or is passed, a FACT is due -/
theorem t105 {M : Mem} {p n dp a l : Nat} {cd σ : List Nat} {Q : Mem → Prop} {l3 : Int32} (h : TsA M m T s p cd n σ dp) (ha : a = 10 ∨ a = 11) (l4 : σ.length < 100) (hl : (l3 = 0 → l = 2) ∧ (¬ l3 = 0 → l = 3)) (pl : p + l ≤ T.1.1)
    (hq : ∀ M', FrT m s M M' → TsA M' m T s (p + l) cd n (a :: σ) dp → At G (d + 11) 190 9 [(0, .ref m), (1, .int 1), (2, .int 1)] [] M' (qV Q)) : At G (d + 11) 190 105 [(0, .ref m), (2, .int 1), (3, .int l3)] [.int (nI a), .ref m] M (qV Q) := by
  refine r_test_105 h.1.1.1 ⟨h.1.1.1.1, s_opens1 h ha l4 (fun M18 g18 h18 => ⟨h18.1.1.1, ?_⟩)⟩
  have go : ∀ t0 : Int32, t0 = nI l → At G (d + 11) 190 122 [(0, .ref m), (2, .int 1)] [.int t0, .int (vi M18 m 14), .ref m] M18 (qV Q) := by
    intro t0 e0
    refine r_test_122 h18.1.1.1 ⟨h18.1.1.1.1, fun M19 e19 => ?_⟩
    rw [h18.1.pp, e0, nI_add] at e19
    have g19 : Frl m [14] [] M18 M19 := by rw [e19]; exact Frl.sf (by decide)
    have h19 := h18.mv g19 (by rw [e19, vi_seti, if_pos ⟨rfl, rfl⟩]) pl (by omega)
    exact r_test_199 h19.1.1.1 (hq M19 (g18.trans (FrT.ofF g19 (by decide))) h19)
  exact ⟨fun z => go 2 (by rw [hl.1 z]; rfl), fun z => go 3 (by rw [hl.2 z]; rfl)⟩
theorem AS_s {k : Nat} (fs : FS G d m s T k) (as : AS G d m s T k) : AS G d m s T (k + 1) := by
  intro M p cd n σ σ' dp Q h hσ hs hk hl hL hr hb hq
  have t4 : T.1.1 ≤ 400 := h.1.1.t4
  have p4 := h.1.p4
  have b := h.1.b rfl
  have d10 := h.2.2.2.1
  have lR : ledR 10 σ' = σ ∧ led 10 σ' ≤ 1 := by
    rcases hσ with e | e
    · rw [e]; exact ⟨ledR_0 hl.2, by omega⟩
    · rw [e]
      exact ⟨(show ledR 10 (10 :: σ) = ledR 10 σ from if_pos rfl).trans (ledR_0 hl.2), by rw [show led 10 (10 :: σ) = led 10 σ + 1 from if_pos rfl]; omega⟩
  have cl : (cd ++ List.replicate (led 10 σ') 200009).length ≤ cd.length + 1 := by rw [List.length_append, List.length_replicate]; omega
  have eP : ∀ cd, pX T.1 (k + 1) 2 dp p cd n = cif (wAt T.1 p = wAnd) (bnd (pX T.1 k 0 dp (skB T.1 (p + 3)) cd n) (fun p cd n => pX T.1 k 2 dp p (cd ++ [200009]) n)) (0, p, cd, n) := fun cd => by
    show cif (2 = 0) _ (cif (2 = 1) _ (cif (2 = 2) _ _)) = _
    rw [cif_F (by omega), cif_F (by omega), cif_T rfl]
  rw [eP] at hb hq
  unfold tMid
  refine s_isAt (i := 25) h.1.1 (by decide) h.1.pp p4 ⟨h.1.1.1, s_isAt (i := 26) h.1.1 (by decide) h.1.pp p4 ⟨h.1.1.1, ?_⟩⟩
  refine s_answers (k := 10) (c := 200009) h ⟨by omega, rS_o (k := 9) (by decide) rfl⟩ (by omega) (fun z => by omega) (fun M8 g8 h8 => ⟨h8.1.1.1, ?_⟩)
  rw [lR.1, if_neg (by omega), Nat.sub_zero] at h8
  generalize cd ++ List.replicate (led 10 σ') 200009 = cS at *
  by_cases c : wAt T.1 p = wAnd
  · rw [cif_T c] at hb hq
    have lw := wl_of c
    have l3 : wAnd.length = 3 := rfl
    have wq := wl_le p4
    have sk := skB_le (t := T.1) (p := p + 3) (by omega)
    have no := wAO c
    unfold tF
    rw [show bI (wAt T.1 p = strB.getD 25 []) = 1 from bI_T c, show bI (wAt T.1 p = strB.getD 26 []) = 0 from bI_F no]
    refine ⟨fun _ => ?_, fun z => absurd z (by decide)⟩
    refine r_test_82 h8.1.1.1 ⟨fun _ => r_test_93 h8.1.1.1 ⟨fun z => absurd z (by decide), fun _ => ?_⟩, fun z => absurd rfl z⟩
    refine t105 (a := 10) (l := 3) h8 (Or.inl rfl) (by omega) ⟨fun z => absurd z (by decide), fun _ => rfl⟩ (by omega) (fun M9 g9 h9 => ?_)
    have g09 := g8.trans g9
    have r1 := pX_rom t4 k 0 dp (skB T.1 (p + 3)) cS n sk.2 b.1
    have e9 : rmK 0 = 9 := rfl
    have n9 : led 9 (10 :: σ) = 0 := if_neg (by decide)
    refine fs M9 (p + 3) cS n (10 :: σ) dp Q h9 (by omega) (by rw [n9]; omega) (by rw [n9]; omega) (by rw [List.length_cons]; omega) (hb.one.fr g09) (fun z M1 g1 h1 => ?_)
    rw [n9, ledR_0 n9] at h1
    have h1 : TsA M1 m T s _ ((pX T.1 k 0 dp (skB T.1 (p + 3)) cS n).2.2.1 ++ []) _ (10 :: σ) dp := h1
    rw [List.append_nil] at h1
    have g01 := g09.trans g1
    have hb1 := (hb.two z).fr g01
    rw [bnd_T z] at hq
    have r2 := r1.2 z
    have s2 := pX_sk t4 k 0 dp (skB T.1 (p + 3)) cS n sk.2 b.1 (Or.inl (by omega)) z
    generalize pX T.1 k 0 dp (skB T.1 (p + 3)) cS n = R at *
    have l1 : led 10 (10 :: σ) = 1 := by rw [show led 10 (10 :: σ) = led 10 σ + 1 from if_pos rfl, hl.2]
    refine as M1 R.2.1 R.2.2.1 R.2.2.2 σ (10 :: σ) dp Q h1 (Or.inr rfl) s2 (by omega) hl hL (by omega) (by rw [l1]; exact hb1) ?_
    rw [l1]
    exact fun z3 M3 g3 h3 => hq z3 M3 (g01.trans g3) h3
  · rw [cif_F c] at hb hq
    rw [show bI (wAt T.1 p = strB.getD 25 []) = 0 from bI_F c]
    exact hq rfl M8 g8 h8
theorem OS_s {k : Nat} (fs : FS G d m s T k) (as : AS G d m s T k) (os : OS G d m s T k) : OS G d m s T (k + 1) := by
  intro M p cd n σ σ' dp Q h hσ hs hk hl hL hr hb hq
  have t4 : T.1.1 ≤ 400 := h.1.1.t4
  have p4 := h.1.p4
  have b := h.1.b rfl
  have d10 := h.2.2.2.1
  have lR : ledR 11 σ' = σ ∧ led 11 σ' ≤ 1 := by
    rcases hσ with e | e
    · rw [e]; exact ⟨ledR_0 hl.2.2, by omega⟩
    · rw [e]
      exact ⟨(show ledR 11 (11 :: σ) = ledR 11 σ from if_pos rfl).trans (ledR_0 hl.2.2), by rw [show led 11 (11 :: σ) = led 11 σ + 1 from if_pos rfl]; omega⟩
  have cl : (cd ++ List.replicate (led 11 σ') 200010).length ≤ cd.length + 1 := by rw [List.length_append, List.length_replicate]; omega
  have eP : ∀ cd, pX T.1 (k + 1) 3 dp p cd n = cif (wAt T.1 p = wOr) (bnd (pX T.1 k 0 dp (skB T.1 (p + 2)) cd n) (fun p cd n => bnd (pX T.1 k 2 dp p cd n) (fun p cd n => pX T.1 k 3 dp p (cd ++ [200010]) n))) (0, p, cd, n) := fun cd => by
    show cif (3 = 0) _ (cif (3 = 1) _ (cif (3 = 2) _ _)) = _
    rw [cif_F (by omega), cif_F (by omega), cif_F (by omega)]
  rw [eP] at hb hq
  unfold tF
  refine ⟨fun z => absurd rfl z, fun _ => bz (fun c => ?_) (fun c => ?_)⟩
  · rw [show bI (wAt T.1 p = wOr) = 1 from bI_T c]
    refine r_test_82 h.1.1.1 ⟨fun z => absurd z (by decide), fun _ => ?_⟩
    refine s_answers (k := 11) (c := 200010) h ⟨by omega, rS_o (k := 10) (by decide) rfl⟩ (by omega) (fun z => by omega) (fun M8 g8 h8 => ⟨h8.1.1.1, ?_⟩)
    rw [lR.1, if_neg (by omega), Nat.sub_zero] at h8
    generalize cd ++ List.replicate (led 11 σ') 200010 = cS at *
    rw [cif_T c] at hb hq
    have lw := wl_of c
    have l3 : wOr.length = 2 := rfl
    have wq := wl_le p4
    have sk := skB_le (t := T.1) (p := p + 2) (by omega)
    refine r_test_93 h8.1.1.1 ⟨fun _ => ?_, fun z => absurd rfl z⟩
    refine t105 (a := 11) (l := 2) h8 (Or.inr rfl) (by omega) ⟨fun _ => rfl, fun z => absurd rfl z⟩ (by omega) (fun M9 g9 h9 => ?_)
    have g09 := g8.trans g9
    have r1 := pX_rom t4 k 0 dp (skB T.1 (p + 2)) cS n sk.2 b.1
    have e9 : rmK 0 = 9 := rfl
    have e2 : rmK 2 = 0 := rfl
    have n9 : led 9 (11 :: σ) = 0 := if_neg (by decide)
    have n10 : led 10 (11 :: σ) = 0 := if_neg (by decide)
    refine fs M9 (p + 2) cS n (11 :: σ) dp Q h9 (by omega) (by rw [n9]; omega) (by rw [n9]; omega) (by rw [List.length_cons]; omega) (hb.one.fr g09) (fun z M1 g1 h1 => ?_)
    rw [n9, ledR_0 n9] at h1
    have h1 : TsA M1 m T s _ ((pX T.1 k 0 dp (skB T.1 (p + 2)) cS n).2.2.1 ++ []) _ (11 :: σ) dp := h1
    rw [List.append_nil] at h1
    have g01 := g09.trans g1
    have hb1 := (hb.two z).fr g01
    rw [bnd_T z] at hq
    have r2 := r1.2 z
    have s2 := pX_sk t4 k 0 dp (skB T.1 (p + 2)) cS n sk.2 b.1 (Or.inl (by omega)) z
    generalize pX T.1 k 0 dp (skB T.1 (p + 2)) cS n = R at *
    have l0 : R.2.2.1 ++ List.replicate (led 10 (11 :: σ)) 200009 = R.2.2.1 := by rw [n10]; exact List.append_nil _
    have r3 := pX_rom t4 k 2 dp R.2.1 R.2.2.1 R.2.2.2 r2.2.1 r2.2.2.1
    refine as M1 R.2.1 R.2.2.1 R.2.2.2 (11 :: σ) (11 :: σ) dp Q h1 (Or.inl rfl) s2 (by omega) ⟨n9, n10⟩ (by rw [List.length_cons]; omega) (by omega) (by rw [l0]; exact hb1.one) ?_
    rw [l0]
    intro z2 M2 g2 h2
    have hb2 := (hb1.two z2).fr g2
    rw [bnd_T z2] at hq
    have r4 := r3.2 z2
    have s4 := pX_sk t4 k 2 dp R.2.1 R.2.2.1 R.2.2.2 r2.2.1 r2.2.2.1 (Or.inr s2) z2
    generalize pX T.1 k 2 dp R.2.1 R.2.2.1 R.2.2.2 = U at *
    have l1 : led 11 (11 :: σ) = 1 := by rw [show led 11 (11 :: σ) = led 11 σ + 1 from if_pos rfl, hl.2.2]
    refine os M2 U.2.1 U.2.2.1 U.2.2.2 σ (11 :: σ) dp Q h2 (Or.inr rfl) s4 (by omega) hl hL (by omega) (by rw [l1]; exact hb2) ?_
    rw [l1]
    exact fun z3 M3 g3 h3 => hq z3 M3 (g01.trans (g2.trans g3)) h3
  · rw [cif_F c] at hb hq
    refine s_answers (k := 11) (c := 200010) h ⟨by omega, rS_o (k := 10) (by decide) rfl⟩ (by omega) (fun z => by omega) (fun M8 g8 h8 => ⟨h8.1.1.1, ?_⟩)
    rw [lR.1, if_neg (by omega), Nat.sub_zero] at h8
    exact hq rfl M8 g8 h8
end
