/-! FEWEST: the class -/
noncomputable def chL (S : ShT) (z : Nat) : Nat → List Nat
  | 0 => []
  | i + 1 => chL S z i ++ (if z.testBit i then [(tgL S).getD i 0] else [])
theorem chL_le {S : ShT} {z : Nat} : ∀ i, (chL S z i).length ≤ i
  | 0 => Nat.le_refl _
  | i + 1 => by
    have := chL_le (S := S) (z := z) i
    show (chL S z i ++ _).length ≤ _
    rw [List.length_append]
    split
    · show _ + 1 ≤ _; omega
    · show _ + 0 ≤ _; omega
theorem chL_p {S : ShT} {z : Nat} (V : okS S) : ∀ s, s ≤ 64 → psl (chS S z) s = chL S z (ct (isM S) s)
  | 0, _ => rfl
  | s + 1, h => by
    have ih := chL_p (z := z) V s (by omega)
    by_cases is : isM S s
    · have t := tg_of V is
      rw [ct_y is]
      show _ = chL S z (ct (isM S) s) ++ (if z.testBit (ct (isM S) s) then [(tgL S).getD (ct (isM S) s) 0] else [])
      rw [t.2, ← ih]
      by_cases c : z.testBit (ct (isM S) s) = true
      · rw [if_pos c, psl_y ⟨is, c⟩]
      · rw [if_neg c, psl_n (fun q => c q.2), List.append_nil]
    · rw [ct_n is, psl_n (fun q => is q.1), ih]
theorem chL_n {S : ShT} {z : Nat} (V : okS S) : psl (chS S z) 64 = chL S z (tgL S).length := by
  rw [chL_p V 64 (Nat.le_refl _)]; unfold tgL; rw [psl_ct]
theorem and1 {y : Int64} (h : bit y 0) : y &&& 1 = 1 := bit_ext (fun o ho => by
  rw [bit_and, bit_1 ho]
  exact ⟨fun q => q.2, fun q => ⟨by rw [q]; exact h, q⟩⟩)
theorem shK : ∀ j, j < 12 → ((0 : Int64).toInt32 <<< (nI j &&& 31) = nI 0) ∧ ((1 : Int64).toInt32 <<< (nI j &&& 31) = nI (2 ^ j)) := by decide +kernel
def FwC (w : Nat → Nat) (M : Mem) (o b : Nat) (S : ShT) : Prop := ObAt 0 M o ∧ CS w M b S ∧ frM M ∧ (∀ c, w c = 2 → ∀ i, i < 11 → c ≠ o + i) ∧ b + 9 ≤ o
def gaC (w : Nat → Nat) (M : Mem) (o : Nat) (S : ShT) : Prop := ∀ i, i < (tgL S).length → (∃ r, vr M (o + 7) i = some r ∧ cMk w M r (kM S ((tgL S).getD i 0))) ∧ vi M (o + 8) i = nI ((tgL S).getD i 0) ∧ ∃ x, clB S i (tgL S).length x ∧ vi M (o + 10) i = nI x
section
variable {G : GT} {d : Nat} {M M' : Mem} {o b : Nat} {w : Nat → Nat} {S : ShT} {F L : List Nat}
theorem FwC.km (h : FwC w M o b S) (g : Frv o F L M M') (hL : ∀ i ∈ L, i < 11) : keepM w M M' := fun c hc _ => ⟨g.2.2.2.2.1 c (h.2.2.2.1 c hc 0 (by decide)) (fun i hi => h.2.2.2.1 c hc i (hL i hi)), by rw [g.2.2.1], by rw [g.2.2.2.1]⟩
theorem FwC.fr (h : FwC w M o b S) (g : Frv o F L M M') (hL : ∀ i ∈ L, i < 11) : FwC w M' o b S := by
  have dj := h.2.2.2.2
  refine ⟨g.ob h.1, ⟨g.ob2 (by omega) (fun i hi => by have := hL i hi; omega) h.2.1.1, h.2.1.2.1, h.2.1.2.2.keep h.2.2.1 (h.km g hL) (fun i hi => g.2.2.2.2.1 _ (by omega) (fun j hj => by have := hL j hj; omega))⟩, fun c hc => by rw [g.2.2.1]; exact h.2.2.1 c (by rw [← g.1]; exact hc), h.2.2.2.1, dj⟩
theorem gaC.fr (hc : FwC w M o b S) (h : gaC w M o S) (g : Frv o F L M M') (hL : ∀ i ∈ L, i < 11) (h7 : 7 ∉ L) (h8 : 8 ∉ L) (h10 : 10 ∉ L) : gaC w M' o S := fun i hi => by
  obtain ⟨⟨r, e1, e2⟩, e3, e4⟩ := h i hi
  refine ⟨⟨r, by rw [(g.c h7 (by decide)).2.2]; exact e1, e2.keep hc.2.2.1 (hc.km g hL)⟩, by rw [(g.c h8 (by decide)).1]; exact e3, ?_⟩
  rw [(g.c h10 (by decide)).1]; exact e4
theorem k_gatherAll {Q : Int32 → Mem → Prop} (h : FwC w M o b S) (n2 : (tgL S).length ≤ 12) (hq : ∀ M', Frv o [] [7, 8, 10] M M' → gaC w M' o S → Q (nI (tgL S).length) M') : CI G (d + 1) 11 [.ref o, .ref b] M Q := by
  have V := h.2.1.2.1
  have hL : ∀ i ∈ [7, 8, 10], i < 11 := by decide
  -- clashes
  have l55 : ∀ (j i : Nat) (Mx : Mem), j + i = (tgL S).length → Frv o [] [7, 8, 10] M Mx → (∀ i, i < (tgL S).length → (∃ r, vr Mx (o + 7) i = some r ∧ cMk w Mx r (kM S ((tgL S).getD i 0))) ∧ vi Mx (o + 8) i = nI ((tgL S).getD i 0)) → (∀ i', i' < i → ∃ x, clB S i' (tgL S).length x ∧ vi Mx (o + 10) i' = nI x) → At G (d + 1) 11 55 [(0, .ref o), (1, .ref b), (2, .int (nI (tgL S).length)), (3, .int (nI i))] [] Mx (qI Q) := by
    intro j
    induction j with
    | zero =>
      intro i Mx e gx h7 h10
      have hx := h.fr gx hL
      refine c_X0_gatherAll_55 hx.1 hx.2.1.1 ?_
      rw [le_I (by omega) (by omega)]
      exact ⟨fun _ => hq Mx gx (fun i' h' => ⟨(h7 i' h').1, (h7 i' h').2, h10 i' (by omega)⟩), fun z => absurd (by omega) z⟩
    | succ j ih =>
      intro i Mx e gx h7 h10
      have hx := h.fr gx hL
      have it := tg_at (S := S) (i := i) (by omega)
      have vi12 : vp_in (nI i) 12 := v_i (by omega) (by decide)
      refine c_X0_gatherAll_55 hx.1 hx.2.1.1 ?_
      rw [le_I (by omega) (by omega), nI_clamp (n := i) (by omega), (h7 i (by omega)).2, nI_clamp (n := (tgL S).getD i 0) (by omega)]
      refine ⟨fun z => absurd z (by omega), fun _ => ⟨vi12, v_i it.1 (by decide), vi12, fun M4 e4 => ?_⟩⟩
      have cl : ∀ t, t < 64 → (bit (vl Mx (b + 8) ((tgL S).getD i 0)) t ↔ isM S t ∧ ¬ ck (kM S ((tgL S).getD i 0)) (kM S t) = 0) := fun t ht => hx.2.1.cl it.2.1 ht
      generalize vl Mx (b + 8) ((tgL S).getD i 0) = bits at cl
      have l83 : ∀ (q k x : Nat) (My : Mem), q + k = (tgL S).length → Frv o [] [10] Mx My → (∀ i', i' ≠ i → vi My (o + 10) i' = vi Mx (o + 10) i') → clB S i k x → vi My (o + 10) i = nI x → At G (d + 1) 11 83 [(0, .ref o), (1, .ref b), (2, .int (nI (tgL S).length)), (3, .int (nI i)), (4, .long bits), (6, .int (nI k))] [] My (qI Q) := by
        intro q
        induction q with
        | zero =>
          intro k x My ek gy hy hx' ex
          have ek : k = (tgL S).length := by omega
          subst ek
          have gg := gx.trans (gy.sub (F' := []) (L' := [7, 8, 10]) (by decide) (by decide))
          have hh := h.fr gg hL
          refine c_X0_gatherAll_83 hh.1 hh.2.1.1 ?_
          rw [le_I (by omega) (by omega), nI_1]
          refine ⟨fun _ => ih (i + 1) My (by omega) gg (fun i' h' => ?_) (fun i' h' => ?_), fun z => absurd (Nat.le_refl _) z⟩
          · obtain ⟨⟨r, e1, e2⟩, e3⟩ := h7 i' h'
            exact ⟨⟨r, by rw [(gy.c (o := 7) (by decide) (by decide)).2.2]; exact e1, e2.keep hx.2.2.1 (hx.km gy (by decide))⟩, by rw [(gy.c (o := 8) (by decide) (by decide)).1]; exact e3⟩
          · by_cases y : i' = i
            · rw [y]; exact ⟨x, hx', ex⟩
            · rw [hy i' y]; exact h10 i' (by omega)
        | succ q ihq =>
          intro k x My ek gy hy hx' ex
          have gg := gx.trans (gy.sub (F' := []) (L' := [7, 8, 10]) (by decide) (by decide))
          have hh := h.fr gg hL
          have kt := tg_at (S := S) (i := k) (by omega)
          have e8 : vi My (o + 8) k = nI ((tgL S).getD k 0) := by rw [(gy.c (o := 8) (by decide) (by decide)).1]; exact (h7 k (by omega)).2
          have x4 := hx'.1
          have put : ∀ (x' : Nat) (M5 : Mem), clB S i (k + 1) x' → M5 = seti My (o + 10) i (nI x') → At G (d + 1) 11 83 [(0, .ref o), (1, .ref b), (2, .int (nI (tgL S).length)), (3, .int (nI i)), (4, .long bits), (6, .int (nI (k + 1)))] [] M5 (qI Q) := fun x' M5 hx5 e5 => by
            refine ihq (k + 1) x' M5 (by omega) (gy.trans (by rw [e5]; exact Frv.si (by decide) (by decide))) (fun i' ne => ?_) hx5 (by rw [e5, vi_seti, if_pos ⟨rfl, rfl⟩])
            rw [e5, vi_seti, if_neg (fun z => ne z.2)]; exact hy i' ne
          refine c_X0_gatherAll_83 hh.1 hh.2.1.1 ?_
          rw [le_I (by omega) (by omega), nI_clamp (n := i) (by omega), nI_clamp (n := k) (by omega), e8, ex, nI_1 (a := k)]
          refine ⟨fun z => absurd z (by omega), fun _ => ⟨vi12, v_i (by omega) (by decide), vi12, fun M5 e5 => ?_⟩⟩
          by_cases c : ck (kM S ((tgL S).getD i 0)) (kM S ((tgL S).getD k 0)) = 0
          · have nb : ¬ bit bits ((tgL S).getD k 0) := fun z => ((cl _ kt.1).mp z).2 c
            rw [(bit_at (by omega)).mpr nb, (shK k (by omega)).1, lor_I, Nat.or_zero] at e5
            exact put x M5 (clB_n hx' c) e5
          · have yb : bit bits ((tgL S).getD k 0) := (cl _ kt.1).mpr ⟨kt.2.1, c⟩
            rw [and1 ((bit_sh (by omega)).mpr yb), (shK k (by omega)).2, lor_I] at e5
            exact put _ M5 (clB_y (by omega) hx' c) e5
      have g4 : Frv o [] [10] Mx M4 := by rw [e4]; exact Frv.si (by decide) (by decide)
      exact l83 _ 0 0 M4 rfl g4 (fun i' ne => by rw [e4, vi_seti, if_neg (fun z => ne z.2)]) clB_0 (by rw [e4, vi_seti, if_pos ⟨rfl, rfl⟩]; rfl)
  -- marks
  have l4 : ∀ (j s : Nat) (Mx : Mem), j + s = 64 → Frv o [] [7, 8, 10] M Mx → (∀ i, i < (psl (isM S) s).length → (∃ r, vr Mx (o + 7) i = some r ∧ cMk w Mx r (kM S ((psl (isM S) s).getD i 0))) ∧ vi Mx (o + 8) i = nI ((psl (isM S) s).getD i 0)) → At G (d + 1) 11 4 [(0, .ref o), (1, .ref b), (2, .int (nI (psl (isM S) s).length)), (3, .int (nI s))] [] Mx (qI Q) := by
    intro j
    induction j with
    | zero =>
      intro s Mx e gx hx
      have e : s = 64 := by omega
      subst e
      have hh := h.fr gx hL
      exact c_X0_gatherAll_4 hh.1 hh.2.1.1 ⟨fun _ => l55 _ 0 Mx rfl gx hx (fun i' h' => absurd h' (Nat.not_lt_zero i')), fun z => absurd (show (64 : Int32) ≤ nI 64 by decide) z⟩
    | succ j ih =>
      intro s Mx e gx hx
      have hh := h.fr gx hL
      have nx := ih (s + 1)
      refine c_X0_gatherAll_4 hh.1 hh.2.1.1 ⟨fun z => absurd z (nI_ge (a := s) (b := 64) (by omega) (by decide)), fun _ => ⟨v_i (by omega) (by decide), fun r1 e1 => ?_, fun e1 => ?_⟩⟩
      · rw [nI_clamp (n := s) (by omega)] at e1
        have is : isM S s := Classical.byContradiction (fun n => by rw [hh.2.1.n (by omega) n] at e1; cases e1)
        obtain ⟨r, er, hr⟩ := hh.2.1.m is
        have e2 : r1 = r := some_inj er e1
        subst e2
        have lt : (psl (isM S) s).length < (tgL S).length := by
          have := (tg_of V is).1
          rw [psl_ct]; exact this
        refine ⟨fun z => absurd z (nI_ge (a := (psl (isM S) s).length) (b := 12) (by omega) (by decide)), fun _ => ⟨v_i (by omega) (by decide), by rw [hr.1.k, ob0_k7 hh.1]; rfl, fun M2 e2 => ⟨v_i (by omega) (by decide), fun M3 e3 => ?_⟩⟩⟩
        rw [nI_clamp (n := (psl (isM S) s).length) (by omega)] at e2 e3
        have g3 : Frv o [] [7, 8, 10] Mx M3 := by rw [e3, e2]; exact (Frv.sr (by decide) (by decide)).trans (Frv.si (by decide) (by decide))
        have km := hh.km g3 hL
        have := nx M3 (by omega) (gx.trans g3)
        rw [psl_y is, List.length_append] at this
        rw [nI_1, nI_1]
        refine this (fun i hi => ?_)
        have hi : i < (psl (isM S) s).length + 1 := hi
        have v7 : ∀ i, vr M3 (o + 7) i = if i = (psl (isM S) s).length then some r1 else vr Mx (o + 7) i := fun i => by
          rw [e3, vr_seti, e2, vr_setr]
          by_cases y : i = (psl (isM S) s).length
          · rw [if_pos ⟨rfl, y⟩, if_pos y]
          · rw [if_neg (fun q => y q.2), if_neg y]
        have v8 : ∀ i, vi M3 (o + 8) i = if i = (psl (isM S) s).length then nI s else vi Mx (o + 8) i := fun i => by
          rw [e3, vi_seti]
          by_cases y : i = (psl (isM S) s).length
          · rw [if_pos ⟨rfl, y⟩, if_pos y]
          · rw [if_neg (fun q => y q.2), if_neg y, e2, vi_setr]
        rw [v7, v8]
        by_cases y : i = (psl (isM S) s).length
        · rw [if_pos y, if_pos y, y, gA_r]
          exact ⟨⟨r1, rfl, hr.keep hh.2.2.1 km⟩, rfl⟩
        · rw [if_neg y, if_neg y, gA_l (by omega)]
          obtain ⟨⟨r, q1, q2⟩, q3⟩ := hx i (by omega)
          exact ⟨⟨r, q1, q2.keep hh.2.2.1 km⟩, q3⟩
      · rw [nI_clamp (n := s) (by omega)] at e1
        have no : ¬ isM S s := fun is => by
          obtain ⟨r, er, hr⟩ := hh.2.1.m is
          rw [er] at e1; cases e1
        have := nx Mx (by omega) gx
        rw [psl_n no] at this
        rw [nI_1]
        exact this hx
  exact c_X0_gatherAll h.1 h.2.1.1 (l4 64 0 M rfl Frv.refl (fun i hi => absurd hi (Nat.not_lt_zero i)))
theorem k_isFree {z : Nat} {Q : Int32 → Mem → Prop} (h : FwC w M o b S) (n2 : (tgL S).length ≤ 12) (ga : gaC w M o S) (hz : z < 2 ^ (tgL S).length) (hq : Q (bI (fre S z)) M) : CI G (d + 1) 12 [.ref o, .int (nI z), .int (nI (tgL S).length)] M Q := by
  have V := h.2.1.2.1
  have z4 : z < 4096 := Nat.lt_of_lt_of_le hz (Nat.pow_le_pow_right (n := 2) (by decide) n2)
  have l2 : ∀ (j i : Nat), j + i = (tgL S).length → (∀ i', i' < i → z.testBit i' = true → ∀ q, q < (tgL S).length → z.testBit q = true → ck (kM S ((tgL S).getD i' 0)) (kM S ((tgL S).getD q 0)) = 0) → At G (d + 1) 12 2 [(0, .ref o), (1, .int (nI z)), (2, .int (nI (tgL S).length)), (3, .int (nI i))] [] M (qI Q) := by
    intro j
    induction j with
    | zero =>
      intro i e hi
      refine c_X0_isFree_2 h.1 ?_
      rw [le_I (by omega) (by omega)]
      exact ⟨fun _ => qT2 hq ((fre_i V).mpr (fun i' h' => hi i' (by omega))), fun q => absurd (by omega) q⟩
    | succ j ih =>
      intro i e hi
      obtain ⟨_, _, x, hx, ex⟩ := ga i (by omega)
      have x4 := hx.1
      have al : x &&& z < 2147483648 := Nat.lt_of_le_of_lt Nat.and_le_left (by omega)
      refine c_X0_isFree_2 h.1 ?_
      rw [le_I (by omega) (by omega), has_I z4 (by omega), nI_clamp (n := i) (by omega), ex, land_I, il_0, eq_I al (by omega), cl_and hx hz, nI_1]
      refine ⟨fun q => absurd q (by omega), fun _ => ⟨fun q => absurd q (nI_ge (a := i) (b := 12) (by omega) (by decide)), fun _ => ?_⟩⟩
      by_cases c : z.testBit i = true
      · rw [if_pos c]
        refine ⟨fun q => absurd q (by decide), fun _ => ⟨v_i (by omega) (by decide), fun a => ih (i + 1) (by omega) (fun i' h' zi => ?_), fun a => qF2 hq (fun g => a (fun q hq' zq => (fre_i V).mp g i (by omega) c q hq' zq))⟩⟩
        by_cases y : i' = i
        · rw [y]; exact a
        · exact hi i' (by omega) zi
      · rw [if_neg c]
        refine ⟨fun _ => ih (i + 1) (by omega) (fun i' h' zi => ?_), fun q => absurd rfl q⟩
        by_cases y : i' = i
        · rw [y] at zi; exact absurd zi c
        · exact hi i' (by omega) zi
  exact c_X0_isFree h.1 (l2 _ 0 rfl (fun i' h' => absurd h' (Nat.not_lt_zero i')))
theorem k_makesWish {z : Nat} {Q : Int32 → Mem → Prop} (h : FwC w M o b S) (n2 : (tgL S).length ≤ 12) (ga : gaC w M o S) (hz : z < 2 ^ (tgL S).length) (fr : fre S z) (hq : ∀ M', Frv o [1] [1, 2, 3, 4, 5, 6, 9] M M' → Q (bI (txt S (chS S z) = wL' S)) M') : CI G (d + 5) 13 [.ref o, .ref b, .int (nI z), .int (nI (tgL S).length)] M Q := by
  have V := h.2.1.2.1
  have w2 := V.w
  have wl : (wL' S).length = wN S := wL_len
  have z4 : z < 4096 := Nat.lt_of_lt_of_le hz (Nat.pow_le_pow_right (n := 2) (by decide) n2)
  have t2 := txt_2k V (fre_ok fr)
  have l6 : ∀ (j i : Nat) (Mx : Mem), j + i = (tgL S).length → Frv o [] [9] M Mx → (∀ k, k < (chL S z i).length → isM S ((chL S z i).getD k 0) ∧ ∃ r, vr Mx (o + 9) k = some r ∧ cMk w Mx r (kM S ((chL S z i).getD k 0))) → At G (d + 5) 13 6 [(0, .ref o), (1, .ref b), (2, .int (nI z)), (3, .int (nI (tgL S).length)), (4, .int (nI (chL S z i).length)), (5, .int (nI i))] [] Mx (qI Q) := by
    intro j
    induction j with
    | zero =>
      intro i Mx e gx hx
      have e : i = (tgL S).length := by omega
      subst e
      have hh := h.fr gx (by decide)
      have cl := chL_le (S := S) (z := z) (tgL S).length
      rw [← chL_n V] at hx cl ⊢
      refine c_X0_makesWish_6 hh.1 hh.2.1.1 ?_
      rw [le_I (by omega) (by omega)]
      refine ⟨fun _ => ?_, fun q => absurd (Nat.le_refl _) q⟩
      have mr : mrA w Mx (o + 9) S (psl (chS S z) 64) := ⟨ob0_k9 hh.1, by rw [ob0_l9 hh.1]; omega, by rw [ob0_l9 hh.1]; decide, hx⟩
      refine k_compose hh.1 hh.2.1 hh.2.2.1 (fre_ok fr) mr (fun c hc => ⟨h.2.2.2.1 c hc 0 (by decide), fun i hi => h.2.2.2.1 c hc i (by simp at hi; omega)⟩) ⟨by omega, fun i hi => by simp at hi; omega⟩ hh.2.2.2.2 (fun M1 g1 t1 => ?_)
      have h1 := hh.fr g1 (by decide)
      have gg : Frv o [1] [1, 2, 3, 4, 5, 6, 9] M M1 := (gx.sub (by decide) (by decide)).trans (g1.sub (by decide) (by decide))
      have hq := hq M1 gg
      refine ⟨⟨h1.1, h1.2.1.1⟩, ?_⟩
      generalize txt S (chS S z) = t at *
      rw [t1.1, h1.2.1.ww]
      have tk : (t.take 400).length = min 400 t.length := List.length_take
      rw [eq_I (by omega) (by omega)]
      refine ⟨fun el => ?_, fun ne => qF2 hq (fun q => ne (by rw [q, List.length_take, wl]; omega))⟩
      have tt : t.take 400 = t := List.take_of_length_le (by omega)
      rw [tt] at el
      have key : ∀ j i, j + i = wN S → (∀ i', i' < i → t.getD i' 0 = (wL' S).getD i' 0) → At G (d + 5) 13 85 [(0, .ref o), (1, .ref b), (5, .int (nI i))] [] M1 (qI Q) := by
        intro j
        induction j with
        | zero =>
          intro i e hi
          refine c_X0_makesWish_85 h1.1 h1.2.1.1 ?_
          rw [t1.1, tt, le_I (by omega) (by omega)]
          exact ⟨fun _ => qT2 hq (l_ext (by omega) (fun i' h' => hi i' (by omega))), fun q => absurd (by omega) q⟩
        | succ j ih =>
          intro i e hi
          have hb' := t1.2 i (by rw [tt]; omega)
          rw [tt] at hb'
          refine c_X0_makesWish_85 h1.1 h1.2.1.1 ?_
          rw [t1.1, tt, le_I (by omega) (by omega), nI_clamp (n := i) (by omega), hb', h1.2.1.wb (show i < wN S by omega), nI_1]
          refine ⟨fun q => absurd q (by omega), fun _ => ⟨fun q => absurd q (nI_ge (a := i) (b := 200) (by omega) (by decide)), fun _ => ⟨v_i (by omega) (by decide), v_i (by omega) (by decide), fun eq => ih (i + 1) (by omega) (fun i' h' => ?_), fun ne => qF2 hq (fun q => ne (by rw [q, wL_get (by omega)]))⟩⟩⟩
          by_cases y : i' = i
          · rw [y, wL_get (by omega)]; exact eq
          · exact hi i' (by omega)
      exact key (wN S) 0 rfl (fun i' h' => absurd h' (Nat.not_lt_zero i'))
    | succ j ih =>
      intro i Mx e gx hx
      have hh := h.fr gx (by decide)
      have cl := chL_le (S := S) (z := z) i
      have it := tg_at (S := S) (i := i) (by omega)
      have nx := ih (i + 1)
      have eL : chL S z (i + 1) = chL S z i ++ (if z.testBit i then [(tgL S).getD i 0] else []) := rfl
      rw [eL] at nx
      obtain ⟨⟨r, er, hr⟩, _⟩ := ga i (by omega)
      refine c_X0_makesWish_6 hh.1 hh.2.1.1 ?_
      rw [le_I (by omega) (by omega), has_I z4 (by omega), nI_clamp (n := i) (by omega), nI_1 (a := i)]
      refine ⟨fun q => absurd q (by omega), fun _ => ⟨fun q => absurd q (nI_ge (a := i) (b := 12) (by omega) (by decide)), fun _ => ?_⟩⟩
      by_cases c : z.testBit i = true
      · rw [if_pos c] at nx ⊢
        refine ⟨fun q => absurd q (by decide), fun _ => ⟨fun q => absurd q (nI_ge (a := (chL S z i).length) (b := 12) (by omega) (by decide)), fun _ => ⟨v_i (by omega) (by decide), fun r3 e3 => ⟨v_i (by omega) (by decide), ?_, fun M4 e4 => ?_⟩, fun e3 => ?_⟩⟩⟩
        · rw [(gx.c (o := 7) (by decide) (by decide)).2.2] at e3
          have e5 : r3 = r := some_inj er e3
          subst e5
          rw [ob0_k9 hh.1, gx.2.2.1, hr.1.k]; rfl
        · rw [(gx.c (o := 7) (by decide) (by decide)).2.2] at e3
          have e5 : r3 = r := some_inj er e3
          subst e5
          rw [nI_clamp (n := (chL S z i).length) (by omega)] at e4
          have g4 : Frv o [] [9] Mx M4 := by rw [e4]; exact Frv.sr (by decide) (by decide)
          have := nx M4 (by omega) (gx.trans g4)
          rw [List.length_append] at this
          rw [nI_1]
          refine this (fun k hk => ?_)
          have hk : k < (chL S z i).length + 1 := hk
          by_cases y : k = (chL S z i).length
          · rw [y, gA_r]
            exact ⟨it.2.1, r3, by rw [e4, vr_setr, if_pos ⟨rfl, rfl⟩], hr.keep h.2.2.1 (h.km (gx.trans g4) (by decide))⟩
          · rw [gA_l (by omega)]
            obtain ⟨q1, r', q2, q3⟩ := hx k (by omega)
            exact ⟨q1, r', by rw [e4, vr_setr, if_neg (fun q => y q.2)]; exact q2, q3.keep hh.2.2.1 (hh.km g4 (by decide))⟩
        · rw [(gx.c (o := 7) (by decide) (by decide)).2.2, er] at e3; cases e3
      · rw [if_neg c] at nx ⊢
        rw [List.append_nil] at nx
        exact ⟨fun _ => nx Mx (by omega) gx hx, fun q => absurd rfl q⟩
  exact c_X0_makesWish h.1 h.2.1.1 (l6 _ 0 M rfl Frv.refl (fun k hk => absurd hk (Nat.not_lt_zero k)))
end
