/-! FEWEST: the reference -/
theorem nar_b {p : Prop} : vp_nar .boolean (bI p) = bI p := by
  by_cases c : p
  · rw [bI_T c]; exact b1n
  · rw [bI_F c]; exact b0n
theorem txt_2k {S : ShT} {p : Nat → Prop} (V : okS S) (hp : pOk S p) : (txt S p).length ≤ 2000 := by
  obtain ⟨dn, hm⟩ := its_I V hp
  have := fm_2000 V hp hm (its S p).length
  rw [List.take_length] at this
  unfold txt; omega
section
variable {G : GT} {d : Nat} {M M' : Mem} {m : Nat} {T : StT} {S : ShT}
theorem s_isWished {t : List Int32} {Q : Int32 → Mem → Prop} (R : RS M m S) (h : txR M m t) (t2 : t.length ≤ 2000) (hq : Q (bI (t = wL' S)) M) : CI G (d + 1) 260 [.ref m] M Q := by
  have w2 := R.2.1.w
  have wl : (wL' S).length = wN S := wL_len
  have ew : vi M (m + 1) (1 : Int32).toNatClampNeg = nI (wN S) := R.2.2.w
  refine r_isWished R.1 ?_
  rw [h.1, ew, eq_I (by omega) (by omega)]
  refine ⟨v13, fun ne => ?_, fun el => ?_⟩
  · have no : ¬ t = wL' S := fun z => ne (by rw [z, wl])
    rw [bI_F no] at hq
    refine r_isWished_21 R.1 ⟨v13, fun _ => ⟨Or.inl rfl, hq⟩, fun _ => ⟨fun _ => ⟨Or.inl rfl, hq⟩, fun z => absurd rfl z⟩⟩
  · have key : ∀ j i, j + i = wN S → (∀ i', i' < i → t.getD i' 0 = (wL' S).getD i' 0) → At G (d + 1) 260 21 [(0, .ref m), (1, .int (1 : Int32)), (2, .int (nI i))] [] M (qI Q) := by
      intro j
      induction j with
      | zero =>
        intro i e hi
        refine r_isWished_21 R.1 ?_
        rw [ew, le_I (by omega) (by omega)]
        refine ⟨v13, fun _ => ⟨Or.inr rfl, ?_⟩, fun z => absurd (by omega) z⟩
        rw [bI_T (l_ext (by omega) (fun i' h' => hi i' (by omega)))] at hq; exact hq
      | succ j ih =>
        intro i e hi
        refine r_isWished_21 R.1 ?_
        rw [ew, le_I (by omega) (by omega), nI_clamp (by omega), h.2 i (by omega), R.2.2.wb (show i < wN S by omega), nI_1]
        refine ⟨v13, fun z => absurd z (by omega), fun _ => ⟨fun z => absurd z (by decide), fun _ => ⟨v_i (by omega) (by decide), v_i (by omega) (by decide), fun ne => ?_, fun eq => ih (i + 1) (by omega) (fun i' h' => ?_)⟩⟩⟩
        · have no : ¬ t = wL' S := fun z => ne (by rw [z, wL_get (by omega)])
          rw [bI_F no] at hq
          exact r_isWished_21 R.1 ⟨v13, fun _ => ⟨Or.inl rfl, hq⟩, fun _ => ⟨fun _ => ⟨Or.inl rfl, hq⟩, fun z => absurd rfl z⟩⟩
        · by_cases y : i' = i
          · rw [y, wL_get (by omega)]; exact eq
          · exact hi i' (by omega)
    exact key (wN S) 0 rfl (fun i' h' => absurd h' (Nat.not_lt_zero i'))
/-- the marks and their clashes, as the reference gathers them -/
def gaR (M : Mem) (m : Nat) (S : ShT) : Prop := (∀ i, i < (tgL S).length → vi M (m + 42) i = nI ((tgL S).getD i 0)) ∧ ∀ i, i < (tgL S).length → ∃ x, clB S i (tgL S).length x ∧ vi M (m + 43) i = nI x
theorem gaR.fr (h : gaR M m S) {F L : List Nat} (g : Frl m F L M M') (h1 : 42 ∉ L) (h2 : 43 ∉ L) : gaR M' m S := ⟨fun i hi => by rw [g.i h1 (by decide)]; exact h.1 i hi, fun i hi => by rw [g.i h2 (by decide)]; exact h.2 i hi⟩
theorem s_isGood {z : Nat} {Q : Int32 → Mem → Prop} (R : RS M m S) (n2 : (tgL S).length ≤ 12) (ga : gaR M m S) (hz : z < 2 ^ (tgL S).length) (hq : ∀ M', Frl m [43, 44] [26, 27, 28, 29, 30, 31, 32] M M' → Q (bI (isGd S z)) M') : CI G (d + 5) 261 [.ref m, .int (nI (tgL S).length), .int (nI z)] M Q := by
  have V := R.2.1
  have z4 : z < 4096 := Nat.lt_of_lt_of_le hz (Nat.pow_le_pow_right (n := 2) (by decide) n2)
  -- all is set
  have l57 : ∀ (j i : Nat) (Mx : Mem), j + i = (tgL S).length → fre S z → Frl m [] [31] M Mx → (∀ s, s < 64 → vi Mx (m + 31) s = bI (∃ i', i' < i ∧ (tgL S).getD i' 0 = s ∧ z.testBit i' = true)) → At G (d + 5) 261 57 [(0, .ref m), (1, .int (nI (tgL S).length)), (2, .int (nI z)), (3, .int (nI i))] [] Mx (qI Q) := by
    intro j
    induction j with
    | zero =>
      intro i Mx e fr gx hx
      have e : i = (tgL S).length := by omega
      subst e
      have Rx := R.fr gx (fun o ho => by simp; omega)
      refine r_isGood_57 Rx.1 ?_
      rw [le_I (by omega) (by omega)]
      refine ⟨fun _ => ?_, fun q => absurd (Nat.le_refl _) q⟩
      have tk : bR Mx (m + 31) (chS S z) := fun s hs => by
        rw [hx s hs]
        congr 1
        exact propext ⟨fun ⟨i', h1, h2, h3⟩ => by rw [← h2]; exact (ch_at h1).mpr h3, fun h => ch_of V h⟩
      refine s_makes Rx (fre_ok fr) tk (fun M4 g4 t4 => ?_)
      have R4 := Rx.fr g4 (fun o ho => by simp; omega)
      refine ⟨R4.1, s_isWished R4 t4 (txt_2k V (fre_ok fr)) ⟨R4.1, b01 ?_⟩⟩
      have := hq M4 ((gx.sub (by decide) (by decide)).trans (g4.sub (by decide) (by decide)))
      rw [show isGd S z = (txt S (chS S z) = wL' S) from propext ⟨fun h => h.2, fun h => ⟨fr, h⟩⟩] at this
      exact this
    | succ j ih =>
      intro i Mx e fr gx hx
      have i1 := tg_at (S := S) (i := i) (by omega)
      refine r_isGood_57 (gx.ra R.1) ?_
      rw [le_I (by omega) (by omega), nI_clamp (n := i) (by omega)]
      refine ⟨fun q => absurd q (by omega), fun _ => ⟨v_i (by omega) (by decide), s_has z4 (by omega) ⟨gx.ra R.1, ?_⟩⟩⟩
      rw [(ga.fr gx (by decide) (by decide)).1 i (by omega), nI_clamp (n := (tgL S).getD i 0) (by omega), nar_b, nI_1]
      refine ⟨v_i i1.1 (by decide), fun M9 e9 => ih (i + 1) M9 (by omega) fr (gx.trans (by rw [e9]; exact Frl.si (by decide))) (fun s hs => ?_)⟩
      rw [e9, vi_seti]
      by_cases y : s = (tgL S).getD i 0
      · rw [if_pos ⟨rfl, y⟩]
        congr 1
        refine propext ⟨fun h => ⟨i, by omega, y.symm, h⟩, fun ⟨i', h1, h2, h3⟩ => ?_⟩
        rw [tg_inj (S := S) (i := i) (j := i') (by omega) (by omega) (by rw [h2, y])]; exact h3
      · rw [if_neg (fun q => y q.2), hx s hs]
        congr 1
        refine propext ⟨fun ⟨i', h1, h2, h3⟩ => ⟨i', by omega, h2, h3⟩, fun ⟨i', h1, h2, h3⟩ => ⟨i', ?_, h2, h3⟩⟩
        by_cases w : i' = i
        · rw [w] at h2; exact absurd h2.symm y
        · omega
  have l36 : ∀ (j i : Nat) (Mx : Mem), j + i = 64 → fre S z → Frl m [] [31] M Mx → (∀ s, s < i → vi Mx (m + 31) s = 0) → At G (d + 5) 261 36 [(0, .ref m), (1, .int (nI (tgL S).length)), (2, .int (nI z)), (3, .int (nI i))] [] Mx (qI Q) := by
    intro j
    induction j with
    | zero =>
      intro i Mx e fr gx hx
      have e : i = 64 := by omega
      subst e
      refine r_isGood_36 (gx.ra R.1) ⟨fun _ => l57 _ 0 Mx rfl fr gx (fun s hs => ?_), fun q => absurd (show (64 : Int32) ≤ nI 64 by decide) q⟩
      rw [hx s hs, bI_F (fun ⟨i', h1, _⟩ => Nat.not_lt_zero i' h1)]
    | succ j ih =>
      intro i Mx e fr gx hx
      refine r_isGood_36 (gx.ra R.1) ⟨fun q => absurd q (nI_ge (a := i) (b := 64) (by omega) (by decide)), fun _ => ?_⟩
      rw [nI_clamp (n := i) (by omega), b0n, nI_1]
      refine ⟨v_i (by omega) (by decide), fun M3 e3 => ih (i + 1) M3 (by omega) fr (gx.trans (by rw [e3]; exact Frl.si (by decide))) (fun s hs => ?_)⟩
      rw [e3, vi_seti]
      by_cases y : s = i
      · rw [if_pos ⟨rfl, y⟩]
      · rw [if_neg (fun q => y q.2)]; exact hx s (by omega)
  have l2 : ∀ (j i : Nat), j + i = (tgL S).length → (∀ i', i' < i → z.testBit i' = true → ∀ q, q < (tgL S).length → z.testBit q = true → ck (kM S ((tgL S).getD i' 0)) (kM S ((tgL S).getD q 0)) = 0) → At G (d + 5) 261 2 [(0, .ref m), (1, .int (nI (tgL S).length)), (2, .int (nI z)), (3, .int (nI i))] [] M (qI Q) := by
    intro j
    induction j with
    | zero =>
      intro i e hi
      refine r_isGood_2 R.1 ?_
      rw [le_I (by omega) (by omega)]
      exact ⟨fun _ => l36 64 0 M rfl ((fre_i V).mpr (fun i' h' => hi i' (by omega))) Frl.refl (fun s hs => absurd hs (Nat.not_lt_zero s)), fun q => absurd (by omega) q⟩
    | succ j ih =>
      intro i e hi
      obtain ⟨x, hx, ex⟩ := ga.2 i (by omega)
      have x4 := hx.1
      have al : x &&& z < 2147483648 := Nat.lt_of_le_of_lt Nat.and_le_left (by omega)
      refine r_isGood_2 R.1 ?_
      rw [le_I (by omega) (by omega), nI_1]
      refine ⟨fun q => absurd q (by omega), fun _ => s_has z4 (by omega) ⟨R.1, bz (fun yes => ⟨v_i (by omega) (by decide), ?_⟩) (fun no => ih (i + 1) (by omega) (fun i' h' zi => ?_))⟩⟩
      · rw [nI_clamp (n := i) (by omega), ex, land_I, il_0, eq_I al (by omega), cl_and hx hz]
        refine ⟨fun a => ih (i + 1) (by omega) (fun i' h' zi => ?_), fun a => ⟨Or.inl rfl, ?_⟩⟩
        · by_cases y : i' = i
          · rw [y]; exact a
          · exact hi i' (by omega) zi
        · have := hq M Frl.refl
          rw [bI_F (fun g => a (fun q hq' zq => g.1 _ _ ((ch_at (by omega)).mpr yes) ((ch_at hq').mpr zq)))] at this
          exact this
      · by_cases y : i' = i
        · rw [y] at zi; exact absurd zi no
        · exact hi i' (by omega) zi
  exact r_isGood R.1 (l2 _ 0 rfl (fun i' h' => absurd h' (Nat.not_lt_zero i')))
theorem RX.gf (W : RX M m T) (g : Frl m [43, 44] [26, 27, 28, 29, 30, 31, 32, 42, 43] M M') : RX M' m T := W.fr g (fun o ho => by simp; omega) (by decide)
theorem m_fewest {Q : Int32 → Mem → Prop} (W : RX M m T) (hq : ∀ M', RX M' m T → Ou m M M' → Q (f_fewest T) M') : CI G (d + 6) 262 [.ref m] M Q := by
  unfold f_fewest at hq
  have V := W.rs.2.1
  have al := allM_le V 4
  refine r_fewest W.1 (s_allMarks W ⟨W.1, ?_⟩)
  rw [← allM_4 V, show (12 : Int32) = nI 12 from rfl, le_I (by omega) (by omega)]
  refine ⟨fun n2 => ?_, fun n2 => by rw [cif_F n2] at hq; exact hq M W Ou.refl⟩
  rw [cif_T n2] at hq
  have tl := tg_len V
  rw [← tl] at n2
  have n2' : allM (sh T) 4 ≤ 12 := by omega
  rw [← tl]
  have fin : ∀ (M1 : Mem) (v : Int32), Frl m [43, 44] [26, 27, 28, 29, 30, 31, 32, 42, 43] M M1 → isFew (sh T) v → Q v M1 := fun M1 v g1 f => by
    have := hq M1 (W.gf g1) (g1.ou (by decide))
    rw [few_e V n2' f] at this; exact this
  have p2 : 2 ^ (tgL (sh T)).length ≤ 4096 := Nat.pow_le_pow_right (n := 2) (by decide) n2
  -- the sets
  have l127 : ∀ (j k : Nat) (Mx : Mem), j + k = (tgL (sh T)).length + 1 → Frl m [43, 44] [26, 27, 28, 29, 30, 31, 32, 42, 43] M Mx → gaR Mx m (sh T) → nog (sh T) k 0 → At G (d + 6) 262 127 [(0, .ref m), (1, .int (nI (tgL (sh T)).length)), (3, .int (nI k))] [] Mx (qI Q) := by
    intro j
    induction j with
    | zero =>
      intro k Mx e gx ga hg
      refine r_fewest_127 (gx.ra W.1) ?_
      rw [lt_I (by omega) (by omega)]
      refine ⟨fun _ => fin Mx _ gx (nog_e ?_), fun z => absurd (by omega) z⟩
      rw [← tl, show (tgL (sh T)).length + 1 = k by omega]; exact hg
    | succ j ih =>
      intro k Mx e gx ga hg
      refine r_fewest_127 (gx.ra W.1) ?_
      rw [lt_I (by omega) (by omega)]
      refine ⟨fun z => absurd z (by omega), fun _ => ?_⟩
      have l135 : ∀ (q z : Nat) (My : Mem), q + z = 2 ^ (tgL (sh T)).length → Frl m [43, 44] [26, 27, 28, 29, 30, 31, 32, 42, 43] M My → gaR My m (sh T) → nog (sh T) k z → At G (d + 6) 262 135 [(0, .ref m), (1, .int (nI (tgL (sh T)).length)), (3, .int (nI k)), (4, .int (nI z))] [] My (qI Q) := by
        intro q
        induction q with
        | zero =>
          intro z My ez gy gb hz
          refine r_fewest_135 (gy.ra W.1) ?_
          rw [shl_I (by omega), le_I (by omega) (by omega), nI_1]
          refine ⟨fun _ => ih (k + 1) My (by omega) gy gb (nog_s ?_), fun y => absurd (by omega) y⟩
          rw [← tl, show 2 ^ (tgL (sh T)).length = z by omega]; exact hz
        | succ q ihq =>
          intro z My ez gy gb hz
          have Wy := W.gf gy
          have pb := pop_le (y := z) (n := 12) (by omega) 12
          refine r_fewest_135 (gy.ra W.1) ?_
          rw [shl_I (by omega), le_I (by omega) (by omega), nI_1 (a := z)]
          refine ⟨fun y => absurd y (by omega), fun _ => s_bits (by omega) ⟨gy.ra W.1, ?_⟩⟩
          rw [eq_I (by omega) (by omega)]
          refine ⟨fun ne => ihq (z + 1) My (by omega) gy gb (nog_n hz (fun c => ne c.1)), fun eq => ?_⟩
          refine s_isGood Wy.rs n2 gb (by omega) (fun M14 g14 => ⟨g14.ra (gy.ra W.1), bz (fun good => ?_) (fun bad => ?_)⟩)
          · exact fin M14 _ (gy.trans (g14.sub (by decide) (by decide))) (nog_y hz (by rw [← tl]; omega) eq good)
          · exact ihq (z + 1) M14 (by omega) (gy.trans (g14.sub (by decide) (by decide))) (gb.fr g14 (by decide) (by decide)) (nog_n hz (fun c => bad c.2))
      exact l135 _ 0 Mx rfl gx ga hg
  -- the clashes
  have l49 : ∀ (j i : Nat) (Mx : Mem), j + i = (tgL (sh T)).length → Frl m [43, 44] [26, 27, 28, 29, 30, 31, 32, 42, 43] M Mx → (∀ i, i < (tgL (sh T)).length → vi Mx (m + 42) i = nI ((tgL (sh T)).getD i 0)) → (∀ i', i' < i → ∃ x, clB (sh T) i' (tgL (sh T)).length x ∧ vi Mx (m + 43) i' = nI x) → At G (d + 6) 262 49 [(0, .ref m), (1, .int (nI (tgL (sh T)).length)), (3, .int (nI i))] [] Mx (qI Q) := by
    intro j
    induction j with
    | zero =>
      intro i Mx e gx h42 h43
      refine r_fewest_49 (gx.ra W.1) ?_
      rw [le_I (by omega) (by omega)]
      exact ⟨fun _ => l127 _ 0 Mx rfl gx ⟨h42, fun i' h' => h43 i' (by omega)⟩ nog_0, fun z => absurd (by omega) z⟩
    | succ j ih =>
      intro i Mx e gx h42 h43
      have vi12 : vp_in (nI i) 12 := v_i (by omega) (by decide)
      refine r_fewest_49 (gx.ra W.1) ?_
      rw [le_I (by omega) (by omega), nI_clamp (n := i) (by omega)]
      refine ⟨fun z => absurd z (by omega), fun _ => ⟨vi12, fun M6 e6 => ?_⟩⟩
      have l64 : ∀ (q k x : Nat) (My : Mem), q + k = (tgL (sh T)).length → Frl m [43, 44] [26, 27, 28, 29, 30, 31, 32, 42, 43] M My → (∀ i, i < (tgL (sh T)).length → vi My (m + 42) i = nI ((tgL (sh T)).getD i 0)) → (∀ i', i' < i → ∃ x, clB (sh T) i' (tgL (sh T)).length x ∧ vi My (m + 43) i' = nI x) → clB (sh T) i k x → vi My (m + 43) i = nI x → At G (d + 6) 262 64 [(0, .ref m), (1, .int (nI (tgL (sh T)).length)), (3, .int (nI i)), (4, .int (nI k))] [] My (qI Q) := by
        intro q
        induction q with
        | zero =>
          intro k x My ek gy g42 g43 hx ex
          have ek : k = (tgL (sh T)).length := by omega
          subst ek
          refine r_fewest_64 (gy.ra W.1) ?_
          rw [le_I (by omega) (by omega), nI_1]
          refine ⟨fun _ => ih (i + 1) My (by omega) gy g42 (fun i' h' => ?_), fun z => absurd (Nat.le_refl _) z⟩
          by_cases y : i' = i
          · rw [y]; exact ⟨x, hx, ex⟩
          · exact g43 i' (by omega)
        | succ q ihq =>
          intro k x My ek gy g42 g43 hx ex
          have Wy := W.gf gy
          have it := tg_at (S := sh T) (i := i) (by omega)
          have kt := tg_at (S := sh T) (i := k) (by omega)
          have x4 := hx.1
          have put : ∀ (x' : Nat) (M7 : Mem), clB (sh T) i (k + 1) x' → M7 = seti My (m + 43) i (nI x') → At G (d + 6) 262 64 [(0, .ref m), (1, .int (nI (tgL (sh T)).length)), (3, .int (nI i)), (4, .int (nI (k + 1)))] [] M7 (qI Q) := fun x' M7 hx' e7 => by
            have g7 : Frl m [43, 44] [26, 27, 28, 29, 30, 31, 32, 42, 43] My M7 := by rw [e7]; exact Frl.si (by decide)
            refine ihq (k + 1) x' M7 (by omega) (gy.trans g7) (fun i' h' => ?_) (fun i' h' => ?_) hx' (by rw [e7, vi_seti, if_pos ⟨rfl, rfl⟩])
            · rw [e7, vi_seti, if_neg (by omega)]; exact g42 i' h'
            · rw [e7, vi_seti, if_neg (fun z => by have := z.2; omega)]; exact g43 i' h'
          refine r_fewest_64 (gy.ra W.1) ?_
          rw [le_I (by omega) (by omega), nI_clamp (n := i) (by omega), nI_clamp (n := k) (by omega), g42 i (by omega), g42 k (by omega), ex, eq_I (by omega) (by omega), il_0, shl_I (by omega), lor_I, lor_I, Nat.or_zero, nI_1 (a := k)]
          refine ⟨fun z => absurd z (by omega), fun _ => ⟨vi12, fun eq => ⟨vi12, fun M7 e7 => put x M7 (clB_n hx (by rw [eq]; exact ck_self _)) e7⟩, fun ne => ⟨vi12, v_i (by omega) (by decide), ?_⟩⟩⟩
          refine s_clashOf Wy.rs it.2.1 kt.2.1 ⟨gy.ra W.1, fun le => ⟨vi12, fun M10 e10 => put x M10 (clB_n hx ?_) e10⟩, fun nl => ⟨vi12, fun M11 e11 => put _ M11 (clB_y (by omega) hx ?_) e11⟩⟩
          · have nn := ck_nn (kM (sh T) ((tgL (sh T)).getD i 0)) (kM (sh T) ((tgL (sh T)).getD k 0))
            rw [fa_le, show (nI 0).toInt = 0 from rfl] at le
            rw [fa_eq, show (0 : Int32).toInt = 0 from rfl]; omega
          · intro c
            rw [c] at nl
            exact nl (by decide)
      have g6 : Frl m [43, 44] [26, 27, 28, 29, 30, 31, 32, 42, 43] Mx M6 := by rw [e6]; exact Frl.si (by decide)
      refine l64 _ 0 0 M6 rfl (gx.trans g6) (fun i' h' => ?_) (fun i' h' => ?_) clB_0 (by rw [e6, vi_seti, if_pos ⟨rfl, rfl⟩]; rfl)
      · rw [e6, vi_seti, if_neg (by omega)]; exact h42 i' h'
      · rw [e6, vi_seti, if_neg (fun z => by have := z.2; omega)]; exact h43 i' h'
  -- the marks
  have l17 : ∀ (j s : Nat) (Mx : Mem), j + s = 64 → Frl m [43, 44] [26, 27, 28, 29, 30, 31, 32, 42, 43] M Mx → (∀ i, i < (psl (isM (sh T)) s).length → vi Mx (m + 42) i = nI ((psl (isM (sh T)) s).getD i 0)) → At G (d + 6) 262 17 [(0, .ref m), (1, .int (nI (tgL (sh T)).length)), (2, .int (nI (psl (isM (sh T)) s).length)), (3, .int (nI s))] [] Mx (qI Q) := by
    intro j
    induction j with
    | zero =>
      intro s Mx e gx hx
      have e : s = 64 := by omega
      subst e
      exact r_fewest_17 (gx.ra W.1) ⟨fun _ => l49 _ 0 Mx rfl gx hx (fun i' h' => absurd h' (Nat.not_lt_zero i')), fun z => absurd (show (64 : Int32) ≤ nI 64 by decide) z⟩
    | succ j ih =>
      intro s Mx e gx hx
      have Wx := W.gf gx
      have nx := ih (s + 1)
      refine r_fewest_17 (gx.ra W.1) ⟨fun z => absurd z (nI_ge (a := s) (b := 64) (by omega) (by decide)), fun _ => ?_⟩
      rw [nI_1 (a := s)]
      refine s_isThere Wx.rs (by omega) ⟨gx.ra W.1, bz (fun is => ?_) (fun no => ?_)⟩
      · have lt : (psl (isM (sh T)) s).length < (tgL (sh T)).length := by
          have := (tg_of V is).1
          rw [psl_ct]; exact this
        rw [nI_clamp (n := (psl (isM (sh T)) s).length) (by omega), nI_1]
        refine ⟨v_i (by omega) (by decide), fun M5 e5 => ?_⟩
        have := nx M5 (by omega) (gx.trans (by rw [e5]; exact Frl.si (by decide)))
        rw [psl_y is, List.length_append] at this
        refine this (fun i hi => ?_)
        have hi : i < (psl (isM (sh T)) s).length + 1 := hi
        rw [e5, vi_seti]
        by_cases y : i = (psl (isM (sh T)) s).length
        · rw [if_pos ⟨rfl, y⟩, y, gA_r]
        · rw [if_neg (fun z => y z.2), gA_l (by omega)]; exact hx i (by omega)
      · have := nx Mx (by omega) gx
        rw [psl_n no] at this
        exact this hx
  exact l17 64 0 M rfl Frl.refl (fun i hi => absurd hi (Nat.not_lt_zero i))
end
