/-! MOVED: the class's table, its offers -/
section
variable {G : GT} {d : Nat} {M M' : Mem} {o a : Nat} {w : Nat → Nat} {S : ShT}
def bhd (M : Mem) (o : Nat) (S : ShT) : Prop := ∀ i j, i ≤ gN S → j ≤ wN S → vi M (o + 1) (201 * i + j) = nI (eE S i j)
theorem sub1 (n : Nat) : nI n - 1 = dI n := by unfold dI; rw [Int32.sub_eq_add_neg]
theorem k_fillBehind {Q : Mem → Prop} (O : ObAt 7 M o) (H : shE M a S) (V : okS S) (dj : a + 9 ≤ o) (g4 : gN S ≤ 24) (hq : ∀ M', Frl o [] [1] M M' → bhd M' o S → Q M') : CV G (d + 3) 68 [.ref o, .ref a] M Q := by
  have g2 := V.g
  have w2 := V.w
  have kb0 := (kc_9 V (k := 0) (by decide)).1
  have kb1 := (kc_9 V (k := 1) (by decide)).1
  have eb := fun i j => eE_b V (i := i) (j := j)
  have v07 : vp_in (0 : Int32) 7 := v_i (k := 0) (by decide) (by decide)
  have v17 : vp_in (1 : Int32) 7 := v_i (k := 1) (by decide) (by decide)
  have kk : ∀ {Mx : Mem} (k : Nat), Frl o [] [1] M Mx → k < 7 → vi Mx (a + 6) k = nI (kc S k) := fun k gx hk => (H.fr gx dj).2.2.2.2.2 k hk
  -- rows, from the last
  have l65 : ∀ (ii : Nat) (Mx : Mem), ii ≤ gN S → Frl o [] [1] M Mx → (∀ i j, ii ≤ i → i ≤ gN S → j ≤ wN S → vi Mx (o + 1) (201 * i + j) = nI (eE S i j)) → At G (d + 3) 68 65 [(0, .ref o), (1, .ref a), (2, .int (nI (wN S))), (4, .int (dI ii))] [] Mx (qV Q) := by
    intro ii
    induction ii with
    | zero =>
      intro Mx _ gx hx
      exact c_X7_fillBehind_65 (gx.ob O) (H.fr gx dj).1 ⟨fun _ => hq Mx gx (fun i j hi hj => hx i j (Nat.zero_le _) hi hj), fun z => absurd dI_0 z⟩
    | succ i ih =>
      intro Mx hi gx hx
      have Ox := gx.ob O
      have Hx := H.fr gx dj
      have ci : i < gN S := by omega
      have tb := tcs_b V (c := gB S i)
      rw [dI_s]
      -- one row, from its end
      have l152 : ∀ (jj : Nat) (My : Mem), jj ≤ wN S → Frl o [] [1] M My → (∀ i' j, i < i' → i' ≤ gN S → j ≤ wN S → vi My (o + 1) (201 * i' + j) = nI (eE S i' j)) → (∀ j, jj ≤ j → j ≤ wN S → vi My (o + 1) (201 * i + j) = nI (eE S i j)) → At G (d + 3) 68 152 [(0, .ref o), (1, .ref a), (2, .int (nI (wN S))), (4, .int (nI i)), (5, .int (gB S i)), (6, .int (twn (gB S i))), (7, .int (nI (tcs S (gB S i)))), (8, .int (nI (i * 201))), (9, .int (nI (i * 201 + 201))), (10, .int (dI jj))] [] My (qV Q) := by
        intro jj
        induction jj with
        | zero =>
          intro My _ gy h1 h2
          refine c_X7_fillBehind_152 (gy.ob O) (H.fr gy dj).1 ⟨fun _ => ih My (by omega) gy (fun i' j h3 h4 h5 => ?_), fun z => absurd dI_0 z⟩
          by_cases y : i' = i
          · rw [y]; exact h2 j (Nat.zero_le _) h5
          · exact h1 i' j (by omega) h4 h5
        | succ j ihj =>
          intro My hj gy h1 h2
          have Oy := gy.ob O
          have Hy := H.fr gy dj
          have cj : j < wN S := by omega
          have hu : 32 ≤ (wB S j).toInt := (V.wb cj).1
          have bk := fun m1 x => bck_ok (S := S) (b := (gL' S).drop (i + 1)) (v := (wL' S).drop (j + 1)) (c := gB S i) (u := wB S j) hu (m1 := m1) (x := x)
          rw [← dr_g ci, ← dr_w cj] at bk
          have bk : ∀ m1 x : Nat, m1 = min (eE S (i + 1) j + kc S 1) (eE S i (j + 1) + kc S 0) → (wB S j = gB S i → x = min m1 (eE S (i + 1) (j + 1))) → (¬ wB S j = gB S i → wB S j = twn (gB S i) → x = min m1 (eE S (i + 1) (j + 1) + tcs S (gB S i))) → (¬ wB S j = gB S i → ¬ wB S j = twn (gB S i) → x = m1) → x = eE S i j := bk
          have q1 : vi My (o + 1) (i * 201 + 201 + j) = nI (eE S (i + 1) j) := by
            have := h1 (i + 1) j (by omega) (by omega) (by omega)
            rw [show 201 * (i + 1) + j = i * 201 + 201 + j by omega] at this; exact this
          have q2 : vi My (o + 1) (i * 201 + j + 1) = nI (eE S i (j + 1)) := by
            have := h2 (j + 1) (Nat.le_refl _) (by omega)
            rw [show 201 * i + (j + 1) = i * 201 + j + 1 by omega] at this; exact this
          have q3 : vi My (o + 1) (i * 201 + 201 + j + 1) = nI (eE S (i + 1) (j + 1)) := by
            have := h1 (i + 1) (j + 1) (by omega) (by omega) (by omega)
            rw [show 201 * (i + 1) + (j + 1) = i * 201 + 201 + j + 1 by omega] at this; exact this
          have b1 := eb (i + 1) j
          have b2 := eb i (j + 1)
          have b3 := eb (i + 1) (j + 1)
          have go : ∀ (M8 : Mem) (x : Nat), M8 = seti My (o + 1) (i * 201 + j) (nI x) → x = eE S i j → At G (d + 3) 68 152 [(0, .ref o), (1, .ref a), (2, .int (nI (wN S))), (4, .int (nI i)), (5, .int (gB S i)), (6, .int (twn (gB S i))), (7, .int (nI (tcs S (gB S i)))), (8, .int (nI (i * 201))), (9, .int (nI (i * 201 + 201))), (10, .int (nI j + (-1 : Int32)))] [] M8 (qV Q) := fun M8 x e8 ex => by
            refine ihj M8 (by omega) (gy.trans (by rw [e8]; exact Frl.si (by decide))) (fun i' j' h3 h4 h5 => ?_) (fun j' h3 h4 => ?_)
            · rw [e8, vi_seti, if_neg (fun z => by have := z.2; omega)]; exact h1 i' j' h3 h4 h5
            · rw [e8, vi_seti]
              by_cases y : j' = j
              · rw [if_pos ⟨rfl, by omega⟩, ex, y]
              · rw [if_neg (fun z => by have := z.2; omega)]; exact h2 j' (by omega) h4
          rw [dI_s]
          refine c_X7_fillBehind_152 Oy Hy.1 ?_
          rw [show (1 : Int32) = nI 1 from rfl, nI_add, nI_add, nI_add, nI_add, nI_clamp (n := i * 201 + 201 + j) (by omega), nI_clamp (n := i * 201 + j + 1) (by omega), nI_clamp (n := i * 201 + 201 + j + 1) (by omega), nI_clamp (n := i * 201 + j) (by omega), nI_clamp (n := j) (by omega), nI_clamp (n := 1) (by omega), show (0 : Int32).toNatClampNeg = 0 from rfl, kk 1 gy (by decide), kk 0 gy (by decide), Hy.2.2.2.2.1 j cj, q1, q2, q3, nI_add, nI_add, nI_add, min_I (by omega) (by omega), min_I (by omega) (by omega), min_I (by omega) (by omega)]
          have vp : ∀ {n : Nat}, n < 5025 → vp_in (nI n) 5025 := fun h => v_i h (by decide)
          refine ⟨fun z => absurd z (nlt0 _ (by omega)), fun _ => ⟨vp (by omega), v17, vp (by omega), v07, v_i (by omega) (by decide), fun n1 => ⟨fun n2 => ⟨vp (by omega), fun M8 e8 => go M8 _ e8 ?_⟩, fun y2 => ⟨vp (by omega), vp (by omega), fun M9 e9 => go M9 _ e9 ?_⟩⟩, fun y1 => ⟨vp (by omega), vp (by omega), fun M10 e10 => go M10 _ e10 ?_⟩⟩⟩
          · exact bk _ _ rfl (fun z => absurd z n1) (fun _ z => absurd z n2) (fun _ _ => rfl)
          · exact bk _ _ rfl (fun z => absurd z n1) (fun _ _ => rfl) (fun _ z => absurd y2 z)
          · exact bk _ _ rfl (fun _ => rfl) (fun z => absurd y1 z) (fun z => absurd y1 z)
      -- its end
      have el : eE S i (wN S) = eE S (i + 1) (wN S) + kc S 1 := by
        unfold eE
        rw [dr_g ci, dr_n (l := wL' S) (by rw [wL_len]; exact Nat.le_refl _), edL_cn, Nat.add_comm]
      have q0 : vi Mx (o + 1) (i * 201 + 201 + wN S) = nI (eE S (i + 1) (wN S)) := by
        have := hx (i + 1) (wN S) (Nat.le_refl _) (by omega) (Nat.le_refl _)
        rw [show 201 * (i + 1) + wN S = i * 201 + 201 + wN S by omega] at this; exact this
      have fin : ∀ (M6 : Mem), M6 = seti Mx (o + 1) (i * 201 + wN S) (nI (eE S (i + 1) (wN S) + kc S 1)) → At G (d + 3) 68 152 [(0, .ref o), (1, .ref a), (2, .int (nI (wN S))), (4, .int (nI i)), (5, .int (gB S i)), (6, .int (twn (gB S i))), (7, .int (nI (tcs S (gB S i)))), (8, .int (nI (i * 201))), (9, .int (nI (i * 201 + 201))), (10, .int (dI (wN S)))] [] M6 (qV Q) := fun M6 e6 => by
        refine l152 (wN S) M6 (Nat.le_refl _) (gx.trans (by rw [e6]; exact Frl.si (by decide))) (fun i' j h3 h4 h5 => ?_) (fun j h3 h4 => ?_)
        · rw [e6, vi_seti, if_neg (fun z => by have := z.2; omega)]; exact hx i' j (by omega) h4 h5
        · rw [show j = wN S by omega, e6, vi_seti, if_pos ⟨rfl, by omega⟩, el]
      refine c_X7_fillBehind_65 Ox Hx.1 ?_
      rw [nI_clamp (n := i) (by omega), Hx.2.2.2.1 i ci, show (201 : Int32) = nI 201 from rfl, pk_mul, nI_add, nI_add, nI_add, nI_clamp (n := i * 201 + wN S) (by omega), nI_clamp (n := i * 201 + 201 + wN S) (by omega), sub1]
      have vp : ∀ {n : Nat}, n < 5025 → vp_in (nI n) 5025 := fun h => v_i h (by decide)
      refine ⟨fun z => absurd z (nlt0 _ (by omega)), fun _ => ⟨v_i (by omega) (by decide), k_twinOf ⟨⟨Ox, Hx.1⟩, k_isSmall ⟨⟨Ox, Hx.1⟩, bz (fun s => ⟨v_i (k := 2) (by decide) (by decide), vp (by omega), v17, vp (by omega), fun M7 e7 => ?_⟩) (fun s => ⟨v_i (k := 3) (by decide) (by decide), vp (by omega), v17, vp (by omega), fun M6 e6 => ?_⟩)⟩⟩⟩⟩
      · rw [q0, show (1 : Int32).toNatClampNeg = 1 from rfl, kk 1 gx (by decide), nI_add] at e7
        have := fin M7 e7
        rw [show tcs S (gB S i) = kc S 2 by unfold tcs; rw [cif_T s]] at this
        rw [show (2 : Int32).toNatClampNeg = 2 from rfl, kk 2 gx (by decide)]
        exact this
      · rw [q0, show (1 : Int32).toNatClampNeg = 1 from rfl, kk 1 gx (by decide), nI_add] at e6
        have := fin M6 e6
        rw [show tcs S (gB S i) = kc S 3 by unfold tcs; rw [cif_F s]] at this
        rw [show (3 : Int32).toNatClampNeg = 3 from rfl, kk 3 gx (by decide)]
        exact this
  have l24 : ∀ (k j : Nat) (Mx : Mem), k + j = wN S + 1 → Frl o [] [1] M Mx → (∀ q, q < j → vi Mx (o + 1) (gN S * 201 + q) = nI ((wN S - q) * kc S 0)) → At G (d + 3) 68 24 [(0, .ref o), (1, .ref a), (2, .int (nI (wN S))), (3, .int (nI (gN S))), (4, .int (nI j))] [] Mx (qV Q) := by
    intro k
    induction k with
    | zero =>
      intro j Mx e gx hx
      refine c_X7_fillBehind_24 (gx.ob O) (H.fr gx dj).1 ?_
      rw [lt_I (by omega) (by omega), sub1]
      refine ⟨fun _ => l65 (gN S) Mx (Nat.le_refl _) gx (fun i j' h1 h2 h3 => ?_), fun z => absurd (by omega) z⟩
      rw [show i = gN S by omega, show 201 * gN S + j' = gN S * 201 + j' by omega, hx j' (by omega)]
      unfold eE
      rw [dr_n (l := gL' S) (by rw [gL_len]; exact Nat.le_refl _)]
      show _ = nI (((wL' S).drop j').length * kc S 0)
      rw [List.length_drop, wL_len]
    | succ k ih =>
      intro j Mx e gx hx
      have Hx := H.fr gx dj
      refine c_X7_fillBehind_24 (gx.ob O) Hx.1 ?_
      rw [lt_I (by omega) (by omega), show (201 : Int32) = nI 201 from rfl, pk_mul, nI_add, nI_clamp (n := gN S * 201 + j) (by omega), show (0 : Int32).toNatClampNeg = 0 from rfl, kk 0 gx (by decide), pk_sub (by omega), pk_mul, nI_1]
      refine ⟨fun z => absurd z (by omega), fun _ => ⟨v07, v_i (by omega) (by decide), fun M1 e1 => ?_⟩⟩
      refine ih (j + 1) M1 (by omega) (gx.trans (by rw [e1]; exact Frl.si (by decide))) (fun q hq' => ?_)
      rw [e1, vi_seti]
      by_cases y : q = j
      · rw [if_pos ⟨rfl, by omega⟩, y]
      · rw [if_neg (fun z => by have := z.2; omega)]; exact hx q (by omega)
  refine c_X7_fillBehind O H.1 ?_
  have mn : (if (200 : Int32) < vi M a 3 then (200 : Int32) else vi M a 3) = nI (wN S) := by
    rw [H.2.2.1]
    exact if_neg (by rw [show (200 : Int32) = nI 200 from rfl, lt_I (by omega) (by omega)]; omega)
  have mg : (if (24 : Int32) < vi M a 1 then (24 : Int32) else vi M a 1) = nI (gN S) := by
    rw [H.2.1]
    exact if_neg (by rw [show (24 : Int32) = nI 24 from rfl, lt_I (by omega) (by omega)]; omega)
  rw [mn, mg]
  exact l24 (wN S + 1) 0 M rfl Frl.refl (fun q hq' => absurd hq' (Nat.not_lt_zero q))
/-- the best, as the class has it -/
def encC (M : Mem) (o n : Nat) (cur : Option (Nat × Nat × Nat)) : Prop := vi M o 1 = nI n ∧ vi M o 2 = t2 (cur.map (fun x => x.1)) ∧ vi M o 3 = t2 (cur.map (fun x => x.2.1)) ∧ vi M o 4 = t2 (cur.map (fun x => x.2.2))
theorem encC.fr {n : Nat} {cur : Option (Nat × Nat × Nat)} {L : List Nat} (h : encC M o n cur) (g : Frl o [] L M M') (h0 : 0 ∉ L) : encC M' o n cur := ⟨by rw [g.f (by simp) h0]; exact h.1, by rw [g.f (by simp) h0]; exact h.2.1, by rw [g.f (by simp) h0]; exact h.2.2.1, by rw [g.f (by simp) h0]; exact h.2.2.2⟩
theorem k_comesAhead {x y z n : Nat} {cur : Option (Nat × Nat × Nat)} {Q : Int32 → Mem → Prop} (O : ObAt 7 M o) (he : encC M o n cur) (x2 : x ≤ 1000) (y2 : y ≤ 1000) (z2 : z ≤ 1000) (hc : ∀ a b c, cur = some (a, b, c) → a ≤ 1000 ∧ b ≤ 1000 ∧ c ≤ 1000) (hq : Q (bI (∃ a b c, cur = some (a, b, c) ∧ lex3 x y z a b c)) M) : CI G (d + 1) 72 [.ref o, .int (nI x), .int (nI y), .int (nI z)] M Q := by
  refine c_X7_comesAhead O ?_
  rw [he.2.1, he.2.2.1, he.2.2.2]
  match cur, hc, hq with
  | none, _, hq =>
    have f : t2 none < 0 := by decide
    exact ⟨fun _ => ⟨fun _ => qF2 hq (fun ⟨a, b, c, h, _⟩ => by cases h), fun q => absurd f q⟩, fun q => absurd f q⟩
  | some (a, b, c), hc, hq =>
    obtain ⟨ha, hb, hc'⟩ := hc a b c rfl
    rw [show (∃ a' b' c', some (a, b, c) = some (a', b', c') ∧ lex3 x y z a' b' c') = lex3 x y z a b c from propext ⟨fun ⟨a', b', c', h, l⟩ => by cases h; exact l, fun l => ⟨a, b, c, rfl, l⟩⟩] at hq
    show (nI a < 0 → _) ∧ _
    have na : ¬ nI a < 0 := nlt0 _ (by omega)
    show (nI a < 0 → (nI a < 0 → _) ∧ (¬ nI a < 0 → (nI a ≤ nI x → _) ∧ (¬ nI a ≤ nI x → _))) ∧ (¬ nI a < 0 → (nI x = nI a → (nI y = nI b → (nI c ≤ nI z → _) ∧ (¬ nI c ≤ nI z → _)) ∧ (¬ nI y = nI b → (nI b ≤ nI y → _) ∧ (¬ nI b ≤ nI y → _))) ∧ (¬ nI x = nI a → (nI a < 0 → _) ∧ (¬ nI a < 0 → (nI a ≤ nI x → _) ∧ (¬ nI a ≤ nI x → _))))
    rw [eq_I (a := x) (b := a) (by omega) (by omega), eq_I (a := y) (b := b) (by omega) (by omega), le_I (a := c) (by omega) (by omega), le_I (a := b) (by omega) (by omega), le_I (a := a) (by omega) (by omega)]
    unfold lex3 at hq
    refine ⟨fun q => absurd q na, fun _ => ⟨fun e1 => ⟨fun e2 => ⟨fun l => qF2 hq (by omega), fun l => qT2 hq (by omega)⟩, fun e2 => ⟨fun l => qF2 hq (by omega), fun l => qT2 hq (by omega)⟩⟩, fun e1 => ⟨fun q => absurd q na, fun _ => ⟨fun l => qF2 hq (by omega), fun l => qT2 hq (by omega)⟩⟩⟩⟩
theorem k_offer {x y z n : Nat} {cur : Option (Nat × Nat × Nat)} {P P' : Nat → Nat → Nat → Prop} {Q : Mem → Prop} (O : ObAt 7 M o) (V : okS S) (g4 : gN S ≤ 24) (he : encC M o n cur) (hb : bs4 S P n cur) (hPi : ∀ x y z, P x y z → isT (gN S) x y z) (hT : isT (gN S) x y z) (h1 : ∀ a b c, P' a b c → P a b c ∨ (a = x ∧ b = y ∧ c = z)) (h2 : ∀ a b c, P a b c → P' a b c) (h3 : P' x y z) (hq : ∀ M' n' cur', Frl o [1, 2, 3, 4] [] M M' → encC M' o n' cur' → bs4 S P' n' cur' → Q M') : CV G (d + 2) 71 [.ref o, .int (nI (mvC S x y z)), .int (nI x), .int (nI y), .int (nI z)] M Q := by
  have n6 := bs4_le V g4 hPi hb
  have m6 := mvC_le V g4 hT
  obtain ⟨t1, t2', t3, t4⟩ := hT
  have cb : ∀ a b c, cur = some (a, b, c) → a ≤ 1000 ∧ b ≤ 1000 ∧ c ≤ 1000 := fun a b c e => by
    rw [e] at hb
    obtain ⟨q1, q2, q3, q4⟩ := hPi a b c hb.1
    omega
  have set : ∀ (Mx : Mem), Frl o [1, 2, 3, 4] [] M Mx → btr (mvC S x y z) n x y z cur → ∀ M1, M1 = seti Mx o 1 (nI (mvC S x y z)) → ∀ M2, M2 = seti M1 o 2 (nI x) → ∀ M3, M3 = seti M2 o 3 (nI y) → ∀ M4, M4 = seti M3 o 4 (nI z) → Q M4 := fun Mx gx bt M1 e1 M2 e2 M3 e3 M4 e4 => by
    refine hq M4 (mvC S x y z) (some (x, y, z)) (gx.trans (by rw [e4, e3, e2, e1]; exact (Frl.sf (by decide)).trans ((Frl.sf (by decide)).trans ((Frl.sf (by decide)).trans (Frl.sf (by decide)))))) ⟨?_, ?_, ?_, ?_⟩ (bs4_y hb h1 h3 bt)
    · rw [e4, vi_seti, if_neg (by omega), e3, vi_seti, if_neg (by omega), e2, vi_seti, if_neg (by omega), e1, vi_seti, if_pos ⟨rfl, rfl⟩]
    · rw [e4, vi_seti, if_neg (by omega), e3, vi_seti, if_neg (by omega), e2, vi_seti, if_pos ⟨rfl, rfl⟩]; rfl
    · rw [e4, vi_seti, if_neg (by omega), e3, vi_seti, if_pos ⟨rfl, rfl⟩]; rfl
    · rw [e4, vi_seti, if_pos ⟨rfl, rfl⟩]; rfl
  refine c_X7_offer O ?_
  rw [he.1, lt_I (by omega) (by omega), eq_I (by omega) (by omega)]
  refine ⟨fun lt => hq M n cur Frl.refl he (bs4_n hb h1 h2 ?_), fun nl => ⟨fun ne => set M Frl.refl ?_, fun eq => ?_⟩⟩
  · match cur with
    | none => exact fun w => by have w : mvC S x y z < n := w; omega
    | some (a, b, c) => exact fun w => by have w : mvC S x y z < n ∨ (mvC S x y z = n ∧ lex3 x y z a b c) := w; omega
  · match cur with
    | none => show mvC S x y z < n; omega
    | some (a, b, c) => exact Or.inl (show mvC S x y z < n by omega)
  · refine k_comesAhead O he (by omega) (by omega) (by omega) cb ⟨O, bnz (fun yes => ?_) (fun no => ?_)⟩
    · obtain ⟨a, b, c, e, l⟩ := yes
      exact set M Frl.refl (by rw [e]; exact Or.inr ⟨eq, l⟩)
    · refine hq M n cur Frl.refl he (bs4_n hb h1 h2 ?_)
      match cur, no with
      | none, _ => exact fun w => by have w : mvC S x y z < n := w; omega
      | some (a, b, c), no =>
        intro w
        have w : mvC S x y z < n ∨ (mvC S x y z = n ∧ lex3 x y z a b c) := w
        rcases w with w | w
        · omega
        · exact no ⟨a, b, c, rfl, w.2⟩
end
