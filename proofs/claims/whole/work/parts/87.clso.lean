/-! THE CLASS'S READER OF LAWS: a whole text -/
def FrU (x a : Nat) (M M' : Mem) : Prop := mN M' = mN M ∧ mS M' = mS M ∧ mK M' = mK M ∧ mA M' = mA M ∧ vr M' = vr M ∧ (∀ b k, b ≠ x + 1 → b ≠ x + 18 → (b < a ∨ a + 4 ≤ b) → vi M' b k = vi M b k ∧ vl M' b k = vl M b k) ∧ vi M' (x + 1) 1 = vi M (x + 1) 1
def clK (M : Mem) (a : Nat) (acc : List (Nat × Nat)) : Prop := ∀ j, j < acc.length → vi M (a + 2) j = nI (acc.getD j (0, 0)).1 ∧ vi M (a + 3) j = nI (acc.getD j (0, 0)).2
section
variable {G : GT} {d : Nat} {M M' M'' : Mem} {x a p n f : Nat} {t : TpT} {cd : List Nat}
theorem FrU.refl : FrU x a M M := ⟨rfl, rfl, rfl, rfl, rfl, fun _ _ _ _ _ => ⟨rfl, rfl⟩, rfl⟩
theorem FrU.trans (h : FrU x a M M') (h2 : FrU x a M' M'') : FrU x a M M'' :=
  ⟨h2.1.trans h.1, h2.2.1.trans h.2.1, h2.2.2.1.trans h.2.2.1, h2.2.2.2.1.trans h.2.2.2.1, h2.2.2.2.2.1.trans h.2.2.2.2.1, fun b k e1 e2 e3 => ⟨(h2.2.2.2.2.2.1 b k e1 e2 e3).1.trans (h.2.2.2.2.2.1 b k e1 e2 e3).1, (h2.2.2.2.2.2.1 b k e1 e2 e3).2.trans (h.2.2.2.2.2.1 b k e1 e2 e3).2⟩, h2.2.2.2.2.2.2.trans h.2.2.2.2.2.2⟩
theorem FrL.u (h : FrL x a M M') : FrU x a M M' := ⟨h.1, h.2.1, h.2.2.1, h.2.2.2.1, h.2.2.2.2.1, fun b k e1 e2 e3 => h.2.2.2.2.2.1 b k e1 e2 (by omega) (by omega), h.2.2.2.2.2.2.1⟩
theorem FrL.ac {i : Nat} (h : FrL x a M M') (hx : ((x + 1 < a ∨ a + 5 < x + 1) ∧ (x + 2 < a ∨ a + 5 < x + 2) ∧ (x + 18 < a ∨ a + 5 < x + 18))) (hi : i = 2 ∨ i = 3) : vi M' (a + i) = vi M (a + i) := by
  funext k; exact (h.2.2.2.2.2.1 (a + i) k (by omega) (by omega) (by omega) (by omega)).1
theorem clK.fr {acc : List (Nat × Nat)} (c : clK M a acc) (h : FrL x a M M') (hx : ((x + 1 < a ∨ a + 5 < x + 1) ∧ (x + 2 < a ∨ a + 5 < x + 2) ∧ (x + 18 < a ∨ a + 5 < x + 18))) : clK M' a acc := fun j hj => by
  rw [h.ac hx (Or.inl rfl), h.ac hx (Or.inr rfl)]; exact c j hj
/-- a place of the draft is written -/
theorem Lk.ex {b k : Nat} {v : Int32} (h : Lk M x a t p cd n f) (hb : b = a + 2 ∨ b = a + 3 ∨ (b = a ∧ k = 4)) : FrU x a M (seti M b k v) ∧ Lk (seti M b k v) x a t p cd n f := by
  have ha := h.2.1
  have v1 : ∀ b' k', ¬ (b' = b ∧ k' = k) → vi (seti M b k v) b' k' = vi M b' k' := fun b' k' hn => by rw [vi_seti, if_neg hn]
  refine ⟨⟨rfl, rfl, rfl, rfl, rfl, fun b' k' h1 h2 h3 => ⟨v1 b' k' (fun e => by omega), rfl⟩, v1 _ _ (fun e => by omega)⟩, ?_, ha, h.tpe.sm (h.tpe.1.cg rfl rfl rfl) ?_ ?_, h.2.2.2.1, h.f4, ⟨?_, h.2.2.2.2.2.1.2⟩, ?_, fun j hj => ?_⟩
  · exact ⟨h.1.1, h.1.2.1, h.1.2.2.1.cg rfl rfl rfl, h.1.2.2.2.1, h.1.2.2.2.2.cg rfl rfl rfl⟩
  · funext j; exact v1 _ _ (fun e => by omega)
  · funext j; exact v1 _ _ (fun e => by omega)
  · rw [v1 _ _ (fun e => by omega)]; exact h.2.2.2.2.2.1.1
  · rw [v1 _ _ (fun e => by omega)]; exact h.2.2.2.2.2.2.1
  · rw [v1 _ _ (fun e => by omega)]; exact h.2.2.2.2.2.2.2 j hj
theorem k_endSum {i : Nat} {Q : Mem → Prop} (h : Lk M x a t p cd n f) (i12 : i ≤ 12) (hq : ∀ M', FrU x a M M' → Lk M' x a t p cd n f → (i < 12 → vi M' (a + 2) i = nI cd.length) → (∀ j, j ≠ i → vi M' (a + 2) j = vi M (a + 2) j) → vi M' (a + 3) = vi M (a + 3) → Q M') : CV G (d + 1) 23 [.ref a, .int (nI i)] M (fun M' => LrAt M' (x + 18) (x + 1) a ∧ Q M') := by
  refine c_X2_endSum h.ob ?_
  rw [show (12 : Int32) = nI 12 from rfl, le_I (by omega) (by omega)]
  refine ⟨fun z => absurd z (nlt0 _ (by omega)), fun _ => ⟨fun z => ⟨h.1, hq M FrU.refl h (fun y => by omega) (fun _ _ => rfl) rfl⟩, fun z => ⟨vp_in_nI (by omega) (by omega), fun M1 e1 => ?_⟩⟩⟩
  rw [nI_clamp (by omega), h.2.2.2.2.2.1.1] at e1
  have r := h.ex (b := a + 2) (k := i) (v := nI cd.length) (Or.inl rfl)
  rw [← e1] at r
  refine ⟨r.2.1, hq M1 r.1 r.2 (fun _ => by rw [e1, vi_seti, if_pos ⟨rfl, rfl⟩]) (fun j hj => by rw [e1, vi_seti, if_neg (fun e => hj e.2)]) ?_⟩
  funext j; rw [e1, vi_seti, if_neg (fun e => by omega)]
theorem k_endClause {i : Nat} {Q : Mem → Prop} (h : Lk M x a t p cd n f) (i12 : i ≤ 12) (hq : ∀ M', FrU x a M M' → Lk M' x a t p cd n f → (i < 12 → vi M' (a + 3) i = nI cd.length ∧ vi M' a 4 = nI (i + 1)) → (∀ j, j ≠ i → vi M' (a + 3) j = vi M (a + 3) j) → vi M' (a + 2) = vi M (a + 2) → Q M') : CV G (d + 1) 24 [.ref a, .int (nI i)] M (fun M' => LrAt M' (x + 18) (x + 1) a ∧ Q M') := by
  refine c_X2_endClause h.ob ?_
  rw [show (12 : Int32) = nI 12 from rfl, le_I (by omega) (by omega)]
  refine ⟨fun z => absurd z (nlt0 _ (by omega)), fun _ => ⟨fun z => ⟨h.1, hq M FrU.refl h (fun y => by omega) (fun _ _ => rfl) rfl⟩, fun z => ⟨vp_in_nI (by omega) (by omega), fun M1 e1 M2 e2 => ?_⟩⟩⟩
  rw [nI_clamp (by omega), h.2.2.2.2.2.1.1] at e1
  rw [nI_1] at e2
  have r := h.ex (b := a + 3) (k := i) (v := nI cd.length) (Or.inr (Or.inl rfl))
  rw [← e1] at r
  have r2 := r.2.ex (b := a) (k := 4) (v := nI (i + 1)) (Or.inr (Or.inr ⟨rfl, rfl⟩))
  rw [← e2] at r2
  refine ⟨r2.2.1, hq M2 (r.1.trans r2.1) r2.2 (fun _ => ⟨by rw [e2, vi_seti, if_neg (fun e => by omega), e1, vi_seti, if_pos ⟨rfl, rfl⟩], by rw [e2, vi_seti, if_pos ⟨rfl, rfl⟩]⟩) (fun j hj => by rw [e2, vi_seti, if_neg (fun e => by omega), e1, vi_seti, if_neg (fun e => hj e.2)]) ?_⟩
  funext j; rw [e2, vi_seti, if_neg (fun e => by omega), e1, vi_seti, if_neg (fun e => by omega)]
/-- behind a FAULT: the end of a clause, a clause from its SUM on -/
theorem g_112 {i : Nat} {Q : Mem → Prop} (h : Lk M x a t p cd n f) (f0 : ¬ f = 0) (i12 : i ≤ 12) (hq : ∀ M' p' cd' n', FrU x a M M' → Lk M' x a t p' cd' n' f → Q M') : At G (d + 30) 32 112 [(0, .ref (x + 18)), (1, .int (nI i))] [] M (qV Q) := by
  have p4 := h.p4
  refine c_X3_readLaw_112 h.1 (k_endClause h i12 (fun M1 r1 h1 _ _ _ => k_peek h1.tpe (by omega) ⟨h1.1, fun _ => ?_, fun _ => hq M1 _ _ _ r1 h1⟩))
  refine k_lsign h1 (by decide) (fun z => absurd z f0) (fun _ => ⟨fun y => absurd rfl y, fun _ => ?_⟩)
  rw [h1.tpe.pp]
  refine k_lfail (c := 0) h1 (by omega) (by decide) (fun M2 r2 h2 => c_X3_readLaw_162 h2.1 ?_)
  rw [if_neg f0] at h2
  have ne : ¬ vi M2 (x + 1) 3 = 0 := by rw [h2.tpe.ff]; exact nI_ne0 (by omega) (by have := h.f4; omega)
  have e := hq M2 _ _ _ (r1.trans r2.u) h2
  exact c_X3_readLaw_21 h2.1 ⟨fun _ => c_X3_readLaw_168 h2.1 e, fun _ => ⟨fun _ => c_X3_readLaw_168 h2.1 e, fun y => absurd y ne⟩⟩
theorem g_82 {i : Nat} {Q : Mem → Prop} (h : Lk M x a t p cd n f) (f0 : ¬ f = 0) (i12 : i ≤ 12) (hq : ∀ M' p' cd' n', FrU x a M M' → Lk M' x a t p' cd' n' f → Q M') : At G (d + 30) 32 82 [(0, .ref (x + 18)), (1, .int (nI i))] [] M (qV Q) := by
  refine c_X3_readLaw_82 h.1 (k_readSum (d := d + 22) h (fun z => absurd z f0) (fun M1 p1 cd1 n1 f1 r1 h1 s1 _ => ?_))
  have e1 : f1 = f := s1.1 f0
  subst e1
  refine k_endSum h1 i12 (fun M2 r2 h2 _ _ _ => ?_)
  refine k_take1 (d := d + 24) (W := wIf) h2 (by decide) (by decide +kernel) (by decide +kernel) (fun z => absurd z f0) (fun _ => ⟨fun _ => ?_, fun y => absurd rfl y⟩)
  exact g_112 h2 f0 i12 (fun M' p' cd' n' r' h' => hq M' p' cd' n' ((r1.u.trans r2).trans r') h')
theorem k_readLaw {q e : Nat} {Q : Mem → Prop} (h : LrAt M (x + 18) (x + 1) a) (ha : ((x + 1 < a ∨ a + 5 < x + 1) ∧ (x + 2 < a ∨ a + 5 < x + 2) ∧ (x + 18 < a ∨ a + 5 < x + 18))) (ht : tpA M (x + 1) t q e)
    (hy : (pLw t 13 0 [] 0 []).1 = 0 → ∀ M' p' n', FrU x a M M' → Lk M' x a t p' (pLw t 13 0 [] 0 []).2.1 n' 0 → clK M' a (pLw t 13 0 [] 0 []).2.2 → vi M' a 4 = nI (pLw t 13 0 [] 0 []).2.2.length → (pLw t 13 0 [] 0 []).2.2.length ≤ 12 → Q M')
    (hn : ¬ (pLw t 13 0 [] 0 []).1 = 0 → ∀ M' p' cd' n', FrU x a M M' → Lk M' x a t p' cd' n' (pLw t 13 0 [] 0 []).1 → Q M') : CV G (d + 30) 32 [.ref (x + 18)] M Q := by
  have t4 : t.1 ≤ 400 := ht.2.2.1
  have tk := ht.2.2.2.1
  generalize hP : pLw t 13 0 [] 0 [] = P at *
  -- the loop
  have key : ∀ (k p : Nat) (cd : List Nat) (n : Nat) (acc : List (Nat × Nat)) (Mx : Mem), k + acc.length = 13 → acc.length ≤ 12 → P = pLw t k p cd n acc → p ≤ t.1 → Lk Mx x a t (skB t p) cd n 0 → bd t (skB t p) cd n → clK Mx a acc → FrU x a M Mx →
      At G (d + 30) 32 21 [(0, .ref (x + 18)), (1, .int (nI acc.length))] [] Mx (qV Q) := by
    intro k
    induction k with
    | zero => intro p cd n acc Mx h1 h2; omega
    | succ k ih =>
      intro p cd n acc Mx e12 l12 pe p4 hx b xa ux
      have sk := skB_le p4
      have b2 := b.2
      rw [pLw] at pe
      refine c_X3_readLaw_21 hx.1 ⟨fun y => absurd y (by rw [show (12 : Int32) = nI 12 from rfl, lt_I (by omega) (by omega)]; omega), fun _ => ⟨fun y => absurd hx.tpe.ff y, fun _ => ?_⟩⟩
      rw [hx.tpe.pp]
      generalize hq0 : skB t p = q at *
      -- a FAULT at its start
      have bad : ∀ (M1 : Mem) (p1 : Nat) (f1 : Nat), Lk M1 x a t p1 cd n f1 → ¬ f1 = 0 → FrU x a M M1 → (pCl t acc.length q cd n).1 = f1 → At G (d + 30) 32 82 [(0, .ref (x + 18)), (1, .int (nI acc.length))] [] M1 (qV Q) := fun M1 p1 f1 h1 f0 u1 ef => by
        rw [cif_F (by rw [ef]; exact f0)] at pe
        refine g_82 h1 f0 l12 (fun M' p' cd' n' r' h' => hn (by rw [pe]; show ¬ (pCl t acc.length q cd n).1 = 0; rw [ef]; exact f0) M' p' cd' n' (u1.trans r') ?_)
        rw [pe]
        show Lk M' x a t p' cd' n' (pCl t acc.length q cd n).1
        rw [ef]
        exact h'
      refine k_take1 (d := d + 24) (W := wSt) hx (by decide) (by decide +kernel) (by decide +kernel) (fun _ hw M1 r1 h1 => ⟨fun _ => ?_, fun y => absurd y (by decide)⟩) (fun hw => ⟨fun y => absurd rfl y, fun _ => ?_⟩)
      · have h1 : Lk M1 x a t (skB t (q + 6)) cd n 0 := h1
        have lw := wl_of hw
        have l6 : wSt.length = 6 := rfl
        have wq := wl_le sk.2
        have sk6 := skB_le (t := t) (p := q + 6) (by omega)
        rcases Nat.lt_or_ge acc.length 12 with i12 | i12
        · refine c_X3_readLaw_67 h1.1 ⟨fun _ => ?_, fun y => absurd (show nI acc.length < 12 by rw [show (12 : Int32) = nI 12 from rfl, lt_I (by omega) (by omega)]; exact i12) y⟩
          have eC : pCl t acc.length q cd n = bnd (clS' t q cd n) (fun p cd n => cif (wAt t p = wIf) (pTst t (skB t (p + 2)) cd n) (0, p, cd, n)) := by
            unfold pCl; rw [cif_T hw, cif_F (by omega)]
          have b1 : bd t (skB t (q + 6)) cd n := ⟨skB_id _ _, b2.1, by omega⟩
          -- the end of a clause
          have live : ∀ (M3 : Mem) (p3 : Nat) (cd3 : List Nat) (n3 : Nat), Lk M3 x a t p3 cd3 n3 0 → bd t p3 cd3 n3 → FrU x a M M3 → pCl t acc.length q cd n = (0, p3, cd3, n3) → (∀ j, j ≠ acc.length → vi M3 (a + 2) j = vi Mx (a + 2) j) → vi M3 (a + 2) acc.length = nI (clS' t q cd n).2.2.1.length → vi M3 (a + 3) = vi Mx (a + 3) → At G (d + 30) 32 112 [(0, .ref (x + 18)), (1, .int (nI acc.length))] [] M3 (qV Q) := by
            intro M3 p3 cd3 n3 h3 b3 u3 e3 o2 v2 o3
            rw [e3] at pe
            dsimp only at pe
            rw [cif_T rfl, b3.1] at pe
            have p34 := h3.p4
            refine c_X3_readLaw_112 h3.1 (k_endClause h3 l12 (fun M4 r4 h4 c4 o4 o2' => k_peek h4.tpe (by omega) ⟨h4.1, fun np => ?_, fun np => ?_⟩))
            · have c4 := c4 i12
              have pl : p3 < t.1 := by
                rcases Nat.lt_or_ge p3 t.1 with z | z
                · exact z
                · exact absurd (by unfold pk; rw [cif_F (by omega)]) np
              have ek : pk t p3 = t.2 p3 := by unfold pk; rw [cif_T pl]
              rw [cif_T pl] at pe
              have xa4 : clK M4 a (acc ++ [((clS' t q cd n).2.2.1.length, cd3.length)]) := fun j hj => by
                rw [List.length_append] at hj
                have hj : j < acc.length + 1 := hj
                rw [o2']
                rcases Nat.lt_or_ge j acc.length with z | z
                · rw [gA_l z, o2 j (by omega), o4 j (by omega), o3]; exact xa j z
                · have ej : j = acc.length := by omega
                  subst ej
                  rw [gA_r]; exact ⟨v2, c4.1⟩
              refine k_lsign h4 (by decide) (fun _ hp M5 r5 h5 => ⟨fun _ => ?_, fun y => absurd y np⟩) (fun hp => ⟨fun y => absurd rfl y, fun _ => ?_⟩)
              · have hp : pk t p3 = 59 := hp.elim id id
                rw [cif_T (by rw [← ek]; exact hp)] at pe
                refine c_X3_readLaw_162 h5.1 ?_
                rw [nI_1]
                have el : (acc ++ [((clS' t q cd n).2.2.1.length, cd3.length)]).length = acc.length + 1 := List.length_append
                have sk5 := skB_le (t := t) (p := p3 + 1) (by omega)
                have b32 := b3.2
                have := ih (p3 + 1) cd3 n3 (acc ++ [((clS' t q cd n).2.2.1.length, cd3.length)]) M5 (by omega) (by omega) pe (by omega) h5 ⟨skB_id _ _, b32.1, by omega⟩ (xa4.fr r5 ha) ((u3.trans r4).trans r5.u)
                rw [el] at this
                exact this
              · rw [cif_F (fun y => hp ⟨rfl, Or.inl (by rw [ek]; exact y)⟩)] at pe
                rw [h4.tpe.pp]
                refine k_lfail (c := 0) h4 (by omega) (by decide) (fun M5 r5 h5 => c_X3_readLaw_162 h5.1 ?_)
                rw [if_pos rfl] at h5
                have ne : ¬ vi M5 (x + 1) 3 = 0 := by rw [h5.tpe.ff]; exact nI_ne0 (by unfold flt; omega) (by have := h5.f4; omega)
                have e := hn (by rw [pe]; exact flt_ne _ _) M5 _ _ _ ((u3.trans r4).trans r5.u) (by rw [pe]; exact h5)
                exact c_X3_readLaw_21 h5.1 ⟨fun _ => c_X3_readLaw_168 h5.1 e, fun _ => ⟨fun _ => c_X3_readLaw_168 h5.1 e, fun y => absurd y ne⟩⟩
            · have c4 := c4 i12
              have pl : ¬ p3 < t.1 := fun z => by
                unfold pk at np
                rw [cif_T z] at np
                have := tk p3 z
                rw [np] at this
                exact absurd this.1 (by decide)
              rw [cif_F pl] at pe
              refine hy (by rw [pe]) M4 p3 n3 (u3.trans r4) (by rw [pe]; exact h4) (by
                rw [pe]
                intro j hj
                dsimp only at hj ⊢
                rw [List.length_append] at hj
                have hj : j < acc.length + 1 := hj
                rw [o2']
                rcases Nat.lt_or_ge j acc.length with z | z
                · rw [gA_l z, o2 j (by omega), o4 j (by omega), o3]; exact xa j z
                · have ej : j = acc.length := by omega
                  subst ej
                  rw [gA_r]; exact ⟨v2, c4.1⟩) ?_ ?_
              · rw [pe]
                dsimp only
                rw [c4.2, List.length_append]; rfl
              · rw [pe]
                dsimp only
                rw [List.length_append, List.length_singleton]
                omega
          refine c_X3_readLaw_82 h1.1 (k_readSum (d := d + 22) h1 (fun _ => b1) (fun M2 p2 cd2 n2 f2 r2 h2 s2 bb2 => ?_))
          have s2 : f2 = (clS' t q cd n).1 ∧ (f2 = 0 → (clS' t q cd n).2 = (p2, cd2, n2)) := s2.2 rfl
          refine k_endSum h2 l12 (fun M3 r3 h3 v3 o3 k3 => ?_)
          have v3 := v3 i12
          have fr2 : ∀ j, vi M2 (a + 2) j = vi Mx (a + 2) j := fun j => by rw [r2.ac ha (Or.inl rfl), r1.ac ha (Or.inl rfl)]
          have fr3 : vi M2 (a + 3) = vi Mx (a + 3) := by rw [r2.ac ha (Or.inr rfl), r1.ac ha (Or.inr rfl)]
          have u3 : FrU x a M M3 := ux.trans (r1.u.trans (r2.u.trans r3))
          -- a FAULT behind
          have bad2 : ∀ (M5 : Mem) (p5 : Nat) (cd5 : List Nat) (n5 f5 : Nat), Lk M5 x a t p5 cd5 n5 f5 → ¬ f5 = 0 → FrU x a M M5 → (pCl t acc.length q cd n).1 = f5 → At G (d + 30) 32 112 [(0, .ref (x + 18)), (1, .int (nI acc.length))] [] M5 (qV Q) := fun M5 p5 cd5 n5 f5 h5 f0 u5 ef => by
            rw [cif_F (by rw [ef]; exact f0)] at pe
            refine g_112 h5 f0 l12 (fun M' p' cd' n' r' h' => hn (by rw [pe]; show ¬ (pCl t acc.length q cd n).1 = 0; rw [ef]; exact f0) M' p' cd' n' (u5.trans r') ?_)
            rw [pe]
            show Lk M' x a t p' cd' n' (pCl t acc.length q cd n).1
            rw [ef]
            exact h'
          by_cases z2 : f2 = 0
          · have z0 : (clS' t q cd n).1 = 0 := by rw [← s2.1]; exact z2
            have e2 := s2.2 z2
            have bb9 := bb2 z2
            rw [bnd_T z0, e2] at eC
            dsimp only at eC
            subst z2
            have p24 := h2.p4
            have l2e : (clS' t q cd n).2.2.1.length = cd2.length := by rw [e2]
            refine k_take1 (d := d + 24) (W := wIf) h3 (by decide) (by decide +kernel) (by decide +kernel) (fun _ hw2 M4 r4 h4 => ⟨fun y => absurd y (by decide), fun _ => ?_⟩) (fun hw2 => ⟨fun _ => ?_, fun y => absurd rfl y⟩)
            · rw [cif_T hw2] at eC
              have h4 : Lk M4 x a t (skB t (p2 + 2)) cd2 n2 0 := h4
              have lw2 := wl_of hw2
              have l2 : wIf.length = 2 := rfl
              have wq2 := wl_le p24.1
              have sk2 := skB_le (t := t) (p := p2 + 2) (by omega)
              have bb22 := bb9.2
              have b4 : bd t (skB t (p2 + 2)) cd2 n2 := ⟨skB_id _ _, bb22.1, by omega⟩
              refine k_readTest (d := d) h4 (fun _ => b4) (fun M5 p5 cd5 n5 f5 r5 h5 s5 => ?_)
              have s5 : f5 = (pTst t (skB t (p2 + 2)) cd2 n2).1 ∧ (f5 = 0 → (pTst t (skB t (p2 + 2)) cd2 n2).2 = (p5, cd5, n5)) := s5.2 rfl
              have u5 : FrU x a M M5 := u3.trans (r4.u.trans r5.u)
              by_cases z5 : f5 = 0
              · have b5 := (bd_pX (k := 1700) (w := 1) (dp := 0) t4 sk2.2 b4 s5 z5).1
                have e5 : pCl t acc.length q cd n = (0, p5, cd5, n5) := by
                  rw [eC]
                  have y1 : (pTst t (skB t (p2 + 2)) cd2 n2).1 = 0 := by rw [← s5.1]; exact z5
                  have y2 := s5.2 z5
                  exact Prod.ext y1 y2
                subst z5
                refine live M5 p5 cd5 n5 h5 b5 u5 e5 (fun j hj => ?_) ?_ ?_
                · rw [r5.ac ha (Or.inl rfl), r4.ac ha (Or.inl rfl), o3 j hj]; exact fr2 j
                · rw [r5.ac ha (Or.inl rfl), r4.ac ha (Or.inl rfl), l2e]; exact v3
                · rw [r5.ac ha (Or.inr rfl), r4.ac ha (Or.inr rfl), k3]; exact fr3
              · exact bad2 M5 p5 cd5 n5 f5 h5 z5 u5 (by rw [eC]; exact s5.1.symm)
            · rw [cif_F (hw2 rfl)] at eC
              refine live M3 p2 cd2 n2 h3 bb9 u3 eC (fun j hj => ?_) ?_ ?_
              · rw [o3 j hj]; exact fr2 j
              · rw [l2e]; exact v3
              · rw [k3]; exact fr3
          · have z0 : ¬ (clS' t q cd n).1 = 0 := by rw [← s2.1]; exact z2
            rw [bnd_F z0] at eC
            refine k_take1 (d := d + 24) (W := wIf) h3 (by decide) (by decide +kernel) (by decide +kernel) (fun z => absurd z z2) (fun _ => ⟨fun _ => ?_, fun y => absurd rfl y⟩)
            exact bad2 M3 p2 cd2 n2 f2 h3 z2 u3 (by rw [eC]; exact s2.1.symm)
        · have i12 : acc.length = 12 := by omega
          refine c_X3_readLaw_67 h1.1 ⟨fun y => absurd y (by rw [show (12 : Int32) = nI 12 from rfl, lt_I (by omega) (by omega)]; omega), fun _ => ?_⟩
          refine k_lfail (c := 4) h1 (by omega) (by decide) (fun M2 r2 h2 => ?_)
          rw [if_pos rfl] at h2
          refine bad M2 _ _ h2 (flt_ne _ _) (ux.trans (r1.u.trans r2.u)) ?_
          unfold pCl; rw [cif_T hw, cif_T i12]
      · refine k_lfail (c := 0) hx (by omega) (by decide) (fun M2 r2 h2 => ?_)
        rw [if_pos rfl] at h2
        have ef : (pCl t acc.length q cd n).1 = flt q 0 := by unfold pCl; rw [cif_F (hw rfl)]
        refine c_X3_readLaw_67 h2.1 ⟨fun _ => bad M2 _ _ h2 (flt_ne _ _) (ux.trans r2.u) ef, fun _ => ?_⟩
        refine k_lfail (c := 4) h2 (by omega) (by decide) (fun M3 r3 h3 => ?_)
        rw [if_neg (flt_ne _ _)] at h3
        exact bad M3 _ _ h3 (flt_ne _ _) (ux.trans (r2.u.trans r3.u)) ef
  refine c_X3_readLaw h (k_rewind ht (fun M1 g1 t1 => ?_))
  have r1 : FrL x a M M1 := FrL.tp g1 (by decide) ha
  have l1 := r1.lr h
  refine ⟨l1, c_X2_clear l1.2.2.2.2 (fun M2 e2 M3 e3 => ?_)⟩
  have sm : ∀ b, b ≠ a → vi M3 b = vi M1 b := fun b hb => by funext j; rw [e3, vi_seti, if_neg (fun z => hb z.1), e2, vi_seti, if_neg (fun z => hb z.1)]
  have l3 : LrAt M3 (x + 18) (x + 1) a := by rw [e3, e2]; exact ⟨l1.1, l1.2.1, l1.2.2.1.cg rfl rfl rfl, l1.2.2.2.1, l1.2.2.2.2.cg rfl rfl rfl⟩
  refine ⟨l3, fun M4 e4 => ?_⟩
  have sm4 : ∀ b, b ≠ a → b ≠ x + 18 → vi M4 b = vi M1 b := fun b hb hb2 => by rw [← sm b hb]; funext j; rw [e4, vi_seti, if_neg (fun z => hb2 z.1)]
  have l4 : LrAt M4 (x + 18) (x + 1) a := by rw [e4]; exact ⟨l3.1, l3.2.1, l3.2.2.1.cg rfl rfl rfl, l3.2.2.2.1, l3.2.2.2.2.cg rfl rfl rfl⟩
  have u4 : FrU x a M M4 := by
    refine r1.u.trans ⟨by rw [e4, e3, e2]; rfl, by rw [e4, e3, e2]; rfl, by rw [e4, e3, e2]; rfl, by rw [e4, e3, e2]; rfl, by rw [e4, e3, e2]; rfl, fun b k h1 h2 h3 => ⟨by rw [sm4 b (by omega) h2], by rw [e4, e3, e2]; rfl⟩, by rw [sm4 _ (by omega) (by omega)]⟩
  have sk := skB_le (t := t) (p := 0) (Nat.zero_le _)
  have h4 : Lk M4 x a t (skB t 0) [] 0 0 := by
    refine ⟨l4, ha, t1.sm l4.2.2.1 (sm4 _ (by omega) (by omega)) (sm4 _ (by omega) (by omega)), sk.2, by decide, ⟨?_, by decide⟩, ?_, fun k hk => absurd hk (Nat.not_lt_zero k)⟩
    · rw [e4, vi_seti, if_neg (by omega), e3, vi_seti, if_neg (by omega), e2, vi_seti, if_pos ⟨rfl, rfl⟩]; rfl
    · rw [e4, vi_seti, if_pos ⟨rfl, rfl⟩]; rfl
  exact key 13 0 [] 0 [] M4 rfl (by decide) hP.symm (Nat.zero_le _) h4 ⟨skB_id _ _, by decide, by show 3 * 0 ≤ _; omega⟩ (fun j hj => absurd hj (Nat.not_lt_zero j)) u4
end
