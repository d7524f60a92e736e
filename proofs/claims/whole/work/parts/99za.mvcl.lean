/-! MOVED: the class's rows -/
section
variable {S : ShT} {p v b : List Int32} {c u : Int32}
theorem tcs_r (h : isS c ∧ c - 32 = u) : tuC S c u = some (tcs S c) := by rw [tuC_r h]; unfold tcs; rw [cif_T h.1]
theorem tcs_l (h : isU c ∧ c + 32 = u) : tuC S c u = some (tcs S c) := by rw [tuC_l h]; unfold tcs; rw [cif_F (fun z => sm_cp z h.1)]
/-- the least of the ways, as the class takes it: forward -/
theorem ext_ok (hu : 32 ≤ u.toInt) {m1 x : Nat} (h1 : m1 = min (edL S p (v ++ [u]) + kc S 1) (edL S (p ++ [c]) v + kc S 0)) (ha : u = c → x = min m1 (edL S p v)) (hb : ¬ u = c → u = twn c → x = min m1 (edL S p v + tcs S c)) (hc : ¬ u = c → ¬ u = twn c → x = m1) : x = edL S (p ++ [c]) (v ++ [u]) := by
  rw [twn_u hu] at hb hc
  rcases cu4 c u with ⟨k1, k2, k3⟩ | ⟨k1, k2, k3⟩ | ⟨k1, k2, k3⟩ | ⟨k1, k2, k3⟩
  · have ht : tuC S c u = some 0 := tuC_k k1
    have hx := ha k1.symm
    refine fw_c p v (by omega) (by omega) (fun t ht' => ?_) ?_
    · rw [ht] at ht'; cases ht'; omega
    · rcases (show x = edL S p (v ++ [u]) + kc S 1 ∨ x = edL S (p ++ [c]) v + kc S 0 ∨ x = edL S p v + 0 by omega) with z | z | z
      · exact Or.inl z
      · exact Or.inr (Or.inl z)
      · exact Or.inr (Or.inr ⟨0, ht, z⟩)
  · have ht : tuC S c u = some (tcs S c) := tcs_r k2
    have hx := hb (fun z => k1 z.symm) (Or.inl k2)
    refine fw_c p v (by omega) (by omega) (fun t ht' => ?_) ?_
    · rw [ht] at ht'; cases ht'; omega
    · rcases (show x = edL S p (v ++ [u]) + kc S 1 ∨ x = edL S (p ++ [c]) v + kc S 0 ∨ x = edL S p v + tcs S c by omega) with z | z | z
      · exact Or.inl z
      · exact Or.inr (Or.inl z)
      · exact Or.inr (Or.inr ⟨_, ht, z⟩)
  · have ht : tuC S c u = some (tcs S c) := tcs_l k3
    have hx := hb (fun z => k1 z.symm) (Or.inr k3)
    refine fw_c p v (by omega) (by omega) (fun t ht' => ?_) ?_
    · rw [ht] at ht'; cases ht'; omega
    · rcases (show x = edL S p (v ++ [u]) + kc S 1 ∨ x = edL S (p ++ [c]) v + kc S 0 ∨ x = edL S p v + tcs S c by omega) with z | z | z
      · exact Or.inl z
      · exact Or.inr (Or.inl z)
      · exact Or.inr (Or.inr ⟨_, ht, z⟩)
  · have ht : tuC S c u = none := tuC_n k1 k2 k3
    have hx := hc (fun z => k1 z.symm) (fun z => z.elim k2 k3)
    refine fw_c p v (by omega) (by omega) (fun t ht' => ?_) ?_
    · rw [ht] at ht'; cases ht'
    · rcases (show x = edL S p (v ++ [u]) + kc S 1 ∨ x = edL S (p ++ [c]) v + kc S 0 by omega) with z | z
      · exact Or.inl z
      · exact Or.inr (Or.inl z)
/-- backward -/
theorem bck_ok (hu : 32 ≤ u.toInt) {m1 x : Nat} (h1 : m1 = min (edL S b (u :: v) + kc S 1) (edL S (c :: b) v + kc S 0)) (ha : u = c → x = min m1 (edL S b v)) (hb : ¬ u = c → u = twn c → x = min m1 (edL S b v + tcs S c)) (hc : ¬ u = c → ¬ u = twn c → x = m1) : x = edL S (c :: b) (u :: v) := by
  rw [twn_u hu] at hb hc
  have ec := edL_cc (S := S) (b := b) (v := v) (c := c) (u := u)
  rcases cu4 c u with ⟨k1, k2, k3⟩ | ⟨k1, k2, k3⟩ | ⟨k1, k2, k3⟩ | ⟨k1, k2, k3⟩
  · rw [tuC_k k1] at ec
    have ec : edL S (c :: b) (u :: v) = min (min (kc S 1 + edL S b (u :: v)) (kc S 0 + edL S (c :: b) v)) (0 + edL S b v) := ec
    have hx := ha k1.symm
    omega
  · rw [tcs_r k2] at ec
    have ec : edL S (c :: b) (u :: v) = min (min (kc S 1 + edL S b (u :: v)) (kc S 0 + edL S (c :: b) v)) (tcs S c + edL S b v) := ec
    have hx := hb (fun z => k1 z.symm) (Or.inl k2)
    omega
  · rw [tcs_l k3] at ec
    have ec : edL S (c :: b) (u :: v) = min (min (kc S 1 + edL S b (u :: v)) (kc S 0 + edL S (c :: b) v)) (tcs S c + edL S b v) := ec
    have hx := hb (fun z => k1 z.symm) (Or.inr k3)
    omega
  · rw [tuC_n k1 k2 k3] at ec
    have ec : edL S (c :: b) (u :: v) = min (kc S 1 + edL S b (u :: v)) (kc S 0 + edL S (c :: b) v) := ec
    have hx := hc (fun z => k1 z.symm) (fun z => z.elim k2 k3)
    omega
theorem min_I {a b : Nat} (ha : a < 2147483648) (hb : b < 2147483648) : (if nI a < nI b then nI a else nI b) = nI (min b a) := by
  by_cases h : a < b
  · rw [if_pos (by rw [lt_I ha hb]; exact h), show min b a = a by omega]
  · rw [if_neg (by rw [lt_I ha hb]; exact h), show min b a = b by omega]
end
/-- what the begins of the WISH cost, of a text -/
def rwC (M : Mem) (r : Nat) (S : ShT) (p : List Int32) : Prop := ∀ j, j ≤ wN S → vi M r j = nI (edL S p ((wL' S).take j))
section
variable {G : GT} {d : Nat} {M M' : Mem} {o a i t : Nat} {w : Nat → Nat} {S : ShT} {p : List Int32}
theorem edt_b (V : okS S) (p3 : p.length ≤ 100) {j : Nat} : edL S p ((wL' S).take j) ≤ 30000 := by
  have h := edL_le V p ((wL' S).take j)
  rw [List.length_take, wL_len] at h
  have := V.w
  omega
theorem tcs_b (V : okS S) {c : Int32} : tcs S c ≤ 99 := by
  unfold tcs
  exact cif_el (φ := fun n => n ≤ 99) (fun _ => (kc_9 V (k := 2) (by decide)).1) (fun _ => (kc_9 V (k := 3) (by decide)).1)
theorem tk_w {j : Nat} (h : j < wN S) : (wL' S).take (j + 1) = (wL' S).take j ++ [wB S j] := by
  rw [List.take_succ_eq_append_getElem (by rw [wL_len]; exact h)]
  congr 2
  have := wL_get h
  rw [List.getD_eq_getElem?_getD, List.getElem?_eq_getElem (by rw [wL_len]; exact h)] at this
  exact this
theorem k_extend {Q : Mem → Prop} (O : ObAt 7 M o) (H : shE M a S) (V : okS S) (dj : a + 9 ≤ o) (ht : t = 2 ∨ t = 3 ∨ t = 4) (hi : i < gN S) (p3 : p.length ≤ 99) (hr : rwC M (o + t) S p) (hq : ∀ M', Frl o [] [t] M M' → rwC M' (o + t) S (p ++ [gB S i]) → Q M') : CV G (d + 3) 69 [.ref o, .ref a, .ref (o + t), .int (nI i)] M Q := by
  have g2 := V.g
  have w2 := V.w
  have kA : mK M (o + t) = 15 ∧ mA M (o + t) = 201 := by
    rcases ht with y | y | y <;> rw [y]
    · exact ⟨ob7_k6 O, ob7_l6 O⟩
    · exact ⟨ob7_k7 O, ob7_l7 O⟩
    · exact ⟨ob7_k8 O, ob7_l8 O⟩
  have t0 : 0 < t := by omega
  have kb0 := (kc_9 V (k := 0) (by decide)).1
  have kb1 := (kc_9 V (k := 1) (by decide)).1
  have tb := tcs_b V (c := gB S i)
  have eb := fun j => edt_b V (p := p) (j := j) (by omega)
  have eb' := fun j => edt_b V (p := p ++ [gB S i]) (j := j) (by rw [List.length_append]; show p.length + 1 ≤ _; omega)
  have k0 : vi M (a + 6) (0 : Int32).toNatClampNeg = nI (kc S 0) := H.2.2.2.2.2 0 (by decide)
  have k1 : vi M (a + 6) (1 : Int32).toNatClampNeg = nI (kc S 1) := H.2.2.2.2.2 1 (by decide)
  have k2 : vi M (a + 6) (2 : Int32).toNatClampNeg = nI (kc S 2) := H.2.2.2.2.2 2 (by decide)
  have k3 : vi M (a + 6) (3 : Int32).toNatClampNeg = nI (kc S 3) := H.2.2.2.2.2 3 (by decide)
  have v07 : vp_in (0 : Int32) 7 := v_i (k := 0) (by decide) (by decide)
  have v17 : vp_in (1 : Int32) 7 := v_i (k := 1) (by decide) (by decide)
  -- the row
  have l99 : ∀ (k j : Nat) (Mx : Mem), k + j = wN S → Frl o [] [t] M Mx → (∀ q, q ≤ j → vi Mx (o + t) q = nI (edL S (p ++ [gB S i]) ((wL' S).take q))) → (∀ q, j < q → q ≤ wN S → vi Mx (o + t) q = nI (edL S p ((wL' S).take q))) → At G (d + 3) 69 99 [(1, .ref a), (2, .ref (o + t)), (4, .int (nI (wN S))), (5, .int (nI (kc S 1))), (6, .int (nI (kc S 0))), (7, .int (gB S i)), (8, .int (twn (gB S i))), (9, .int (nI (tcs S (gB S i)))), (10, .int (nI (edL S p ((wL' S).take j)))), (11, .int (nI (j + 1)))] [] Mx (qV Q) := by
    intro k
    induction k with
    | zero =>
      intro j Mx e gx h1 h2
      refine c_X7_extend_99 (gx.ob O) (H.fr gx dj).1 ?_
      rw [lt_I (by omega) (by omega)]
      exact ⟨fun _ => hq Mx gx (fun q hq' => h1 q (by omega)), fun z => absurd (by omega) z⟩
    | succ k ih =>
      intro j Mx e gx h1 h2
      have Ox := gx.ob O
      have Hx := H.fr gx dj
      have cj : j < wN S := by omega
      have hu : 32 ≤ (wB S j).toInt := (V.wb cj).1
      have kx : mK Mx (o + t) = 15 ∧ mA Mx (o + t) = 201 := by rw [gx.2.2.1, gx.2.2.2.1]; exact kA
      have b0 := eb j
      have b1 := eb (j + 1)
      have b2 := eb' j
      have v2 : vp_in (nI (j + 1)) 201 := v_i (by omega) (by decide)
      have v2' : vp_in (nI j) 201 := v_i (by omega) (by decide)
      have rj : vi Mx (o + t) (j + 1) = nI (edL S p ((wL' S).take (j + 1))) := h2 (j + 1) (by omega) (by omega)
      have rj' : vi Mx (o + t) j = nI (edL S (p ++ [gB S i]) ((wL' S).take j)) := h1 j (Nat.le_refl _)
      have ek := fun m1 x => ext_ok (S := S) (p := p) (v := (wL' S).take j) (c := gB S i) (u := wB S j) hu (m1 := m1) (x := x)
      rw [← tk_w cj] at ek
      have go : ∀ (M6 : Mem) (x : Nat), M6 = seti Mx (o + t) (j + 1) (nI x) → x = edL S (p ++ [gB S i]) ((wL' S).take (j + 1)) → At G (d + 3) 69 99 [(1, .ref a), (2, .ref (o + t)), (4, .int (nI (wN S))), (5, .int (nI (kc S 1))), (6, .int (nI (kc S 0))), (7, .int (gB S i)), (8, .int (twn (gB S i))), (9, .int (nI (tcs S (gB S i)))), (10, .int (nI (edL S p ((wL' S).take (j + 1))))), (11, .int (nI (j + 1 + 1)))] [] M6 (qV Q) := fun M6 x e6 ex => by
        refine ih (j + 1) M6 (by omega) (gx.trans (by rw [e6]; exact Frl.si (by simp))) (fun q hq' => ?_) (fun q h3 h4 => ?_)
        · rw [e6, vi_seti]
          by_cases y : q = j + 1
          · rw [if_pos ⟨rfl, y⟩, ex, y]
          · rw [if_neg (fun z => y z.2)]; exact h1 q (by omega)
        · rw [e6, vi_seti, if_neg (fun z => by have := z.2; omega)]; exact h2 q (by omega) h4
      refine c_X7_extend_99 Ox Hx.1 ?_
      rw [lt_I (by omega) (by omega), show (1 : Int32) = nI 1 from rfl, pk_sub (by omega), show j + 1 - 1 = j by omega, nI_clamp (n := j) (by omega), nI_clamp (n := j + 1) (by omega), Hx.2.2.2.2.1 j cj, rj, rj', nI_add, nI_add, nI_add, nI_add, min_I (by omega) (by omega), min_I (by omega) (by omega), min_I (by omega) (by omega), kx.2]
      refine ⟨fun z => absurd z (by omega), fun _ => ⟨kx.1, v2, kx.1, v2', v_i (by omega) (by decide), fun n1 => ⟨fun n2 => ⟨kx.1, v2, kx.1, v2, fun M6 e6 => go M6 _ e6 ?_⟩, fun y2 => ⟨kx.1, v2, kx.1, v2, fun M7 e7 => go M7 _ e7 ?_⟩⟩, fun y1 => ⟨kx.1, v2, kx.1, v2, fun M8 e8 => go M8 _ e8 ?_⟩⟩⟩
      · exact ek _ _ rfl (fun z => absurd z n1) (fun _ z => absurd z n2) (fun _ _ => rfl)
      · exact ek _ _ rfl (fun z => absurd z n1) (fun _ _ => rfl) (fun _ z => absurd y2 z)
      · exact ek _ _ rfl (fun _ => rfl) (fun z => absurd y1 z) (fun z => absurd y1 z)
  have p83 : At G (d + 3) 69 83 [(1, .ref a), (2, .ref (o + t)), (4, .int (nI (wN S))), (5, .int (nI (kc S 1))), (6, .int (nI (kc S 0))), (7, .int (gB S i)), (8, .int (twn (gB S i))), (9, .int (nI (tcs S (gB S i))))] [] M (qV Q) := by
    refine c_X7_extend_83 O H.1 ?_
    have r0 : vi M (o + t) (0 : Int32).toNatClampNeg = nI (edL S p ((wL' S).take 0)) := hr 0 (Nat.zero_le _)
    have v0 : vp_in (0 : Int32) 201 := v_i (k := 0) (by decide) (by decide)
    rw [r0, kA.2, nI_add]
    refine ⟨kA.1, v0, kA.1, v0, kA.1, v0, fun M5 e5 => ?_⟩
    have e5 : M5 = seti M (o + t) 0 (nI (edL S p ((wL' S).take 0) + kc S 1)) := e5
    refine l99 (wN S) 0 M5 rfl (by rw [e5]; exact Frl.si (by simp)) (fun q hq' => ?_) (fun q h3 h4 => ?_)
    · rw [show q = 0 by omega, e5, vi_seti, if_pos ⟨rfl, rfl⟩, List.take_zero, fw_n]
    · rw [e5, vi_seti, if_neg (fun z => by have := z.2; omega)]; exact hr q h4
  refine c_X7_extend O H.1 ?_
  have mn : (if (200 : Int32) < vi M a 3 then (200 : Int32) else vi M a 3) = nI (wN S) := by
    rw [H.2.2.1]
    exact if_neg (by rw [show (200 : Int32) = nI 200 from rfl, lt_I (by omega) (by omega)]; omega)
  rw [mn, kA.1, kA.2]
  refine ⟨fun z => absurd z (nlt0 _ (by omega)), fun _ => ⟨fun z => absurd z (nI_ge (a := i) (b := 200) (by omega) (by decide)), fun _ => ⟨by decide, fun _ => c_X7_extend_32 O H.1 ?_, fun z => absurd (show (201 : Int32) ≤ nI 201 by decide) z⟩⟩⟩
  rw [nI_clamp (n := i) (by omega), k0, k1, H.2.2.2.1 i hi]
  refine ⟨v17, v07, v_i (by omega) (by decide), k_twinOf ⟨⟨O, H.1⟩, k_isSmall ⟨⟨O, H.1⟩, bz (fun s => ⟨v_i (k := 2) (by decide) (by decide), ?_⟩) (fun s => ⟨v_i (k := 3) (by decide) (by decide), ?_⟩)⟩⟩⟩
  · rw [show tcs S (gB S i) = kc S 2 by unfold tcs; rw [cif_T s]] at p83; rw [k2]; exact p83
  · rw [show tcs S (gB S i) = kc S 3 by unfold tcs; rw [cif_F s]] at p83; rw [k3]; exact p83
end
