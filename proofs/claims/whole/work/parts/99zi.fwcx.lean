/-! FEWEST: the class's call -/
section
variable {G : GT} {d : Nat} {M M' : Mem} {o b : Nat} {w : Nat → Nat} {S : ShT}
theorem k_fewestSet {Q : Int32 → Mem → Prop} (h : FwC w M o b S) (n2 : allM S 4 ≤ 12) (hq : ∀ M' v, Frv o [1] [1, 2, 3, 4, 5, 6, 7, 8, 9, 10] M M' → isFew S v → Q v M') : CI G (d + 6) 10 [.ref o, .ref b] M Q := by
  have V := h.2.1.2.1
  have tl := tg_len V
  rw [← tl] at n2
  have p2 : 2 ^ (tgL S).length ≤ 4096 := Nat.pow_le_pow_right (n := 2) (by decide) n2
  refine c_X0_fewestSet h.1 h.2.1.1 (k_gatherAll h n2 (fun M1 g1 ga => ?_))
  have h1 := h.fr g1 (by decide)
  have g01 : Frv o [1] [1, 2, 3, 4, 5, 6, 7, 8, 9, 10] M M1 := g1.sub (by decide) (by decide)
  refine ⟨⟨h1.1, h1.2.1.1⟩, ?_⟩
  rw [shl_I (by omega)]
  have l13 : ∀ (j k : Nat) (Mx : Mem), j + k = (tgL S).length + 1 → Frv o [1] [1, 2, 3, 4, 5, 6, 7, 8, 9, 10] M Mx → gaC w Mx o S → nog S k 0 → At G (d + 6) 10 13 [(0, .ref o), (1, .ref b), (2, .int (nI (tgL S).length)), (3, .int (nI (2 ^ (tgL S).length))), (4, .int (nI k))] [] Mx (qI Q) := by
    intro j
    induction j with
    | zero =>
      intro k Mx e gx gc hg
      have hx := h.fr gx (by decide)
      refine c_X0_fewestSet_13 hx.1 hx.2.1.1 ?_
      rw [lt_I (by omega) (by omega)]
      refine ⟨fun _ => hq Mx _ gx (nog_e ?_), fun z => absurd (by omega) z⟩
      rw [← tl, show (tgL S).length + 1 = k by omega]; exact hg
    | succ j ih =>
      intro k Mx e gx gc hg
      have hx := h.fr gx (by decide)
      refine c_X0_fewestSet_13 hx.1 hx.2.1.1 ?_
      rw [lt_I (by omega) (by omega)]
      refine ⟨fun z => absurd z (by omega), fun _ => ?_⟩
      have l22 : ∀ (q z : Nat) (My : Mem), q + z = 2 ^ (tgL S).length → Frv o [1] [1, 2, 3, 4, 5, 6, 7, 8, 9, 10] M My → gaC w My o S → nog S k z → At G (d + 6) 10 22 [(0, .ref o), (1, .ref b), (2, .int (nI (tgL S).length)), (3, .int (nI (2 ^ (tgL S).length))), (4, .int (nI k)), (5, .int (nI z))] [] My (qI Q) := by
        intro q
        induction q with
        | zero =>
          intro z My ez gy gd hz
          have hy := h.fr gy (by decide)
          refine c_X0_fewestSet_22 hy.1 hy.2.1.1 ?_
          rw [le_I (by omega) (by omega), nI_1]
          refine ⟨fun _ => ih (k + 1) My (by omega) gy gd (nog_s ?_), fun y => absurd (by omega) y⟩
          rw [← tl, show 2 ^ (tgL S).length = z by omega]; exact hz
        | succ q ihq =>
          intro z My ez gy gd hz
          have hy := h.fr gy (by decide)
          have pb := pop_le (y := z) (n := 12) (by omega) 12
          refine c_X0_fewestSet_22 hy.1 hy.2.1.1 ?_
          rw [le_I (by omega) (by omega), nI_1 (a := z)]
          refine ⟨fun y => absurd y (by omega), fun _ => j_bitCount (by omega) ⟨⟨hy.1, hy.2.1.1⟩, ?_⟩⟩
          rw [eq_I (by omega) (by omega)]
          refine ⟨fun ne => ihq (z + 1) My (by omega) gy gd (nog_n hz (fun c => ne c.1)), fun eq => ?_⟩
          refine k_isFree hy n2 gd (by omega) ⟨⟨hy.1, hy.2.1.1⟩, bz (fun fr => ?_) (fun nf => ?_)⟩
          · refine k_makesWish hy n2 gd (by omega) fr (fun M7 g7 => ?_)
            have h7 := hy.fr g7 (by decide)
            refine ⟨⟨h7.1, h7.2.1.1⟩, bz (fun yes => ?_) (fun no => ?_)⟩
            · exact hq M7 _ (gy.trans (g7.sub (by decide) (by decide))) (nog_y hz (by rw [← tl]; omega) eq ⟨fr, yes⟩)
            · exact ihq (z + 1) M7 (by omega) (gy.trans (g7.sub (by decide) (by decide))) (gd.fr hy g7 (by decide) (by decide) (by decide) (by decide)) (nog_n hz (fun c => no c.2.2))
          · exact ihq (z + 1) My (by omega) gy gd (nog_n hz (fun c => nf c.2.1))
      exact l22 _ 0 Mx rfl gx gc hg
  exact l13 _ 0 M1 rfl g01 ga nog_0
end
section
variable {G : GT} {d : Nat} {M M' : Mem} {x c : Nat} {w : Nat → Nat} {T : StT} {F L : List Nat}
/-- the composer is scratch -/
theorem XC.cmp (h : XC w M x T c) (g : Frv (x + 25) F L M M') (hL : ∀ i ∈ L, i < 11) : XC w M' x T c := by
  have Fm := h.2.1
  have X := h.1
  have ow := h.ow.1
  have hKA : ∀ b, mK M b ≠ 0 → mK M' b = mK M b ∧ mA M' b = mA M b := fun b _ => by rw [g.2.2.1, g.2.2.2.1]; exact ⟨rfl, rfl⟩
  have sm : ∀ b, (∀ i, 25 ≤ i → i < 36 → b ≠ x + i) → same M M' b := fun b hb => g.2.2.2.2.1 b (hb 25 (by decide) (by decide)) (fun i hi => by rw [Nat.add_assoc]; exact hb _ (by omega) (by have := hL i hi; omega))
  have sw : ∀ b, w b ≠ 0 → same M M' b := fun b hb => sm b (fun i h1 h2 e => hb (by rw [e]; exact ow i (by omega) (by omega)))
  have km : keepM w M M' := fun b hb _ => ⟨sw b (by omega), by rw [g.2.2.1], by rw [g.2.2.2.1]⟩
  have fx : ∀ i, i < 25 ∨ 36 ≤ i → same M M' (x + i) := fun i hi => sm _ (fun j h1 h2 => by omega)
  have f0 : same M M' x := fx 0 (by omega)
  refine ⟨X.keep hKA (fun i hi => ?_), fun b hb => by rw [g.2.2.1]; exact Fm b (by rw [← g.1]; exact hb), h.2.2.1, h.ow, by rw [g.1]; exact h.2.2.2.2.1, ⟨by rw [(fx 1 (by omega)).1]; exact h.t, fun k hk => by rw [(fx 2 (by omega)).1]; exact h.tb hk⟩, ?_, by rw [f0.1]; exact h.q, ⟨h.cl, by rw [f0.1]; exact h.ch⟩, ?_, ?_, ?_, ?_⟩
  · by_cases e : i = 25
    · rw [e]; exact g.2.2.2.2.2.1
    · exact (fx i (by simp at hi; omega)).2.2
  · exact h.cs.2.2.keep Fm km (fun i hi => by rw [Nat.add_assoc]; exact fx _ (by omega))
  · exact h.dy.keep Fm X hKA km (fun b hb _ => sw b (by omega)) (fx 12 (by omega)).2.2 (fx 13 (by omega)).2.2 (fx 14 (by omega)).2.2 (fx 18 (by omega)).2.2 (fx 1 (by omega)).2.2 rfl h.cl (Or.inl ⟨rfl, rfl⟩)
  · have z := h.2.2.2.2.2.2.2.2.2.2.1
    unfold cEd at z ⊢
    rw [(fx 46 (by omega)).1, show x + 46 + 1 = x + 47 from rfl, (fx 47 (by omega)).1]; exact z
  · have z := h.2.2.2.2.2.2.2.2.2.2.2.1
    unfold cMv at z ⊢
    rw [(fx 50 (by omega)).1]; exact z
  · have z := h.2.2.2.2.2.2.2.2.2.2.2.2
    unfold cFw at z ⊢
    rw [f0.1]; exact z
theorem Frv.ccv (g : Frv (x + 25) F L M M') (hL : ∀ i ∈ L, i < 11) : Cv x M M' := ⟨fun b h1 h2 => ⟨g.2.2.2.2.1 b (by omega) (fun i hi => by have := hL i hi; omega), by rw [g.2.2.1], by rw [g.2.2.2.1]⟩, g.1, g.2.1⟩
theorem k_fewest {Q : Int32 → Mem → Prop} (h : XC w M x T c) (hq : ∀ M', XC w M' x T c → Cu x M M' → Q (f_fewest T) M') : CI G (d + 7) 135 [.ref x] M Q := by
  unfold f_fewest at hq
  have V := h.cs.2.1
  have cl := h.cl
  have al := allM_le V 4
  refine c_X11_fewest h.1 (k_allTold h.cs.t ⟨h.1, ?_⟩)
  rw [show (12 : Int32) = nI 12 from rfl, le_I (by omega) (by omega), h.ch]
  refine ⟨fun n2 => ?_, fun n2 => by rw [cif_F n2] at hq; exact hq M h Cu.refl⟩
  rw [cif_T n2] at hq
  have cF := h.2.2.2.2.2.2.2.2.2.2.2.2
  refine ⟨fun e => ?_, fun _ => ?_⟩
  · have := hq M h Cu.refl
    rw [few_e V n2 (cF.2 e)] at this; exact this
  · have ow := h.ow.1
    have fw : FwC w M (x + 25) (x + 3) (sh T) := ⟨h.1.2.2.2.2.2.1, h.cs, h.2.1, fun b hb i hi e => by
      have := ow (25 + i) (by omega) (by omega)
      rw [e, Nat.add_assoc, this] at hb; omega, by omega⟩
    refine k_fewestSet fw n2 (fun M3 v g3 f3 => ?_)
    have h3 := h.cmp g3 (by decide)
    refine ⟨h3.1, fun M5 e5 M6 e6 => ?_⟩
    have ch5 : vi M5 x 13 = nI c := by rw [e5, vi_seti, if_neg (by omega)]; exact h3.ch
    rw [ch5] at e6
    have v15 : vi M6 x 15 = v := by rw [e6, vi_seti, if_neg (by omega), e5, vi_seti, if_pos ⟨rfl, rfl⟩]
    have v14 : vi M6 x 14 = nI c := by rw [e6, vi_seti, if_pos ⟨rfl, rfl⟩]
    have sm : ∀ b, b ≠ x → vi M6 b = vi M3 b ∧ vl M6 b = vl M3 b := fun b hb => ⟨by funext k; rw [e6, vi_seti, if_neg (fun z => hb z.1), e5, vi_seti, if_neg (fun z => hb z.1)], by rw [e6, e5]; rfl⟩
    have h6 : XC w M6 x T c := by
      refine h3.fix (by rw [e6, e5]; rfl) (by rw [e6, e5]; rfl) (by rw [e6, e5]; rfl) (by rw [e6, e5]; rfl) (fun b hb _ => sm b hb) (fun k h14 h15 => by rw [e6, vi_seti, if_neg (fun z => h14 z.2), e5, vi_seti, if_neg (fun z => h15 z.2)]) ?_ ?_ ⟨?_, fun _ => ?_⟩
      · have z := h3.2.2.2.2.2.2.2.2.2.2.1
        unfold cEd at z ⊢
        rw [(sm (x + 46) (by omega)).1, (sm (x + 46 + 1) (by omega)).1]; exact z
      · have z := h3.2.2.2.2.2.2.2.2.2.2.2.1
        unfold cMv at z ⊢
        rw [(sm (x + 50) (by omega)).1]; exact z
      · rw [v14, nI_toIntN (by omega)]; omega
      · rw [v15]; exact f3
    have c6 : Cv x M3 M6 := ⟨fun b h1 h2 => ⟨⟨(sm b (by omega)).1, (sm b (by omega)).2, by rw [e6, e5]; rfl⟩, by rw [e6, e5]; rfl, by rw [e6, e5]; rfl⟩, by rw [e6, e5]; rfl, by rw [e6, e5]; rfl⟩
    have := hq M6 h6 ((g3.ccv (by decide)).cu.cv c6)
    rw [few_e V n2 f3] at this
    rw [v15]; exact this
end
