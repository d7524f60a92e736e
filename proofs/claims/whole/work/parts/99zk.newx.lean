/-! THE CLASS IS MADE -/
def Nx (x f : Nat) (M M' : Mem) : Prop := Ext x M M' ∧ ∀ k, k < f → vr M' x k = vr M x k
section
variable {x f f' c nf K n a : Nat} {l : List (Nat × Nat × Nat)} {M M1 M2 M3 M' M'' : Mem}
theorem Nx.refl : Nx x f M M := ⟨Ext.refl, fun _ _ => rfl⟩
theorem Nx.trans (h : Nx x f M M') (h2 : Nx x f' M' M'') (hf : f ≤ f') : Nx x f M M'' := ⟨h.1.trans h2.1, fun k hk => (h2.2 k (by omega)).trans (h.2 k hk)⟩
theorem Mko.nx (h : Mko x f c nf l M M3) : Nx x f M M3 := ⟨h.1, fun k hk => h.2.2.2.2.2.2.2.2.2 k (by omega)⟩
theorem ObAt.nx (h : ObAt c M a) (e : Ext x M M') (F : frM M) (hx : x < a) (hc : c < 13) : ObAt c M' a := by
  have la := F.lt (a := a) (by rw [h.1]; omega)
  have ea := e.2.1 a la (by omega)
  refine ⟨ea.2.1.trans h.1, fun q hq => ?_⟩
  obtain ⟨h1, h2, h3⟩ := h.2 q hq
  have lb := F.lt (a := a + q.2.1) (by rw [h2]; exact (obTab_ok c hc q hq).1)
  have eb := e.2.1 _ lb (by omega)
  exact ⟨by rw [ea.1.2.2]; exact h1, eb.2.1.trans h2, fun h4 => eb.2.2.trans (h3 h4)⟩
theorem stp_pre {k : Nat} (F : frM M) (hx : x < mN M) (O : mK M x = k) (nd : (l.map (fun e => e.1)).Nodup) (e1 : M1 = mnew M (c + 1) nf) : mK M1 (mN M) = c + 1 ∧ frM M1 ∧ mN M < mN M1 ∧ mK (bld (mN M) l M1) x = k ∧ frM (bld (mN M) l M1) := by
  have F1 : frM M1 := by rw [e1]; exact fr_mnew F
  have n1 : mN M1 = mN M + 1 := by rw [e1]; rfl
  have bs : BS (mN M) l M1 (bld (mN M) l M1) := bld_spec l M1 (by omega) F1 nd
  refine ⟨by rw [e1, mK_mnew, if_pos rfl], F1, by omega, ?_, bs.2.2.2.2.2.2.2.2⟩
  rw [(bs.2.2.1 x (by omega) (by omega)).2.1, e1, mK_mnew, if_neg (by omega)]
  exact O
def Mka (x f K n : Nat) (M M3 : Mem) : Prop := Nx x f M M3 ∧ frM M3 ∧ mN M3 = mN M + 1 ∧ mS M3 = mS M + n ∧ mK M3 (mN M) = K ∧ mA M3 (mN M) = n ∧ vr M3 (mN M) = (fun _ => none) ∧ vr M3 x f = some (mN M)
theorem stp_ar (F : frM M) (hx : x < mN M) (e1 : M1 = mnew M K n) (e3 : M3 = setr M1 x f (some (mN M))) : Mka x f K n M M3 := by
  have F1 : frM M1 := by rw [e1]; exact fr_mnew F
  have o1 : ∀ b, b ≠ mN M → vi M1 b = vi M b ∧ vl M1 b = vl M b ∧ vr M1 b = vr M b ∧ mK M1 b = mK M b ∧ mA M1 b = mA M b := fun b hb => by
    rw [e1]
    exact ⟨by rw [vi_mnew, if_neg hb], by rw [vl_mnew, if_neg hb], by rw [vr_mnew, if_neg hb], by rw [mK_mnew, if_neg hb], by rw [mA_mnew, if_neg hb]⟩
  have v3 : vi M3 = vi M1 ∧ vl M3 = vl M1 ∧ mK M3 = mK M1 ∧ mA M3 = mA M1 ∧ mN M3 = mN M1 ∧ mS M3 = mS M1 := by rw [e3]; exact ⟨rfl, rfl, rfl, rfl, rfl, rfl⟩
  have r3 : ∀ b, b ≠ x → vr M3 b = vr M1 b := fun b hb => by rw [e3]; funext k; rw [vr_setr, if_neg (fun z => hb z.1)]
  have ox := o1 x (by omega)
  refine ⟨⟨⟨by rw [v3.2.2.2.2.1, e1, mN_mnew]; omega, fun b hb hbx => ?_, by rw [v3.1, ox.1], by rw [v3.2.2.1, ox.2.2.2.1]⟩, fun k hk => ?_⟩, fun a ha => ?_, ?_, ?_, ?_, ?_, ?_, ?_⟩
  · have y := o1 b (by omega)
    exact ⟨⟨by rw [v3.1, y.1], by rw [v3.2.1, y.2.1], by rw [r3 b hbx, y.2.2.1]⟩, by rw [v3.2.2.1, y.2.2.2.1], by rw [v3.2.2.2.1, y.2.2.2.2]⟩
  · rw [e3, vr_setr, if_neg (fun z => by omega), ox.2.2.1]
  · rw [v3.2.2.1]; exact F1 a (by rw [← v3.2.2.2.2.1]; exact ha)
  · rw [v3.2.2.2.2.1, e1, mN_mnew]
  · rw [v3.2.2.2.2.2, e1, mS_mnew]
  · rw [v3.2.2.1, e1, mK_mnew, if_pos rfl]
  · rw [v3.2.2.2.1, e1, mA_mnew, if_pos rfl]
  · rw [r3 _ (by omega), e1, vr_mnew, if_pos rfl]
  · rw [e3, vr_setr, if_pos ⟨rfl, rfl⟩]
/-- the reader of laws: its draft behind it -/
def Mkl (o t : Nat) (M M' : Mem) : Prop := Ext o M M' ∧ frM M' ∧ mN M' = mN M + 6 ∧ mS M' = mS M + 502 ∧ ObAt 2 M' (mN M) ∧ vr M' o 0 = some t ∧ vr M' o 1 = some (mN M)
theorem ki_X3 {G : GT} {d o t : Nat} {M0 : Mem} {Q : Mem → Prop} (O0 : mK M0 o = 4) (F0 : frM M0) (h0 : o < mN M0) (hq : ∀ M', Mkl o t M0 M' → Q M') : CV G (d + 2) 30 [.ref o, .ref t] M0 Q := by
  refine i_X3 O0 F0 ?_
  refine i_X3_4 O0 F0 (fun A1 a1 => ?_)
  have p1 := stp_pre (c := 2) F0 h0 O0 nd_X2 a1
  refine ki_X2 p1.1 p1.2.1 p1.2.2.1 ⟨p1.2.2.2, fun M1 e1 => ?_⟩
  have s1 := stp_ob (c := 2) F0 h0 nd_X2 (by decide) tb_X2 a1 rfl e1
  obtain ⟨E, F, N, S, OB, -, -, -, R1, -⟩ := s1
  refine i_X3_15 (E.2.2.2.trans O0) F (fun M2 e2 => ?_)
  have Z : Mkl o t M0 M2 := by
    have v : vi M2 = vi M1 ∧ vl M2 = vl M1 ∧ mK M2 = mK M1 ∧ mA M2 = mA M1 ∧ mN M2 = mN M1 ∧ mS M2 = mS M1 := by rw [e2]; exact ⟨rfl, rfl, rfl, rfl, rfl, rfl⟩
    have r : ∀ b, b ≠ o → vr M2 b = vr M1 b := fun b hb => by rw [e2]; funext k; rw [vr_setr, if_neg (fun z => hb z.1)]
    refine ⟨⟨by rw [v.2.2.2.2.1]; exact E.1, fun b hb hbo => ?_, by rw [v.1]; exact E.2.2.1, by rw [v.2.2.1]; exact E.2.2.2⟩, fun a ha => ?_, ?_, ?_, ?_, ?_, ?_⟩
    · have y := E.2.1 b hb hbo
      exact ⟨⟨by rw [v.1]; exact y.1.1, by rw [v.2.1]; exact y.1.2.1, by rw [r b hbo]; exact y.1.2.2⟩, by rw [v.2.2.1]; exact y.2.1, by rw [v.2.2.2.1]; exact y.2.2⟩
    · rw [v.2.2.1]; exact F a (by rw [← v.2.2.2.2.1]; exact ha)
    · rw [v.2.2.2.2.1, N]; rfl
    · rw [v.2.2.2.2.2, S]; rfl
    · exact OB.keep (fun b _ => by rw [v.2.2.1, v.2.2.2.1]; exact ⟨rfl, rfl⟩) (r _ (by omega)) (by decide)
    · rw [e2, vr_setr, if_pos ⟨rfl, rfl⟩]
    · rw [e2, vr_setr, if_neg (fun z => absurd z.2 (by decide))]; exact R1
  have O2 : mK M2 o = 4 := Z.1.2.2.2.trans O0
  exact i_X3_20 (a1 := t) O2 Z.2.1 (hq M2 Z)
def Mlr (x f t : Nat) (M M3 : Mem) : Prop := Nx x f M M3 ∧ frM M3 ∧ mN M3 = mN M + 7 ∧ mS M3 = mS M + 505 ∧ mK M3 (mN M) = 4 ∧ vr M3 (mN M) 0 = some t ∧ vr M3 (mN M) 1 = some (mN M + 1) ∧ ObAt 2 M3 (mN M + 1) ∧ vr M3 x f = some (mN M)
theorem stp_lr {t : Nat} (F : frM M) (hx : x < mN M) (e1 : M1 = mnew M 4 3) (hM : Mkl (mN M) t M1 M2) (e3 : M3 = setr M2 x f (some (mN M))) : Mlr x f t M M3 := by
  have n1 : mN M1 = mN M + 1 := by rw [e1]; rfl
  have s1 : mS M1 = mS M + 3 := by rw [e1]; rfl
  obtain ⟨E, F2, N, S, OB, R0, R1⟩ := hM
  have o1 : ∀ b, b ≠ mN M → vi M1 b = vi M b ∧ vl M1 b = vl M b ∧ vr M1 b = vr M b ∧ mK M1 b = mK M b ∧ mA M1 b = mA M b := fun b hb => by
    rw [e1]
    exact ⟨by rw [vi_mnew, if_neg hb], by rw [vl_mnew, if_neg hb], by rw [vr_mnew, if_neg hb], by rw [mK_mnew, if_neg hb], by rw [mA_mnew, if_neg hb]⟩
  have v3 : vi M3 = vi M2 ∧ vl M3 = vl M2 ∧ mK M3 = mK M2 ∧ mA M3 = mA M2 ∧ mN M3 = mN M2 ∧ mS M3 = mS M2 := by rw [e3]; exact ⟨rfl, rfl, rfl, rfl, rfl, rfl⟩
  have r3 : ∀ b, b ≠ x → vr M3 b = vr M2 b := fun b hb => by rw [e3]; funext k; rw [vr_setr, if_neg (fun z => hb z.1)]
  have ox := o1 x (by omega)
  have ex := E.2.1 x (by omega) (by omega)
  refine ⟨⟨⟨by rw [v3.2.2.2.2.1, N, n1]; omega, fun b hb hbx => ?_, by rw [v3.1, ex.1.1, ox.1], by rw [v3.2.2.1, ex.2.1, ox.2.2.2.1]⟩, fun k hk => ?_⟩, fun a ha => ?_, ?_, ?_, ?_, ?_, ?_, ?_, ?_⟩
  · have y := o1 b (by omega)
    have z := E.2.1 b (by omega) (by omega)
    exact ⟨⟨by rw [v3.1, z.1.1, y.1], by rw [v3.2.1, z.1.2.1, y.2.1], by rw [r3 b hbx, z.1.2.2, y.2.2.1]⟩, by rw [v3.2.2.1, z.2.1, y.2.2.2.1], by rw [v3.2.2.2.1, z.2.2, y.2.2.2.2]⟩
  · rw [e3, vr_setr, if_neg (fun z => by omega), ex.1.2.2, ox.2.2.1]
  · rw [v3.2.2.1]; exact F2 a (by rw [← v3.2.2.2.2.1]; exact ha)
  · rw [v3.2.2.2.2.1, N, n1]
  · rw [v3.2.2.2.2.2, S, s1]
  · rw [v3.2.2.1, E.2.2.2, e1, mK_mnew, if_pos rfl]
  · rw [r3 _ (by omega)]; exact R0
  · rw [r3 _ (by omega), R1, n1]
  · rw [← n1]; exact OB.keep (fun b _ => by rw [v3.2.2.1, v3.2.2.2.1]; exact ⟨rfl, rfl⟩) (r3 _ (by omega)) (by decide)
  · rw [e3, vr_setr, if_pos ⟨rfl, rfl⟩]
end
/-- what there is of the class when it is new -/
def Xn (x : Nat) (M : Mem) : Prop := XAt M x ∧ frM M ∧ mN M = x + 55 ∧ LrAt M (x + 18) (x + 1) (x + 19) ∧ vi M (x + 1) 1 = 0 ∧ (vi M (x + 3) 1 = 0 ∧ vi M (x + 3) 3 = 0 ∧ vi M (x + 3) 6 = 0) ∧ (vi M (x + 7) = (fun _ => 0) ∧ vr M (x + 8) = (fun _ => none) ∧ vi M (x + 9) = (fun _ => 0)) ∧ vr M (x + 12) = (fun _ => none) ∧ (vi M x 12 = 0 ∧ vi M x 13 = 0 ∧ vi M x 14 = -1) ∧ vi M (x + 46) 0 = -1 ∧ vi M (x + 50) 0 = -1
theorem ki_X11 {G : GT} {d x : Nat} {M0 : Mem} {Q : Mem → Prop} (O0 : mK M0 x = 12) (F0 : frM M0) (h0 : mN M0 = x + 1) (z0 : vi M0 x = (fun _ => 0)) (hq : ∀ M', Xn x M' → mS M' ≤ mS M0 + 20000 → mS M0 ≤ mS M' → Q M') : CV G (d + 3) 108 [.ref x] M0 Q := by
  refine i_X11 O0 F0 ?_
  refine i_X11_4 O0 F0 (fun A1 a1 => ?_)
  have p1 := stp_pre (x := x) (c := 9) F0 (by omega) O0 nd_X9 a1
  refine ki_X9 p1.1 p1.2.1 p1.2.2.1 ⟨p1.2.2.2, fun M1 e1 => ?_⟩
  obtain ⟨E1, F1, N1, S1, B1, Z1, V1, U1, R1, T1⟩ := stp_ob (x := x) (c := 9) F0 (by omega) nd_X9 (by decide) tb_X9 a1 rfl e1
  have Y1 : Nx x 0 M0 M1 := ⟨E1, fun k hk => T1 k (by omega)⟩
  replace N1 : mN M1 = mN M0 + 2 := N1
  rw [show sumN l_X9 = 400 by decide] at S1
  have O1 : mK M1 x = 12 := E1.2.2.2.trans O0
  refine i_X11_15 O1 F1 (fun A2 a2 => ?_)
  have p2 := stp_pre (x := x) (c := 8) F1 (by omega) O1 nd_X8 a2
  refine ki_X8 p2.1 p2.2.1 p2.2.2.1 ⟨p2.2.2.2, fun M2 e2 => ?_⟩
  obtain ⟨E2, F2, N2, S2, B2, Z2, V2, U2, R2, T2⟩ := stp_ob (x := x) (c := 8) F1 (by omega) nd_X8 (by decide) tb_X8 a2 rfl e2
  have Y2 : Nx x 1 M1 M2 := ⟨E2, fun k hk => T2 k (by omega)⟩
  replace N2 : mN M2 = mN M1 + 9 := N2
  rw [show sumN l_X8 = 607 by decide] at S2
  have O2 : mK M2 x = 12 := E2.2.2.2.trans O1
  refine i_X11_26 O2 F2 ⟨by decide, by decide, fun A3 a3 M3 e3 => ?_⟩
  obtain ⟨Y3, F3, N3, S3, B3, L3, V3, R3⟩ := stp_ar (x := x) (K := 20) (n := 4) F2 (by omega) a3 e3
  have E3 := Y3.1
  have O3 : mK M3 x = 12 := E3.2.2.2.trans O2
  refine i_X11_34 O3 F3 ⟨by decide, by decide, fun A4 a4 M4 e4 => ?_⟩
  obtain ⟨Y4, F4, N4, S4, B4, L4, V4, R4⟩ := stp_ar (x := x) (K := 18) (n := 4) F3 (by omega) a4 e4
  have E4 := Y4.1
  have O4 : mK M4 x = 12 := E4.2.2.2.trans O3
  refine i_X11_42 O4 F4 ⟨by decide, by decide, fun A5 a5 M5 e5 => ?_⟩
  obtain ⟨Y5, F5, N5, S5, B5, L5, V5, R5⟩ := stp_ar (x := x) (K := 21) (n := 4) F4 (by omega) a5 e5
  have E5 := Y5.1
  have O5 : mK M5 x = 12 := E5.2.2.2.trans O4
  refine i_X11_50 O5 F5 (fun A6 a6 => ?_)
  have p6 := stp_pre (x := x) (c := 6) F5 (by omega) O5 nd_X6 a6
  refine ki_X6 p6.1 p6.2.1 p6.2.2.1 ⟨p6.2.2.2, fun M6 e6 => ?_⟩
  obtain ⟨E6, F6, N6, S6, B6, Z6, V6, U6, R6, T6⟩ := stp_ob (x := x) (c := 6) F5 (by omega) nd_X6 (by decide) tb_X6 a6 rfl e6
  have Y6 : Nx x 5 M5 M6 := ⟨E6, fun k hk => T6 k (by omega)⟩
  replace N6 : mN M6 = mN M5 + 3 := N6
  rw [show sumN l_X6 = 36 by decide] at S6
  have O6 : mK M6 x = 12 := E6.2.2.2.trans O5
  refine i_X11_61 O6 F6 (fun A7 a7 => ⟨fun r hr => ?_, fun hr => ?_⟩)
  case refine_2 =>
    have : vr A7 x 0 = some (x + 1) := by rw [a7, vr_mnew, if_neg (by omega), Y6.2 0 (by decide), Y5.2 0 (by decide), Y4.2 0 (by decide), Y3.2 0 (by decide), Y2.2 0 (by decide), R1, h0]
    rw [this] at hr; cases hr
  have hr1 : r = x + 1 := by
    have : vr A7 x 0 = some (x + 1) := by rw [a7, vr_mnew, if_neg (by omega), Y6.2 0 (by decide), Y5.2 0 (by decide), Y4.2 0 (by decide), Y3.2 0 (by decide), Y2.2 0 (by decide), R1, h0]
    exact some_inj this hr
  subst hr1
  have p7k : mK A7 (mN M6) = 4 := by rw [a7, mK_mnew, if_pos rfl]
  have p7f : frM A7 := by rw [a7]; exact fr_mnew F6
  have p7n : mN A7 = mN M6 + 1 := by rw [a7]; rfl
  refine ki_X3 p7k p7f (by omega) (fun C7 hM => ⟨⟨?_, hM.2.1⟩, fun M7 e7 => ?_⟩)
  · rw [(hM.1.2.1 x (by omega) (by omega)).2.1, a7, mK_mnew, if_neg (by omega)]; exact O6
  obtain ⟨Y7, F7, N7, S7, B7, V7, L7, W7, R7⟩ := stp_lr (x := x) F6 (by omega) a7 hM e7
  have E7 := Y7.1
  have O7 : mK M7 x = 12 := E7.2.2.2.trans O6
  refine i_X11_76 O7 F7 (fun A8 a8 => ?_)
  have p8 := stp_pre (x := x) (c := 0) F7 (by omega) O7 nd_X0 a8
  refine ki_X0 p8.1 p8.2.1 p8.2.2.1 ⟨p8.2.2.2, fun M8 e8 => ?_⟩
  obtain ⟨E8, F8, N8, S8, B8, Z8, V8, U8, R8, T8⟩ := stp_ob (x := x) (c := 0) F7 (by omega) nd_X0 (by decide) tb_X0 a8 rfl e8
  have Y8 : Nx x 7 M7 M8 := ⟨E8, fun k hk => T8 k (by omega)⟩
  replace N8 : mN M8 = mN M7 + 11 := N8
  rw [show sumN l_X0 = 1715 by decide] at S8
  have O8 : mK M8 x = 12 := E8.2.2.2.trans O7
  refine i_X11_87 O8 F8 (fun A9 a9 => ?_)
  have p9 := stp_pre (x := x) (c := 4) F8 (by omega) O8 nd_X4 a9
  refine ki_X4 p9.1 p9.2.1 p9.2.2.1 ⟨p9.2.2.2, fun M9 e9 => ?_⟩
  obtain ⟨E9, F9, N9, S9, B9, Z9, V9, U9, R9, T9⟩ := stp_ob (x := x) (c := 4) F8 (by omega) nd_X4 (by decide) tb_X4 a9 rfl e9
  have Y9 : Nx x 8 M8 M9 := ⟨E9, fun k hk => T9 k (by omega)⟩
  replace N9 : mN M9 = mN M8 + 5 := N9
  rw [show sumN l_X4 = 1600 by decide] at S9
  have O9 : mK M9 x = 12 := E9.2.2.2.trans O8
  refine i_X11_98 O9 F9 (fun A10 a10 => ?_)
  have p10 := stp_pre (x := x) (c := 4) F9 (by omega) O9 nd_X4 a10
  refine ki_X4 p10.1 p10.2.1 p10.2.2.1 ⟨p10.2.2.2, fun M10 e10 => ?_⟩
  obtain ⟨E10, F10, N10, S10, B10, Z10, V10, U10, R10, T10⟩ := stp_ob (x := x) (c := 4) F9 (by omega) nd_X4 (by decide) tb_X4 a10 rfl e10
  have Y10 : Nx x 9 M9 M10 := ⟨E10, fun k hk => T10 k (by omega)⟩
  replace N10 : mN M10 = mN M9 + 5 := N10
  rw [show sumN l_X4 = 1600 by decide] at S10
  have O10 : mK M10 x = 12 := E10.2.2.2.trans O9
  refine i_X11_109 O10 F10 (fun A11 a11 => ?_)
  have p11 := stp_pre (x := x) (c := 1) F10 (by omega) O10 nd_X1 a11
  refine ki_X1 p11.1 p11.2.1 p11.2.2.1 ⟨p11.2.2.2, fun M11 e11 => ?_⟩
  obtain ⟨E11, F11, N11, S11, B11, Z11, V11, U11, R11, T11⟩ := stp_ob (x := x) (c := 1) F10 (by omega) nd_X1 (by decide) tb_X1 a11 rfl e11
  have Y11 : Nx x 10 M10 M11 := ⟨E11, fun k hk => T11 k (by omega)⟩
  replace N11 : mN M11 = mN M10 + 4 := N11
  rw [show sumN l_X1 = 2601 by decide] at S11
  have O11 : mK M11 x = 12 := E11.2.2.2.trans O10
  refine i_X11_120 O11 F11 (fun A12 a12 => ?_)
  have p12 := stp_pre (x := x) (c := 7) F11 (by omega) O11 nd_X7 a12
  refine ki_X7 p12.1 p12.2.1 p12.2.2.1 ⟨p12.2.2.2, fun M12 e12 => ?_⟩
  obtain ⟨E12, F12, N12, S12, B12, Z12, V12, U12, R12, T12⟩ := stp_ob (x := x) (c := 7) F11 (by omega) nd_X7 (by decide) tb_X7 a12 rfl e12
  have Y12 : Nx x 11 M11 M12 := ⟨E12, fun k hk => T12 k (by omega)⟩
  replace N12 : mN M12 = mN M11 + 5 := N12
  rw [show sumN l_X7 = 5628 by decide] at S12
  have O12 : mK M12 x = 12 := E12.2.2.2.trans O11
  refine i_X11_131 O12 F12 (fun M13 e13 => ?_)
  have g : mK M13 = mK M12 ∧ mA M13 = mA M12 ∧ mN M13 = mN M12 ∧ mS M13 = mS M12 ∧ vr M13 = vr M12 ∧ vl M13 = vl M12 := by rw [e13]; exact ⟨rfl, rfl, rfl, rfl, rfl, rfl⟩
  have O13 : mK M13 x = 12 := by rw [g.1]; exact O12
  have F13 : frM M13 := fun a ha => by rw [g.1]; exact F12 a (by rw [← g.2.2.1]; exact ha)
  refine i_X11_136 O13 F13 (hq M13 ?_ ?_ ?_)
  case refine_3 => rw [g.2.2.2.1]; omega
  case refine_2 => rw [g.2.2.2.1]; omega
  have y12 : Nx x 12 M12 M12 := Nx.refl
  have y11 : Nx x 11 M11 M12 := Y12.trans y12 (by decide)
  have y10 : Nx x 10 M10 M12 := Y11.trans y11 (by decide)
  have y9 : Nx x 9 M9 M12 := Y10.trans y10 (by decide)
  have y8 : Nx x 8 M8 M12 := Y9.trans y9 (by decide)
  have y7 : Nx x 7 M7 M12 := Y8.trans y8 (by decide)
  have y6 : Nx x 6 M6 M12 := Y7.trans y7 (by decide)
  have y5 : Nx x 5 M5 M12 := Y6.trans y6 (by decide)
  have y4 : Nx x 4 M4 M12 := Y5.trans y5 (by decide)
  have y3 : Nx x 3 M3 M12 := Y4.trans y4 (by decide)
  have y2 : Nx x 2 M2 M12 := Y3.trans y3 (by decide)
  have y1 : Nx x 1 M1 M12 := Y2.trans y2 (by decide)
  have y0 : Nx x 0 M0 M12 := Y1.trans y1 (by decide)
  have v : ∀ b, b ≠ x → vi M13 b = vi M12 b := fun b hb => by rw [e13]; funext k; rw [vi_seti, if_neg (fun z => hb z.1)]
  have ob : ∀ {c a : Nat}, ObAt c M12 a → c < 13 → ObAt c M13 a := fun h hc => h.keep (fun b _ => by rw [g.1, g.2.1]; exact ⟨rfl, rfl⟩) (by rw [g.2.2.2.2.1]) hc
  have n0 : mN M0 = x + 1 := by omega
  rw [n0] at B1 Z1 V1 U1 R1
  have b1 : ObAt 9 M13 (x + 1) := ob (B1.nx y1.1 F1 (by omega) (by decide)) (by decide)
  have r1 : vr M13 x 0 = some (x + 1) := by rw [g.2.2.2.2.1, y1.2 0 (by decide)]; exact R1
  have n1 : mN M1 = x + 3 := by omega
  rw [n1] at B2 Z2 V2 U2 R2
  have b2 : ObAt 8 M13 (x + 3) := ob (B2.nx y2.1 F2 (by omega) (by decide)) (by decide)
  have r2 : vr M13 x 1 = some (x + 3) := by rw [g.2.2.2.2.1, y2.2 1 (by decide)]; exact R2
  have n2 : mN M2 = x + 12 := by omega
  rw [n2] at B3 L3 V3 R3
  have r3 : vr M13 x 2 = some (x + 12) := by rw [g.2.2.2.2.1, y3.2 2 (by decide)]; exact R3
  have n3 : mN M3 = x + 13 := by omega
  rw [n3] at B4 L4 V4 R4
  have r4 : vr M13 x 3 = some (x + 13) := by rw [g.2.2.2.2.1, y4.2 3 (by decide)]; exact R4
  have n4 : mN M4 = x + 14 := by omega
  rw [n4] at B5 L5 V5 R5
  have r5 : vr M13 x 4 = some (x + 14) := by rw [g.2.2.2.2.1, y5.2 4 (by decide)]; exact R5
  have n5 : mN M5 = x + 15 := by omega
  rw [n5] at B6 Z6 V6 U6 R6
  have b6 : ObAt 6 M13 (x + 15) := ob (B6.nx y6.1 F6 (by omega) (by decide)) (by decide)
  have r6 : vr M13 x 5 = some (x + 15) := by rw [g.2.2.2.2.1, y6.2 5 (by decide)]; exact R6
  have n6 : mN M6 = x + 18 := by omega
  rw [n6] at B7 V7 L7 W7 R7
  have r7 : vr M13 x 6 = some (x + 18) := by rw [g.2.2.2.2.1, y7.2 6 (by decide)]; exact R7
  have n7 : mN M7 = x + 25 := by omega
  rw [n7] at B8 Z8 V8 U8 R8
  have b8 : ObAt 0 M13 (x + 25) := ob (B8.nx y8.1 F8 (by omega) (by decide)) (by decide)
  have r8 : vr M13 x 7 = some (x + 25) := by rw [g.2.2.2.2.1, y8.2 7 (by decide)]; exact R8
  have n8 : mN M8 = x + 36 := by omega
  rw [n8] at B9 Z9 V9 U9 R9
  have b9 : ObAt 4 M13 (x + 36) := ob (B9.nx y9.1 F9 (by omega) (by decide)) (by decide)
  have r9 : vr M13 x 8 = some (x + 36) := by rw [g.2.2.2.2.1, y9.2 8 (by decide)]; exact R9
  have n9 : mN M9 = x + 41 := by omega
  rw [n9] at B10 Z10 V10 U10 R10
  have b10 : ObAt 4 M13 (x + 41) := ob (B10.nx y10.1 F10 (by omega) (by decide)) (by decide)
  have r10 : vr M13 x 9 = some (x + 41) := by rw [g.2.2.2.2.1, y10.2 9 (by decide)]; exact R10
  have n10 : mN M10 = x + 46 := by omega
  rw [n10] at B11 Z11 V11 U11 R11
  have b11 : ObAt 1 M13 (x + 46) := ob (B11.nx y11.1 F11 (by omega) (by decide)) (by decide)
  have r11 : vr M13 x 10 = some (x + 46) := by rw [g.2.2.2.2.1, y11.2 10 (by decide)]; exact R11
  have n11 : mN M11 = x + 50 := by omega
  rw [n11] at B12 Z12 V12 U12 R12
  have b12 : ObAt 7 M13 (x + 50) := ob (B12.nx y12.1 F12 (by omega) (by decide)) (by decide)
  have r12 : vr M13 x 11 = some (x + 50) := by rw [g.2.2.2.2.1, y12.2 11 (by decide)]; exact R12
  have n12 : mN M12 = x + 55 := by omega
  have k : ∀ {i : Nat} {Mi : Mem} {b : Nat}, Ext x Mi M12 → b < mN Mi → b ≠ x → vi M13 b = vi Mi b ∧ vr M13 b = vr Mi b ∧ mK M13 b = mK Mi b ∧ mA M13 b = mA Mi b := fun e hb hx => by
    have z := e.2.1 _ hb hx
    exact ⟨(v _ hx).trans z.1.1, by rw [g.2.2.2.2.1]; exact z.1.2.2, by rw [g.1]; exact z.2.1, by rw [g.2.1]; exact z.2.2⟩
  have ob11 : ObAt 11 M13 x := by
    refine ⟨O13, fun q hq => ?_⟩
    simp only [obTab, List.mem_cons, List.not_mem_nil, or_false] at hq
    rcases hq with rfl | rfl | rfl | rfl | rfl | rfl | rfl | rfl | rfl | rfl | rfl | rfl
    · exact ⟨r1, b1.1, fun h => absurd h (by decide)⟩
    · exact ⟨r2, b2.1, fun h => absurd h (by decide)⟩
    · have z := k (i := 3) (b := x + 12) y3.1 (by omega) (by omega)
      exact ⟨r3, z.2.2.1.trans B3, fun _ => z.2.2.2.trans L3⟩
    · have z := k (i := 4) (b := x + 13) y4.1 (by omega) (by omega)
      exact ⟨r4, z.2.2.1.trans B4, fun _ => z.2.2.2.trans L4⟩
    · have z := k (i := 5) (b := x + 14) y5.1 (by omega) (by omega)
      exact ⟨r5, z.2.2.1.trans B5, fun _ => z.2.2.2.trans L5⟩
    · exact ⟨r6, b6.1, fun h => absurd h (by decide)⟩
    · have z := k (i := 7) (b := x + 18) y7.1 (by omega) (by omega)
      exact ⟨r7, z.2.2.1.trans B7, fun h => absurd h (by decide)⟩
    · exact ⟨r8, b8.1, fun h => absurd h (by decide)⟩
    · exact ⟨r9, b9.1, fun h => absurd h (by decide)⟩
    · exact ⟨r10, b10.1, fun h => absurd h (by decide)⟩
    · exact ⟨r11, b11.1, fun h => absurd h (by decide)⟩
    · exact ⟨r12, b12.1, fun h => absurd h (by decide)⟩
  have z18 := k (i := 7) (b := x + 18) y7.1 (by omega) (by omega)
  have b19 : ObAt 2 M13 (x + 19) := ob (W7.nx y7.1 F7 (by omega) (by decide)) (by decide)
  have vx : vi M12 x = (fun _ => 0) := y0.1.2.2.1.trans z0
  have vx2 : ∀ k, k ≠ 14 → vi M13 x k = 0 := fun k hk => by rw [e13, vi_seti, if_neg (fun z => hk z.2), vx]
  have z1 := k (i := 1) (b := x + 1) y1.1 (by omega) (by omega)
  have z3 := k (i := 2) (b := x + 3) y2.1 (by omega) (by omega)
  have z7 := k (i := 2) (b := x + 7) y2.1 (by omega) (by omega)
  have z8 := k (i := 2) (b := x + 8) y2.1 (by omega) (by omega)
  have z9 := k (i := 2) (b := x + 9) y2.1 (by omega) (by omega)
  have zc := k (i := 3) (b := x + 12) y3.1 (by omega) (by omega)
  have z46 := k (i := 11) (b := x + 46) y11.1 (by omega) (by omega)
  have z50 := k (i := 12) (b := x + 50) y12.1 (by omega) (by omega)
  refine ⟨⟨ob11, b1, b2, b6, z18.2.2.1.trans B7, b8, b9, b10, b11, b12⟩, F13, by rw [g.2.2.1]; exact n12, ⟨z18.2.2.1.trans B7, by rw [z18.2.1]; exact V7, b1, by rw [z18.2.1]; exact L7, b19⟩, ?_, ⟨?_, ?_, ?_⟩, ⟨?_, ?_, ?_⟩, ?_, ⟨vx2 12 (by decide), vx2 13 (by decide), ?_⟩, ?_, ?_⟩
  · rw [z1.1]; exact V1 1 (by decide)
  · rw [z3.1]; exact V2 1 (by decide)
  · rw [z3.1]; exact V2 3 (by decide)
  · rw [z3.1]; exact V2 6 (by decide)
  · rw [z7.1]; exact (Z2 (x + 7) (by omega) (by omega)).1
  · rw [z8.2.1]; exact (Z2 (x + 8) (by omega) (by omega)).2
  · rw [z9.1]; exact (Z2 (x + 9) (by omega) (by omega)).1
  · rw [zc.2.1]; exact V3
  · rw [e13, vi_seti, if_pos ⟨rfl, rfl⟩]
  · rw [z46.1]; exact U11 (0, 0, 0) (List.mem_of_getElem? (i := 0) rfl) rfl
  · rw [z50.1]; exact U12 (0, 0, 0) (List.mem_of_getElem? (i := 0) rfl) rfl
