/-! CONSTRUCTORS that make arrays: by program (wip/tools/initk.py) -/
def l_X0 : List (Nat × Nat × Nat) := [(0, 15, 400), (2, 15, 401), (3, 15, 401), (4, 15, 200), (5, 19, 201), (6, 15, 64), (7, 19, 12), (8, 15, 12), (9, 19, 12), (10, 15, 12)]
theorem ki_X0 {G : GT} {d o : Nat} {M0 : Mem} {Q : Mem → Prop} (O0 : mK M0 o = 1) (F0 : frM M0) (h0 : o < mN M0) (hq : Q (bld o l_X0 M0)) : CV G (d + 1) 0 [.ref o] M0 Q := by
  refine i_X0 O0 F0 ?_
  refine i_X0_4 O0 F0 ⟨by decide, by decide, fun N e M1 e1 => ?_⟩
  replace e1 : M1 = bst o (0, 15, 400) M0 := by rw [e1, e]; rfl
  obtain ⟨O1, F1, h1⟩ := bst_ok O0 F0 h0 e1
  refine i_X0_13 O1 F1 ⟨by decide, by decide, fun N e M2 e2 => ?_⟩
  replace e2 : M2 = bst o (2, 15, 401) M1 := by rw [e2, e]; rfl
  obtain ⟨O2, F2, h2⟩ := bst_ok O1 F1 h1 e2
  refine i_X0_22 O2 F2 ⟨by decide, by decide, fun N e M3 e3 => ?_⟩
  replace e3 : M3 = bst o (3, 15, 401) M2 := by rw [e3, e]; rfl
  obtain ⟨O3, F3, h3⟩ := bst_ok O2 F2 h2 e3
  refine i_X0_31 O3 F3 ⟨by decide, by decide, fun N e M4 e4 => ?_⟩
  replace e4 : M4 = bst o (4, 15, 200) M3 := by rw [e4, e]; rfl
  obtain ⟨O4, F4, h4⟩ := bst_ok O3 F3 h3 e4
  refine i_X0_40 O4 F4 ⟨by decide, by decide, fun N e M5 e5 => ?_⟩
  replace e5 : M5 = bst o (5, 19, 201) M4 := by rw [e5, e]; rfl
  obtain ⟨O5, F5, h5⟩ := bst_ok O4 F4 h4 e5
  refine i_X0_50 O5 F5 ⟨by decide, by decide, fun N e M6 e6 => ?_⟩
  replace e6 : M6 = bst o (6, 15, 64) M5 := by rw [e6, e]; rfl
  obtain ⟨O6, F6, h6⟩ := bst_ok O5 F5 h5 e6
  refine i_X0_58 O6 F6 ⟨by decide, by decide, fun N e M7 e7 => ?_⟩
  replace e7 : M7 = bst o (7, 19, 12) M6 := by rw [e7, e]; rfl
  obtain ⟨O7, F7, h7⟩ := bst_ok O6 F6 h6 e7
  refine i_X0_67 O7 F7 ⟨by decide, by decide, fun N e M8 e8 => ?_⟩
  replace e8 : M8 = bst o (8, 15, 12) M7 := by rw [e8, e]; rfl
  obtain ⟨O8, F8, h8⟩ := bst_ok O7 F7 h7 e8
  refine i_X0_75 O8 F8 ⟨by decide, by decide, fun N e M9 e9 => ?_⟩
  replace e9 : M9 = bst o (9, 19, 12) M8 := by rw [e9, e]; rfl
  obtain ⟨O9, F9, h9⟩ := bst_ok O8 F8 h8 e9
  refine i_X0_84 O9 F9 ⟨by decide, by decide, fun N e M10 e10 => ?_⟩
  replace e10 : M10 = bst o (10, 15, 12) M9 := by rw [e10, e]; rfl
  obtain ⟨O10, F10, h10⟩ := bst_ok O9 F9 h9 e10
  refine i_X0_92 O10 F10 ?_
  rw [e10, e9, e8, e7, e6, e5, e4, e3, e2, e1]
  exact hq
theorem tb_X0 : obTab 0 = (arrs l_X0).mapIdx (fun i e => (e.1, i + 1, e.2.1, e.2.2)) := by decide
theorem nd_X0 : (l_X0.map (fun e => e.1)).Nodup := by decide
def l_X1 : List (Nat × Nat × Nat) := [(0, 0, 0), (3, 15, 400), (4, 16, 2000), (5, 15, 201)]
theorem ki_X1 {G : GT} {d o : Nat} {M0 : Mem} {Q : Mem → Prop} (O0 : mK M0 o = 2) (F0 : frM M0) (h0 : o < mN M0) (hq : Q (bld o l_X1 M0)) : CV G (d + 1) 14 [.ref o] M0 Q := by
  refine i_X1 O0 F0 ?_
  refine i_X1_4 O0 F0 (fun M1 e1 => ?_)
  replace e1 : M1 = bst o (0, 0, 0) M0 := by rw [e1]; rfl
  obtain ⟨O1, F1, h1⟩ := bst_ok O0 F0 h0 e1
  refine i_X1_9 O1 F1 ⟨by decide, by decide, fun N e M2 e2 => ?_⟩
  replace e2 : M2 = bst o (3, 15, 400) M1 := by rw [e2, e]; rfl
  obtain ⟨O2, F2, h2⟩ := bst_ok O1 F1 h1 e2
  refine i_X1_18 O2 F2 ⟨by decide, by decide, fun N e M3 e3 => ?_⟩
  replace e3 : M3 = bst o (4, 16, 2000) M2 := by rw [e3, e]; rfl
  obtain ⟨O3, F3, h3⟩ := bst_ok O2 F2 h2 e3
  refine i_X1_27 O3 F3 ⟨by decide, by decide, fun N e M4 e4 => ?_⟩
  replace e4 : M4 = bst o (5, 15, 201) M3 := by rw [e4, e]; rfl
  obtain ⟨O4, F4, h4⟩ := bst_ok O3 F3 h3 e4
  refine i_X1_36 O4 F4 ?_
  rw [e4, e3, e2, e1]
  exact hq
theorem tb_X1 : obTab 1 = (arrs l_X1).mapIdx (fun i e => (e.1, i + 1, e.2.1, e.2.2)) := by decide
theorem nd_X1 : (l_X1.map (fun e => e.1)).Nodup := by decide
def l_X2 : List (Nat × Nat × Nat) := [(0, 15, 400), (2, 15, 12), (3, 15, 12), (5, 16, 7), (6, 16, 64)]
theorem ki_X2 {G : GT} {d o : Nat} {M0 : Mem} {Q : Mem → Prop} (O0 : mK M0 o = 3) (F0 : frM M0) (h0 : o < mN M0) (hq : Q (bld o l_X2 M0)) : CV G (d + 1) 20 [.ref o] M0 Q := by
  refine i_X2 O0 F0 ?_
  refine i_X2_4 O0 F0 ⟨by decide, by decide, fun N e M1 e1 => ?_⟩
  replace e1 : M1 = bst o (0, 15, 400) M0 := by rw [e1, e]; rfl
  obtain ⟨O1, F1, h1⟩ := bst_ok O0 F0 h0 e1
  refine i_X2_13 O1 F1 ⟨by decide, by decide, fun N e M2 e2 => ?_⟩
  replace e2 : M2 = bst o (2, 15, 12) M1 := by rw [e2, e]; rfl
  obtain ⟨O2, F2, h2⟩ := bst_ok O1 F1 h1 e2
  refine i_X2_21 O2 F2 ⟨by decide, by decide, fun N e M3 e3 => ?_⟩
  replace e3 : M3 = bst o (3, 15, 12) M2 := by rw [e3, e]; rfl
  obtain ⟨O3, F3, h3⟩ := bst_ok O2 F2 h2 e3
  refine i_X2_29 O3 F3 ⟨by decide, by decide, fun N e M4 e4 => ?_⟩
  replace e4 : M4 = bst o (5, 16, 7) M3 := by rw [e4, e]; rfl
  obtain ⟨O4, F4, h4⟩ := bst_ok O3 F3 h3 e4
  refine i_X2_37 O4 F4 ⟨by decide, by decide, fun N e M5 e5 => ?_⟩
  replace e5 : M5 = bst o (6, 16, 64) M4 := by rw [e5, e]; rfl
  obtain ⟨O5, F5, h5⟩ := bst_ok O4 F4 h4 e5
  refine i_X2_45 O5 F5 ?_
  rw [e5, e4, e3, e2, e1]
  exact hq
theorem tb_X2 : obTab 2 = (arrs l_X2).mapIdx (fun i e => (e.1, i + 1, e.2.1, e.2.2)) := by decide
theorem nd_X2 : (l_X2.map (fun e => e.1)).Nodup := by decide
def l_X4 : List (Nat × Nat × Nat) := [(1, 15, 400), (2, 15, 400), (3, 15, 400), (5, 15, 400)]
theorem ki_X4 {G : GT} {d o : Nat} {M0 : Mem} {Q : Mem → Prop} (O0 : mK M0 o = 5) (F0 : frM M0) (h0 : o < mN M0) (hq : Q (bld o l_X4 M0)) : CV G (d + 1) 39 [.ref o] M0 Q := by
  refine i_X4 O0 F0 ?_
  refine i_X4_4 O0 F0 ⟨by decide, by decide, fun N e M1 e1 => ?_⟩
  replace e1 : M1 = bst o (1, 15, 400) M0 := by rw [e1, e]; rfl
  obtain ⟨O1, F1, h1⟩ := bst_ok O0 F0 h0 e1
  refine i_X4_13 O1 F1 ⟨by decide, by decide, fun N e M2 e2 => ?_⟩
  replace e2 : M2 = bst o (2, 15, 400) M1 := by rw [e2, e]; rfl
  obtain ⟨O2, F2, h2⟩ := bst_ok O1 F1 h1 e2
  refine i_X4_22 O2 F2 ⟨by decide, by decide, fun N e M3 e3 => ?_⟩
  replace e3 : M3 = bst o (3, 15, 400) M2 := by rw [e3, e]; rfl
  obtain ⟨O3, F3, h3⟩ := bst_ok O2 F2 h2 e3
  refine i_X4_31 O3 F3 ⟨by decide, by decide, fun N e M4 e4 => ?_⟩
  replace e4 : M4 = bst o (5, 15, 400) M3 := by rw [e4, e]; rfl
  obtain ⟨O4, F4, h4⟩ := bst_ok O3 F3 h3 e4
  refine i_X4_40 O4 F4 ?_
  rw [e4, e3, e2, e1]
  exact hq
theorem tb_X4 : obTab 4 = (arrs l_X4).mapIdx (fun i e => (e.1, i + 1, e.2.1, e.2.2)) := by decide
theorem nd_X4 : (l_X4.map (fun e => e.1)).Nodup := by decide
def l_X6 : List (Nat × Nat × Nat) := [(0, 19, 16), (2, 15, 20)]
theorem ki_X6 {G : GT} {d o : Nat} {M0 : Mem} {Q : Mem → Prop} (O0 : mK M0 o = 7) (F0 : frM M0) (h0 : o < mN M0) (hq : Q (bld o l_X6 M0)) : CV G (d + 1) 58 [.ref o] M0 Q := by
  refine i_X6 O0 F0 ?_
  refine i_X6_4 O0 F0 ⟨by decide, by decide, fun N e M1 e1 => ?_⟩
  replace e1 : M1 = bst o (0, 19, 16) M0 := by rw [e1, e]; rfl
  obtain ⟨O1, F1, h1⟩ := bst_ok O0 F0 h0 e1
  refine i_X6_13 O1 F1 ⟨by decide, by decide, fun N e M2 e2 => ?_⟩
  replace e2 : M2 = bst o (2, 15, 20) M1 := by rw [e2, e]; rfl
  obtain ⟨O2, F2, h2⟩ := bst_ok O1 F1 h1 e2
  refine i_X6_21 O2 F2 ?_
  rw [e2, e1]
  exact hq
theorem tb_X6 : obTab 6 = (arrs l_X6).mapIdx (fun i e => (e.1, i + 1, e.2.1, e.2.2)) := by decide
theorem nd_X6 : (l_X6.map (fun e => e.1)).Nodup := by decide
def l_X7 : List (Nat × Nat × Nat) := [(0, 0, 0), (5, 15, 5025), (6, 15, 201), (7, 15, 201), (8, 15, 201)]
theorem ki_X7 {G : GT} {d o : Nat} {M0 : Mem} {Q : Mem → Prop} (O0 : mK M0 o = 8) (F0 : frM M0) (h0 : o < mN M0) (hq : Q (bld o l_X7 M0)) : CV G (d + 1) 66 [.ref o] M0 Q := by
  refine i_X7 O0 F0 ?_
  refine i_X7_4 O0 F0 (fun M1 e1 => ?_)
  replace e1 : M1 = bst o (0, 0, 0) M0 := by rw [e1]; rfl
  obtain ⟨O1, F1, h1⟩ := bst_ok O0 F0 h0 e1
  refine i_X7_9 O1 F1 ⟨by decide, by decide, fun N e M2 e2 => ?_⟩
  replace e2 : M2 = bst o (5, 15, 5025) M1 := by rw [e2, e]; rfl
  obtain ⟨O2, F2, h2⟩ := bst_ok O1 F1 h1 e2
  refine i_X7_18 O2 F2 ⟨by decide, by decide, fun N e M3 e3 => ?_⟩
  replace e3 : M3 = bst o (6, 15, 201) M2 := by rw [e3, e]; rfl
  obtain ⟨O3, F3, h3⟩ := bst_ok O2 F2 h2 e3
  refine i_X7_27 O3 F3 ⟨by decide, by decide, fun N e M4 e4 => ?_⟩
  replace e4 : M4 = bst o (7, 15, 201) M3 := by rw [e4, e]; rfl
  obtain ⟨O4, F4, h4⟩ := bst_ok O3 F3 h3 e4
  refine i_X7_36 O4 F4 ⟨by decide, by decide, fun N e M5 e5 => ?_⟩
  replace e5 : M5 = bst o (8, 15, 201) M4 := by rw [e5, e]; rfl
  obtain ⟨O5, F5, h5⟩ := bst_ok O4 F4 h4 e5
  refine i_X7_45 O5 F5 ?_
  rw [e5, e4, e3, e2, e1]
  exact hq
theorem tb_X7 : obTab 7 = (arrs l_X7).mapIdx (fun i e => (e.1, i + 1, e.2.1, e.2.2)) := by decide
theorem nd_X7 : (l_X7.map (fun e => e.1)).Nodup := by decide
def l_X8 : List (Nat × Nat × Nat) := [(0, 15, 200), (2, 15, 200), (4, 15, 4), (5, 15, 4), (7, 19, 64), (8, 15, 7), (9, 15, 64), (10, 16, 64)]
theorem ki_X8 {G : GT} {d o : Nat} {M0 : Mem} {Q : Mem → Prop} (O0 : mK M0 o = 9) (F0 : frM M0) (h0 : o < mN M0) (hq : Q (bld o l_X8 M0)) : CV G (d + 1) 73 [.ref o] M0 Q := by
  refine i_X8 O0 F0 ?_
  refine i_X8_4 O0 F0 ⟨by decide, by decide, fun N e M1 e1 => ?_⟩
  replace e1 : M1 = bst o (0, 15, 200) M0 := by rw [e1, e]; rfl
  obtain ⟨O1, F1, h1⟩ := bst_ok O0 F0 h0 e1
  refine i_X8_13 O1 F1 ⟨by decide, by decide, fun N e M2 e2 => ?_⟩
  replace e2 : M2 = bst o (2, 15, 200) M1 := by rw [e2, e]; rfl
  obtain ⟨O2, F2, h2⟩ := bst_ok O1 F1 h1 e2
  refine i_X8_22 O2 F2 ⟨by decide, by decide, fun N e M3 e3 => ?_⟩
  replace e3 : M3 = bst o (4, 15, 4) M2 := by rw [e3, e]; rfl
  obtain ⟨O3, F3, h3⟩ := bst_ok O2 F2 h2 e3
  refine i_X8_29 O3 F3 ⟨by decide, by decide, fun N e M4 e4 => ?_⟩
  replace e4 : M4 = bst o (5, 15, 4) M3 := by rw [e4, e]; rfl
  obtain ⟨O4, F4, h4⟩ := bst_ok O3 F3 h3 e4
  refine i_X8_36 O4 F4 ⟨by decide, by decide, fun N e M5 e5 => ?_⟩
  replace e5 : M5 = bst o (7, 19, 64) M4 := by rw [e5, e]; rfl
  obtain ⟨O5, F5, h5⟩ := bst_ok O4 F4 h4 e5
  refine i_X8_45 O5 F5 ⟨by decide, by decide, fun N e M6 e6 => ?_⟩
  replace e6 : M6 = bst o (8, 15, 7) M5 := by rw [e6, e]; rfl
  obtain ⟨O6, F6, h6⟩ := bst_ok O5 F5 h5 e6
  refine i_X8_53 O6 F6 ⟨by decide, by decide, fun N e M7 e7 => ?_⟩
  replace e7 : M7 = bst o (9, 15, 64) M6 := by rw [e7, e]; rfl
  obtain ⟨O7, F7, h7⟩ := bst_ok O6 F6 h6 e7
  refine i_X8_61 O7 F7 ⟨by decide, by decide, fun N e M8 e8 => ?_⟩
  replace e8 : M8 = bst o (10, 16, 64) M7 := by rw [e8, e]; rfl
  obtain ⟨O8, F8, h8⟩ := bst_ok O7 F7 h7 e8
  refine i_X8_69 O8 F8 ?_
  rw [e8, e7, e6, e5, e4, e3, e2, e1]
  exact hq
theorem tb_X8 : obTab 8 = (arrs l_X8).mapIdx (fun i e => (e.1, i + 1, e.2.1, e.2.2)) := by decide
theorem nd_X8 : (l_X8.map (fun e => e.1)).Nodup := by decide
def l_X9 : List (Nat × Nat × Nat) := [(0, 15, 400)]
theorem ki_X9 {G : GT} {d o : Nat} {M0 : Mem} {Q : Mem → Prop} (O0 : mK M0 o = 10) (F0 : frM M0) (h0 : o < mN M0) (hq : Q (bld o l_X9 M0)) : CV G (d + 1) 87 [.ref o] M0 Q := by
  refine i_X9 O0 F0 ?_
  refine i_X9_4 O0 F0 ⟨by decide, by decide, fun N e M1 e1 => ?_⟩
  replace e1 : M1 = bst o (0, 15, 400) M0 := by rw [e1, e]; rfl
  obtain ⟨O1, F1, h1⟩ := bst_ok O0 F0 h0 e1
  refine i_X9_13 O1 F1 ?_
  rw [e1]
  exact hq
theorem tb_X9 : obTab 9 = (arrs l_X9).mapIdx (fun i e => (e.1, i + 1, e.2.1, e.2.2)) := by decide
theorem nd_X9 : (l_X9.map (fun e => e.1)).Nodup := by decide
def l_X10 : List (Nat × Nat × Nat) := [(0, 16, 64), (1, 15, 64), (2, 15, 400), (4, 0, 0), (5, 0, 0), (7, 19, 64)]
theorem ki_X10 {G : GT} {d o : Nat} {M0 : Mem} {Q : Mem → Prop} (O0 : mK M0 o = 11) (F0 : frM M0) (h0 : o < mN M0) (hq : Q (bld o l_X10 M0)) : CV G (d + 1) 98 [.ref o] M0 Q := by
  refine i_X10 O0 F0 ?_
  refine i_X10_4 O0 F0 ⟨by decide, by decide, fun N e M1 e1 => ?_⟩
  replace e1 : M1 = bst o (0, 16, 64) M0 := by rw [e1, e]; rfl
  obtain ⟨O1, F1, h1⟩ := bst_ok O0 F0 h0 e1
  refine i_X10_12 O1 F1 ⟨by decide, by decide, fun N e M2 e2 => ?_⟩
  replace e2 : M2 = bst o (1, 15, 64) M1 := by rw [e2, e]; rfl
  obtain ⟨O2, F2, h2⟩ := bst_ok O1 F1 h1 e2
  refine i_X10_20 O2 F2 ⟨by decide, by decide, fun N e M3 e3 => ?_⟩
  replace e3 : M3 = bst o (2, 15, 400) M2 := by rw [e3, e]; rfl
  obtain ⟨O3, F3, h3⟩ := bst_ok O2 F2 h2 e3
  refine i_X10_29 O3 F3 (fun M4 e4 => ?_)
  replace e4 : M4 = bst o (4, 0, 0) M3 := by rw [e4]; rfl
  obtain ⟨O4, F4, h4⟩ := bst_ok O3 F3 h3 e4
  refine i_X10_34 O4 F4 (fun M5 e5 => ?_)
  replace e5 : M5 = bst o (5, 0, 0) M4 := by rw [e5]; rfl
  obtain ⟨O5, F5, h5⟩ := bst_ok O4 F4 h4 e5
  refine i_X10_39 O5 F5 ⟨by decide, by decide, fun N e M6 e6 => ?_⟩
  replace e6 : M6 = bst o (7, 19, 64) M5 := by rw [e6, e]; rfl
  obtain ⟨O6, F6, h6⟩ := bst_ok O5 F5 h5 e6
  refine i_X10_48 O6 F6 ?_
  rw [e6, e5, e4, e3, e2, e1]
  exact hq
theorem tb_X10 : obTab 10 = (arrs l_X10).mapIdx (fun i e => (e.1, i + 1, e.2.1, e.2.2)) := by decide
theorem nd_X10 : (l_X10.map (fun e => e.1)).Nodup := by decide
def l_X12 : List (Nat × Nat × Nat) := [(1, 15, 3), (2, 15, 200), (3, 15, 200), (4, 15, 4), (5, 15, 4), (6, 15, 7), (7, 15, 64), (8, 15, 64), (9, 15, 64), (10, 15, 64), (11, 15, 64), (12, 15, 1280), (22, 1, 7), (23, 14, 400), (24, 15, 1200), (25, 15, 1200), (26, 15, 4), (27, 15, 48), (28, 15, 48), (29, 15, 48), (30, 15, 402), (31, 16, 7), (32, 16, 300), (33, 16, 64), (34, 15, 64), (35, 17, 64), (36, 17, 64), (37, 15, 401), (38, 15, 401), (39, 15, 200), (40, 15, 2000), (41, 17, 64), (42, 17, 200), (45, 15, 400), (46, 15, 401), (47, 15, 401), (48, 15, 401), (49, 15, 401), (50, 15, 400), (53, 17, 401), (55, 15, 40401), (56, 15, 200), (62, 15, 12), (63, 15, 12), (64, 15, 8400), (65, 17, 4)]
theorem ki_X12 {G : GT} {d o : Nat} {M0 : Mem} {Q : Mem → Prop} (O0 : mK M0 o = 13) (F0 : frM M0) (h0 : o < mN M0) (hq : Q (bld o l_X12 M0)) : CV G (d + 1) 154 [.ref o] M0 Q := by
  refine i_X12 O0 F0 ?_
  refine i_X12_4 O0 F0 ⟨by decide, by decide, fun N e M1 e1 => ?_⟩
  replace e1 : M1 = bst o (1, 15, 3) M0 := by rw [e1, e]; rfl
  obtain ⟨O1, F1, h1⟩ := bst_ok O0 F0 h0 e1
  refine i_X12_11 O1 F1 ⟨by decide, by decide, fun N e M2 e2 => ?_⟩
  replace e2 : M2 = bst o (2, 15, 200) M1 := by rw [e2, e]; rfl
  obtain ⟨O2, F2, h2⟩ := bst_ok O1 F1 h1 e2
  refine i_X12_20 O2 F2 ⟨by decide, by decide, fun N e M3 e3 => ?_⟩
  replace e3 : M3 = bst o (3, 15, 200) M2 := by rw [e3, e]; rfl
  obtain ⟨O3, F3, h3⟩ := bst_ok O2 F2 h2 e3
  refine i_X12_29 O3 F3 ⟨by decide, by decide, fun N e M4 e4 => ?_⟩
  replace e4 : M4 = bst o (4, 15, 4) M3 := by rw [e4, e]; rfl
  obtain ⟨O4, F4, h4⟩ := bst_ok O3 F3 h3 e4
  refine i_X12_36 O4 F4 ⟨by decide, by decide, fun N e M5 e5 => ?_⟩
  replace e5 : M5 = bst o (5, 15, 4) M4 := by rw [e5, e]; rfl
  obtain ⟨O5, F5, h5⟩ := bst_ok O4 F4 h4 e5
  refine i_X12_43 O5 F5 ⟨by decide, by decide, fun N e M6 e6 => ?_⟩
  replace e6 : M6 = bst o (6, 15, 7) M5 := by rw [e6, e]; rfl
  obtain ⟨O6, F6, h6⟩ := bst_ok O5 F5 h5 e6
  refine i_X12_51 O6 F6 ⟨by decide, by decide, fun N e M7 e7 => ?_⟩
  replace e7 : M7 = bst o (7, 15, 64) M6 := by rw [e7, e]; rfl
  obtain ⟨O7, F7, h7⟩ := bst_ok O6 F6 h6 e7
  refine i_X12_59 O7 F7 ⟨by decide, by decide, fun N e M8 e8 => ?_⟩
  replace e8 : M8 = bst o (8, 15, 64) M7 := by rw [e8, e]; rfl
  obtain ⟨O8, F8, h8⟩ := bst_ok O7 F7 h7 e8
  refine i_X12_67 O8 F8 ⟨by decide, by decide, fun N e M9 e9 => ?_⟩
  replace e9 : M9 = bst o (9, 15, 64) M8 := by rw [e9, e]; rfl
  obtain ⟨O9, F9, h9⟩ := bst_ok O8 F8 h8 e9
  refine i_X12_75 O9 F9 ⟨by decide, by decide, fun N e M10 e10 => ?_⟩
  replace e10 : M10 = bst o (10, 15, 64) M9 := by rw [e10, e]; rfl
  obtain ⟨O10, F10, h10⟩ := bst_ok O9 F9 h9 e10
  refine i_X12_83 O10 F10 ⟨by decide, by decide, fun N e M11 e11 => ?_⟩
  replace e11 : M11 = bst o (11, 15, 64) M10 := by rw [e11, e]; rfl
  obtain ⟨O11, F11, h11⟩ := bst_ok O10 F10 h10 e11
  refine i_X12_91 O11 F11 ⟨by decide, by decide, fun N e M12 e12 => ?_⟩
  replace e12 : M12 = bst o (12, 15, 1280) M11 := by rw [e12, e]; rfl
  obtain ⟨O12, F12, h12⟩ := bst_ok O11 F11 h11 e12
  refine i_X12_100 O12 F12 (fun M13 e13 => ?_)
  replace e13 : M13 = bst o (22, 1, 7) M12 := by rw [e13]; rfl
  obtain ⟨O13, F13, h13⟩ := bst_ok O12 F12 h12 e13
  refine i_X12_106 O13 F13 ⟨by decide, by decide, fun N e M14 e14 => ?_⟩
  replace e14 : M14 = bst o (23, 14, 400) M13 := by rw [e14, e]; rfl
  obtain ⟨O14, F14, h14⟩ := bst_ok O13 F13 h13 e14
  refine i_X12_115 O14 F14 ⟨by decide, by decide, fun N e M15 e15 => ?_⟩
  replace e15 : M15 = bst o (24, 15, 1200) M14 := by rw [e15, e]; rfl
  obtain ⟨O15, F15, h15⟩ := bst_ok O14 F14 h14 e15
  refine i_X12_124 O15 F15 ⟨by decide, by decide, fun N e M16 e16 => ?_⟩
  replace e16 : M16 = bst o (25, 15, 1200) M15 := by rw [e16, e]; rfl
  obtain ⟨O16, F16, h16⟩ := bst_ok O15 F15 h15 e16
  refine i_X12_133 O16 F16 ⟨by decide, by decide, fun N e M17 e17 => ?_⟩
  replace e17 : M17 = bst o (26, 15, 4) M16 := by rw [e17, e]; rfl
  obtain ⟨O17, F17, h17⟩ := bst_ok O16 F16 h16 e17
  refine i_X12_140 O17 F17 ⟨by decide, by decide, fun N e M18 e18 => ?_⟩
  replace e18 : M18 = bst o (27, 15, 48) M17 := by rw [e18, e]; rfl
  obtain ⟨O18, F18, h18⟩ := bst_ok O17 F17 h17 e18
  refine i_X12_148 O18 F18 ⟨by decide, by decide, fun N e M19 e19 => ?_⟩
  replace e19 : M19 = bst o (28, 15, 48) M18 := by rw [e19, e]; rfl
  obtain ⟨O19, F19, h19⟩ := bst_ok O18 F18 h18 e19
  refine i_X12_156 O19 F19 ⟨by decide, by decide, fun N e M20 e20 => ?_⟩
  replace e20 : M20 = bst o (29, 15, 48) M19 := by rw [e20, e]; rfl
  obtain ⟨O20, F20, h20⟩ := bst_ok O19 F19 h19 e20
  refine i_X12_164 O20 F20 ⟨by decide, by decide, fun N e M21 e21 => ?_⟩
  replace e21 : M21 = bst o (30, 15, 402) M20 := by rw [e21, e]; rfl
  obtain ⟨O21, F21, h21⟩ := bst_ok O20 F20 h20 e21
  refine i_X12_173 O21 F21 ⟨by decide, by decide, fun N e M22 e22 => ?_⟩
  replace e22 : M22 = bst o (31, 16, 7) M21 := by rw [e22, e]; rfl
  obtain ⟨O22, F22, h22⟩ := bst_ok O21 F21 h21 e22
  refine i_X12_181 O22 F22 ⟨by decide, by decide, fun N e M23 e23 => ?_⟩
  replace e23 : M23 = bst o (32, 16, 300) M22 := by rw [e23, e]; rfl
  obtain ⟨O23, F23, h23⟩ := bst_ok O22 F22 h22 e23
  refine i_X12_190 O23 F23 ⟨by decide, by decide, fun N e M24 e24 => ?_⟩
  replace e24 : M24 = bst o (33, 16, 64) M23 := by rw [e24, e]; rfl
  obtain ⟨O24, F24, h24⟩ := bst_ok O23 F23 h23 e24
  refine i_X12_198 O24 F24 ⟨by decide, by decide, fun N e M25 e25 => ?_⟩
  replace e25 : M25 = bst o (34, 15, 64) M24 := by rw [e25, e]; rfl
  obtain ⟨O25, F25, h25⟩ := bst_ok O24 F24 h24 e25
  refine i_X12_206 O25 F25 ⟨by decide, by decide, fun N e M26 e26 => ?_⟩
  replace e26 : M26 = bst o (35, 17, 64) M25 := by rw [e26, e]; rfl
  obtain ⟨O26, F26, h26⟩ := bst_ok O25 F25 h25 e26
  refine i_X12_214 O26 F26 ⟨by decide, by decide, fun N e M27 e27 => ?_⟩
  replace e27 : M27 = bst o (36, 17, 64) M26 := by rw [e27, e]; rfl
  obtain ⟨O27, F27, h27⟩ := bst_ok O26 F26 h26 e27
  refine i_X12_222 O27 F27 ⟨by decide, by decide, fun N e M28 e28 => ?_⟩
  replace e28 : M28 = bst o (37, 15, 401) M27 := by rw [e28, e]; rfl
  obtain ⟨O28, F28, h28⟩ := bst_ok O27 F27 h27 e28
  refine i_X12_231 O28 F28 ⟨by decide, by decide, fun N e M29 e29 => ?_⟩
  replace e29 : M29 = bst o (38, 15, 401) M28 := by rw [e29, e]; rfl
  obtain ⟨O29, F29, h29⟩ := bst_ok O28 F28 h28 e29
  refine i_X12_240 O29 F29 ⟨by decide, by decide, fun N e M30 e30 => ?_⟩
  replace e30 : M30 = bst o (39, 15, 200) M29 := by rw [e30, e]; rfl
  obtain ⟨O30, F30, h30⟩ := bst_ok O29 F29 h29 e30
  refine i_X12_249 O30 F30 ⟨by decide, by decide, fun N e M31 e31 => ?_⟩
  replace e31 : M31 = bst o (40, 15, 2000) M30 := by rw [e31, e]; rfl
  obtain ⟨O31, F31, h31⟩ := bst_ok O30 F30 h30 e31
  refine i_X12_258 O31 F31 ⟨by decide, by decide, fun N e M32 e32 => ?_⟩
  replace e32 : M32 = bst o (41, 17, 64) M31 := by rw [e32, e]; rfl
  obtain ⟨O32, F32, h32⟩ := bst_ok O31 F31 h31 e32
  refine i_X12_266 O32 F32 ⟨by decide, by decide, fun N e M33 e33 => ?_⟩
  replace e33 : M33 = bst o (42, 17, 200) M32 := by rw [e33, e]; rfl
  obtain ⟨O33, F33, h33⟩ := bst_ok O32 F32 h32 e33
  refine i_X12_275 O33 F33 ⟨by decide, by decide, fun N e M34 e34 => ?_⟩
  replace e34 : M34 = bst o (45, 15, 400) M33 := by rw [e34, e]; rfl
  obtain ⟨O34, F34, h34⟩ := bst_ok O33 F33 h33 e34
  refine i_X12_284 O34 F34 ⟨by decide, by decide, fun N e M35 e35 => ?_⟩
  replace e35 : M35 = bst o (46, 15, 401) M34 := by rw [e35, e]; rfl
  obtain ⟨O35, F35, h35⟩ := bst_ok O34 F34 h34 e35
  refine i_X12_293 O35 F35 ⟨by decide, by decide, fun N e M36 e36 => ?_⟩
  replace e36 : M36 = bst o (47, 15, 401) M35 := by rw [e36, e]; rfl
  obtain ⟨O36, F36, h36⟩ := bst_ok O35 F35 h35 e36
  refine i_X12_302 O36 F36 ⟨by decide, by decide, fun N e M37 e37 => ?_⟩
  replace e37 : M37 = bst o (48, 15, 401) M36 := by rw [e37, e]; rfl
  obtain ⟨O37, F37, h37⟩ := bst_ok O36 F36 h36 e37
  refine i_X12_311 O37 F37 ⟨by decide, by decide, fun N e M38 e38 => ?_⟩
  replace e38 : M38 = bst o (49, 15, 401) M37 := by rw [e38, e]; rfl
  obtain ⟨O38, F38, h38⟩ := bst_ok O37 F37 h37 e38
  refine i_X12_320 O38 F38 ⟨by decide, by decide, fun N e M39 e39 => ?_⟩
  replace e39 : M39 = bst o (50, 15, 400) M38 := by rw [e39, e]; rfl
  obtain ⟨O39, F39, h39⟩ := bst_ok O38 F38 h38 e39
  refine i_X12_329 O39 F39 ⟨by decide, by decide, fun N e M40 e40 => ?_⟩
  replace e40 : M40 = bst o (53, 17, 401) M39 := by rw [e40, e]; rfl
  obtain ⟨O40, F40, h40⟩ := bst_ok O39 F39 h39 e40
  refine i_X12_338 O40 F40 ⟨by decide, by decide, fun N e M41 e41 => ?_⟩
  replace e41 : M41 = bst o (55, 15, 40401) M40 := by rw [e41, e]; rfl
  obtain ⟨O41, F41, h41⟩ := bst_ok O40 F40 h40 e41
  refine i_X12_346 O41 F41 ⟨by decide, by decide, fun N e M42 e42 => ?_⟩
  replace e42 : M42 = bst o (56, 15, 200) M41 := by rw [e42, e]; rfl
  obtain ⟨O42, F42, h42⟩ := bst_ok O41 F41 h41 e42
  refine i_X12_355 O42 F42 ⟨by decide, by decide, fun N e M43 e43 => ?_⟩
  replace e43 : M43 = bst o (62, 15, 12) M42 := by rw [e43, e]; rfl
  obtain ⟨O43, F43, h43⟩ := bst_ok O42 F42 h42 e43
  refine i_X12_363 O43 F43 ⟨by decide, by decide, fun N e M44 e44 => ?_⟩
  replace e44 : M44 = bst o (63, 15, 12) M43 := by rw [e44, e]; rfl
  obtain ⟨O44, F44, h44⟩ := bst_ok O43 F43 h43 e44
  refine i_X12_371 O44 F44 ⟨by decide, by decide, fun N e M45 e45 => ?_⟩
  replace e45 : M45 = bst o (64, 15, 8400) M44 := by rw [e45, e]; rfl
  obtain ⟨O45, F45, h45⟩ := bst_ok O44 F44 h44 e45
  refine i_X12_380 O45 F45 ⟨by decide, by decide, fun N e M46 e46 => ?_⟩
  replace e46 : M46 = bst o (65, 17, 4) M45 := by rw [e46, e]; rfl
  obtain ⟨O46, F46, h46⟩ := bst_ok O45 F45 h45 e46
  refine i_X12_387 O46 F46 ?_
  rw [e46, e45, e44, e43, e42, e41, e40, e39, e38, e37, e36, e35, e34, e33, e32, e31, e30, e29, e28, e27, e26, e25, e24, e23, e22, e21, e20, e19, e18, e17, e16, e15, e14, e13, e12, e11, e10, e9, e8, e7, e6, e5, e4, e3, e2, e1]
  exact hq
theorem nd_X12 : (l_X12.map (fun e => e.1)).Nodup := by decide
theorem tb_X12 : refTab = (arrs l_X12).mapIdx (fun i e => (e.1, i + 1, e.2.1, e.2.2)) := by decide
