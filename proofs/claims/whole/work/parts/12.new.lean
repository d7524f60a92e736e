/-! RULES: arrays of references, new cells -/
section
variable {G : GT} {d y pc : Nat} {ls : List (Nat × Value)} {st : List Value} {M : Mem} {Q : Option Value → Mem → Prop}
theorem elN_lt (K : Nat) : elN K < 13 := by unfold elN; (repeat' split) <;> omega
theorem at_aastore {a v : Nat} {i : Int32} (hd : decode (mCode y) pc = .ok (.aastore, 1)) (hk : 18 ≤ mK M a) (hk2 : mK M a ≤ 21) (hin : vp_in i (mA M a)) (hv : mK M v = elN (mK M a) + 1) (h1 : At G d y (pc + 1) ls st (setr M a i.toNatClampNeg (some v)) Q) : At G d y pc ls (.ref v :: .int i :: .ref a :: st) M Q := by
  refine At.stepM (M1 := setr M a i.toNatClampNeg (some v)) rfl rfl h1 (fun p e s m args below meth c0 R H locs cells slots la Qw C f1 f2 hP hS hl hw => ?_)
  obtain ⟨q0, hq0⟩ := ref_get hP hk
  obtain ⟨qk, hqk⟩ := obj_get hP.2.2.2 (elN_lt (mK M a)) hv
  have hK := C.2.2.2.2.2.1.1
  have hlt : i.toNatClampNeg < mA M a := Nat.not_le.mp fun q => hin (Or.inr q)
  have h0 : ¬ i < 0 := fun q => hin (Or.inl q)
  obtain ⟨r', hr', cellV, g1, g2, g3, -⟩ := hP.1 qk _ hqk
  have hcls := (hK.1 (elN (mK M a)) _ (vw_at (elN_lt (mK M a)))).2
  obtain ⟨kA, comp, k1, k2, k3, -⟩ := (hK.2 (mK M a - 14) _ (tys_ref hk hk2)).2
  have hcomp : comp = (gD G).1 (elN (mK M a)) := Option.some.inj (k3.symm.trans hcls.1)
  subst hcomp
  obtain ⟨kC, hkC, -⟩ := hcls.2
  refine W.aast C.1 C.2.1 (hP.1 q0 _ hq0) (fun q h => by cases h) (fun h => by cases h) k1 k2 rfl hkC ⟨h0, by show _ < (arrV _ _ _).slots.size; rw [arrV_size]; exact hlt⟩ g1 (fun q h => by rw [g3] at h; cases h) (by rw [g2]; exact hkC) (by rw [g2]; exact va_assign hcls) rfl rfl hd fun H1 e1 z oq => ?_
  obtain ⟨u1, u2⟩ := Pool.upd (M1 := setr M a i.toNatClampNeg (some v)) (k := i.toNatClampNeg) hP (by omega) rfl rfl (fun b hb => cellOf_congr rfl rfl rfl rfl (up2_nea hb)) (by
    rw [cellOf_ref (M := setr M a i.toNatClampNeg (some v)) hk]
    show H1[a]? = some (vp_cell _ _)
    refine Eq.trans e1 ?_
    show _ = some (vp_cell (gy G (mK M a)) (mA M a, .inr (.inr (.inr (.inr (up2 (vr M) a i.toNatClampNeg (some v) a))))))
    rw [up2_up, vp_cell_q, vp_cell_q, arrV_store]
    congr 2
    funext q
    by_cases hq : q = i.toNatClampNeg
    · subst hq; simp [updV, va_up, va_rf]
    · simp [updV, va_up, hq]) z oq hS
  exact hw H1 _ u1 u2
theorem at_aastoreN {a : Nat} {i : Int32} (hd : decode (mCode y) pc = .ok (.aastore, 1)) (hk : 18 ≤ mK M a) (hk2 : mK M a ≤ 21) (hin : vp_in i (mA M a)) (h1 : At G d y (pc + 1) ls st (setr M a i.toNatClampNeg none) Q) : At G d y pc ls (.null :: .int i :: .ref a :: st) M Q := by
  refine At.stepM (M1 := setr M a i.toNatClampNeg none) rfl rfl h1 (fun p e s m args below meth c0 R H locs cells slots la Qw C f1 f2 hP hS hl hw => ?_)
  obtain ⟨q0, hq0⟩ := ref_get hP hk
  refine va_WaastN (C := clsN (elN (mK M a))) C.1 C.2.1 (hP.1 q0 _ hq0) ((C.2.2.2.2.2.1.1.2 (mK M a - 14) _ (tys_ref hk hk2)).1 (mA M a) (fun j => va_rf (vr M a j))) (fun h => by cases h) (by show ¬ (i < 0 ∨ (arrV _ _ _).slots.size ≤ _); rw [arrV_size]; exact hin) rfl rfl hd fun H1 e1 z oq => ?_
  obtain ⟨u1, u2⟩ := Pool.upd (M1 := setr M a i.toNatClampNeg none) (k := i.toNatClampNeg) hP (by omega) rfl rfl (fun b hb => cellOf_congr rfl rfl rfl rfl (up2_nea hb)) (by
    rw [cellOf_ref (M := setr M a i.toNatClampNeg none) hk]
    show H1[a]? = some (vp_cell _ _)
    refine Eq.trans e1 ?_
    show _ = some (vp_cell (gy G (mK M a)) (mA M a, .inr (.inr (.inr (.inr (up2 (vr M) a i.toNatClampNeg none a))))))
    rw [up2_up, vp_cell_q, vp_cell_q, arrV_store]
    congr 2
    funext q
    by_cases hq : q = i.toNatClampNeg
    · subst hq; simp [updV, va_up, va_rf]
    · simp [updV, va_up, hq]) z oq hS
  exact hw H1 _ u1 u2
/-- the memory behind a new cell -/
theorem mnew_oth {K n b : Nat} (hb : b ≠ mN M) : cellOf G (mnew M K n) b = cellOf G M b := cellOf_congr (up1_ne hb) (up1_ne hb) (up1_ne hb) (up1_ne hb) (up1_ne hb)
theorem mnew_K {K n : Nat} (b : Nat) : mK (mnew M K n) b = if b = mN M then mK (mnew M K n) (mN M) else mK M b := by
  by_cases hb : b = mN M
  · rw [if_pos hb, hb]
  · rw [if_neg hb]; exact up1_ne hb
theorem mnew_Ks {K n : Nat} : mK (mnew M K n) (mN M) = K := up1_same _ _ _
theorem mnew_As {K n : Nat} : mA (mnew M K n) (mN M) = n := up1_same _ _ _
theorem mnew_is {K n : Nat} : vi (mnew M K n) (mN M) = fun _ => 0 := up1_same _ _ _
theorem mnew_ls {K n : Nat} : vl (mnew M K n) (mN M) = fun _ => 0 := up1_same _ _ _
theorem mnew_rs {K n : Nat} : vr (mnew M K n) (mN M) = fun _ => none := up1_same _ _ _
theorem deft {c k : Nat} (hc : c < 13) (hk : k < nF c) : tyT c k = .int ∨ tyT c k = .boolean ∨ tyT c k = .long ∨ ((∃ n, tyT c k = .object n) ∨ ∃ t, tyT c k = .array t) := by
  have key : ∀ c, c < 13 → ∀ k, k < nF c → (match tyT c k with | .int => true | .boolean => true | .long => true | .object _ => true | .array _ => true | _ => false) = true := by decide +kernel
  have h := key c hc k hk
  generalize tyT c k = t at h ⊢
  cases t <;> first | (simp at h; done) | simp
theorem at_new {idx c : Nat} (hd : decode (mCode y) pc = .ok (.new idx, 3)) (hq : (mOwn y, idx, c) ∈ newTab) (h1 : At G d y (pc + 3) ls (.ref (mN M) :: st) (mnew M (c + 1) (nF c)) Q) : At G d y pc ls st M Q := by
  obtain ⟨o1, o2⟩ := newTab_ok _ hq
  dsimp only at o1 o2
  refine At.stepN (M1 := mnew M (c + 1) (nF c)) (n := nF c) rfl rfl h1 (fun p e s m args below meth c0 R H locs cells slots la Qw C hP hS hl k1 k2 hw => ?_)
  have hts := C.2.2.2.2.1
  have hK := C.2.2.2.2.2.1.1
  have hc := vw_at o1
  have hKn := hK.1 c _ hc
  refine W.newcK C.1 C.2.1 C.2.2.2.1 (hts _ o2) (hts _ (inst_ok o1)) (hts _ (ini_ok (by omega))) rfl hd k1 k2 hKn.2.1 hP.2.2.1 fun H1 kC hkC e1 z1 oo => ?_
  have o3 : ∀ q, q < H.size → H1[q]? = H[q]? := fun q hq => oo q (by rw [← hP.2.2.1]; exact hq)
  have hob := (u_born (tyT c) hts (in_ok o1) hKn hkC e1 (ty_ok o1)).to (V' := vp_V (fvs c (mnew M (c + 1) (nF c)) (mN M))) (fun j hj => ?_)
  · refine hw H1 _ (Pool.push hP rfl mnew_K (by rw [mnew_Ks]; omega) (fun b hb => mnew_oth hb) (cellOf_obj o1 mnew_Ks) ⟨_, hc, hob⟩ o3 (by rw [z1, hP.2.2.1])) ⟨Nat.le_trans hS.1 (by rw [z1, hP.2.2.1]; omega), fun x g1 g2 => (o3 x (Nat.lt_of_lt_of_le g1 hS.1)).trans (hS.2.1 x g1 g2), hS.2.2⟩
  · show defaultValue (tyT c j) = _
    unfold vp_V
    rw [List.getD_eq_getElem?_getD, fvs_at hj]
    show defaultValue (tyT c j) = fval (tyT c j) _ _ _
    have hx := deft o1 hj
    generalize tyT c j = t at hx ⊢
    rcases hx with rfl | rfl | rfl | ⟨n, rfl⟩ | ⟨n, rfl⟩
    · show _ = Value.int (vi _ _ _); rw [mnew_is]; rfl
    · show _ = Value.int (vi _ _ _); rw [mnew_is]; rfl
    · show _ = Value.long (vl _ _ _); rw [mnew_ls]; rfl
    · show _ = va_rf (vr _ _ _); rw [mnew_rs]; rfl
    · show _ = va_rf (vr _ _ _); rw [mnew_rs]; rfl
def arK (t : ArrayType) : Nat := match t with
  | .byte => 14 | .int => 15 | .long => 16 | .boolean => 17 | _ => 0
theorem at_newarray {t : ArrayType} {n : Int32} (hd : decode (mCode y) pc = .ok (.newarray t, 2)) (hk : arK t ≠ 0) (hn : ¬ n < 0) (hm : n.toNatClampNeg ≤ 1000000) (h1 : At G d y (pc + 2) ls (.ref (mN M) :: st) (mnew M (arK t) n.toNatClampNeg) Q) : At G d y pc ls (.int n :: st) M Q := by
  refine At.stepN (M1 := mnew M (arK t) n.toNatClampNeg) (n := n.toNatClampNeg) rfl rfl h1 (fun p e s m args below meth c0 R H locs cells slots la Qw C hP hS hl k1 k2 hw => ?_)
  have hts := C.2.2.2.2.1
  have hK := C.2.2.2.2.2.1.1
  have harr : Cond.arrayClass (newarray.typeOf t) ∈ lw_good := by
    cases t <;> first | exact absurd rfl hk | exact arr_int | exact arr_long | exact arr_byte | exact arr_boolean
  refine va_newaK C.1 C.2.1 (hts _ harr) rfl hd rfl hn rfl (by cases t <;> simp only [newarray.typeOf, componentBytes] <;> omega) k1 k2 hP.2.2.1 fun H1 cA e1 z1 oo hAr hNm => ?_
  have o3 : ∀ q, q < H.size → H1[q]? = H[q]? := fun q hq => oo q (by rw [← hP.2.2.1]; exact hq)
  have hcy : cA = gy G (arK t) := by
    cases t
    case byte => exact Option.some.inj (hNm.symm.trans (hK.2 0 _ rfl).2)
    case int => exact Option.some.inj (hNm.symm.trans (hK.2 1 _ rfl).2)
    case long => exact Option.some.inj (hNm.symm.trans (hK.2 2 _ rfl).2)
    case boolean => exact Option.some.inj (hNm.symm.trans (hK.2 3 _ rfl).2)
    all_goals exact absurd rfl hk
  subst hcy
  have hat : va_at (gD G) vwCl (mN M, cellOf G (mnew M (arK t) n.toNatClampNeg) (mN M)) H1 := by
    by_cases h16 : arK t = 16
    · rw [cellOf_long (mnew_Ks.trans h16), mnew_As, mnew_ls]
      show H1[mN M]? = some (vp_cell _ _)
      rw [e1, vp_cell_l, h16]
      cases t <;> first | (exact absurd h16 (by decide)) | rfl
    · have h3 : arK t = 14 ∨ arK t = 15 ∨ arK t = 17 := by cases t <;> simp [arK] at hk h16 ⊢
      rw [cellOf_int (by rw [mnew_Ks]; exact h3), mnew_As, mnew_is, mnew_Ks]
      show H1[mN M]? = some (vp_cell _ _)
      rw [e1, vp_cell_i]
      cases t <;> first | (exact absurd rfl hk) | (exact absurd rfl h16) | rfl
  exact hw H1 _ (Pool.push hP rfl mnew_K (by rw [mnew_Ks]; exact hk) (fun b hb => mnew_oth hb) rfl hat o3 (by rw [z1, hP.2.2.1])) ⟨Nat.le_trans hS.1 (by rw [z1, hP.2.2.1]; omega), fun x g1 g2 => (o3 x (Nat.lt_of_lt_of_le g1 hS.1)).trans (hS.2.1 x g1 g2), hS.2.2⟩
theorem at_anewarray {idx K : Nat} {n : Int32} (hd : decode (mCode y) pc = .ok (.anewarray idx, 3)) (hq : (mOwn y, idx, K) ∈ anewTab) (hn : ¬ n < 0) (hm : n.toNatClampNeg ≤ 1000000) (h1 : At G d y (pc + 3) ls (.ref (mN M) :: st) (mnew M K n.toNatClampNeg) Q) : At G d y pc ls (.int n :: st) M Q := by
  obtain ⟨⟨o1, o1'⟩, o2⟩ := anewTab_ok _ hq
  dsimp only at o1 o1' o2
  refine At.stepN (M1 := mnew M K n.toNatClampNeg) (n := n.toNatClampNeg) rfl rfl h1 (fun p e s m args below meth c0 R H locs cells slots la Qw C hP hS hl k1 k2 hw => ?_)
  have hts := C.2.2.2.2.1
  have hK := C.2.2.2.2.2.1.1
  refine W.anew C.1 C.2.1 C.2.2.2.1 (hts _ o2) (va_AO.use (C.2.2.2.2.2.1.2.2.1 K o1 o1')) rfl hd rfl hn (by omega) k1 k2 fun cA kA comp f1 f2 f3 f4 => ?_
  have hcy : cA = gy G K := by
    obtain ⟨kA', comp', u1, u2, u3, u4⟩ := (hK.2 (K - 14) _ (tys_ref o1 o1')).2
    exact Option.some.inj (f1.symm.trans u4)
  subst hcy
  rw [show (F0 m pc la (.int n :: st)).pc + 3 = pc + 3 from rfl]
  generalize hH1 : H.push ({ cls := gy G K, slots := Array.replicate n.toNatClampNeg .null, vm := .none } : Cell) = H1
  have z1 : H1.size = H.size + 1 := by rw [← hH1, Array.size_push]
  have e1 : H1[H.size]? = some (arrV (gy G K) n.toNatClampNeg (fun _ => .null)) := by rw [← hH1, Array.getElem?_push_size, ← arrV_new]
  have o3 : ∀ q : Nat, q < H.size → H1[q]? = H[q]? := fun q hq => by rw [← hH1, Array.getElem?_push, if_neg (Nat.ne_of_lt hq)]
  have hat : va_at (gD G) vwCl (mN M, cellOf G (mnew M K n.toNatClampNeg) (mN M)) H1 := by
    rw [cellOf_ref (by rw [mnew_Ks]; exact o1), mnew_As, mnew_rs, mnew_Ks]
    show H1[mN M]? = some (vp_cell _ _)
    rw [← hP.2.2.1, e1, vp_cell_q]
    rfl
  have hw' := hw H1 locs (Pool.push hP rfl mnew_K (by rw [mnew_Ks]; omega) (fun b hb => mnew_oth hb) rfl hat o3 z1) ⟨Nat.le_trans hS.1 (by rw [z1]; omega), fun x g1 g2 => (o3 x (Nat.lt_of_lt_of_le g1 hS.1)).trans (hS.2.1 x g1 g2), hS.2.2⟩
  rw [← hP.2.2.1] at hw'
  exact hw'
end
