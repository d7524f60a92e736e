/-! RULES that read and write cells -/
section
variable {G : GT} {d y pc : Nat} {ls : List (Nat × Value)} {st : List Value} {M : Mem} {Q : Option Value → Mem → Prop}
theorem at_mmin {idx : Nat} {p q : Int32} (hd : decode (mCode y) pc = .ok (.invokestatic idx, 3)) (hq : (mOwn y, idx) ∈ minTab) (hcat : (st.map fun v => v.category).sum ≤ 8) (h : At G (d + 1) y (pc + 3) ls (.int (if q < p then q else p) :: st) M Q) : At G (d + 1) y pc ls (.int q :: .int p :: st) M Q :=
  h.step (fun _ _ _ _ _ _ _ _ _ _ _ _ _ la _ C f1 f2 _ _ hl k1 k2 hw => va_mmin C.1 C.2.1 (C.2.2.1.trans hl.1.symm) C.2.2.2.1 (C.2.2.2.2.1 _ (minTab_ok _ hq)) (C.2.2.2.2.1 _ minTab_w1) (C.2.2.2.2.1 _ math_ini) (C.2.2.2.2.1 _ minTab_w2) (Nat.le_trans (Nat.succ_le_succ (Nat.zero_le d)) f1) (by omega) k1 k2 hd (hw la hl))
theorem at_mmax {idx : Nat} {p q : Int32} (hd : decode (mCode y) pc = .ok (.invokestatic idx, 3)) (hq : (mOwn y, idx) ∈ maxTab) (hcat : (st.map fun v => v.category).sum ≤ 8) (h : At G (d + 1) y (pc + 3) ls (.int (if p < q then q else p) :: st) M Q) : At G (d + 1) y pc ls (.int q :: .int p :: st) M Q :=
  h.step (fun _ _ _ _ _ _ _ _ _ _ _ _ _ la _ C f1 f2 _ _ hl k1 k2 hw => va_mmax C.1 C.2.1 (C.2.2.1.trans hl.1.symm) C.2.2.2.1 (C.2.2.2.2.1 _ (maxTab_ok _ hq)) (C.2.2.2.2.1 _ maxTab_w1) (C.2.2.2.2.1 _ math_ini) (C.2.2.2.2.1 _ maxTab_w2) (Nat.le_trans (Nat.succ_le_succ (Nat.zero_le d)) f1) (by omega) k1 k2 hd (hw la hl))
theorem at_getf {idx c k t fin h : Nat} {v : Value} (hd : decode (mCode y) pc = .ok (.getfield idx, 3)) (hq : (mOwn y, idx, c, k, t, fin) ∈ fldTab) (hk : mK M h = c + 1) (hv : fval (tyT c k) M h k = v) (h1 : At G d y (pc + 3) ls (v :: st) M Q) : At G d y pc ls (.ref h :: st) M Q := by
  obtain ⟨o1, o2, o3, -⟩ := fldTab_ok _ hq
  dsimp only at o1 o2 o3
  refine h1.step (fun p e s m args below meth c0 R H locs cells slots la Qw C f1 f2 hP hS hl k1 k2 hw => ?_)
  obtain ⟨q0, hq0⟩ := obj_get hP.2.2.2 o1 hk
  exact va_get (D := gD G) (C := clsN c) (T := TT c) (N := nF c) C.1 C.2.1 C.2.2.2.2.1 (in_ok o1) C.2.2.2.1 C.2.2.2.2.2.1.1 hP.1 q0 hq0 (vw_at o1) k o2 (C.2.2.2.2.1 _ o3) (fun _ h9 => h9) (by rw [fvs_at o2, hv]) hd (hw la hl)
/-- one cell is written -/
theorem Pool.upd {M1 : Mem} {H H1 : Heap} {H0 : Heap} {locs : List Loc} {a k : Nat} (hP : Pool G M H) (hk : mK M a ≠ 0) (hn : mN M1 = mN M) (hK : mK M1 = mK M) (hoth : ∀ b, b ≠ a → cellOf G M1 b = cellOf G M b) (hat : va_at (gD G) vwCl (a, cellOf G M1 a) H1) (hz : H1.size = H.size) (oq : ∀ q : Nat, q ≠ a → H1[q]? = H[q]?) (hS : va_S (gA G) H0 H locs) : Pool G M1 H1 ∧ va_S (gA G) H0 H1 (locs ++ [⟨a, k⟩]) := by
  obtain ⟨q0, hq0⟩ := pool_get hP.2.2.2 hk
  refine ⟨Pool.put (e := cellOf G M1 a) hP hk hq0 hn hK (fun b => ?_) (hP.1.set hP.2.1 hq0 hat oq) (hP.2.1.set hq0) hz, hS.put hz oq (hP.2.1.2 q0 _ hq0)⟩
  by_cases hb : b = a
  · subst hb
    simp [va_up]
  · simp [va_up, hb, hoth b hb]
theorem fits_ref {ty : FieldType} {v : Value} (ht : (∃ n, ty = .object n) ∨ ∃ t, ty = .array t) (hv : v = .null ∨ ∃ a, v = .ref a) : narrow ty v = v ∧ fits ty v = true := by
  rcases ht with ⟨n, rfl⟩ | ⟨t, rfl⟩ <;> rcases hv with rfl | ⟨a, rfl⟩ <;> exact ⟨rfl, rfl⟩
theorem at_putf {idx c k t fin h : Nat} {v : Value} {M1 : Mem} (hd : decode (mCode y) pc = .ok (.putfield idx, 3)) (hq : (mOwn y, idx, c, k, t, fin) ∈ fldTab) (hk : mK M h = c + 1) (hfin : fin = 0 ∨ (fin = 1 ∧ (mNm y).name = "<init>" ∧ c = mOwn y)) (hn : narrow (tyT c k) v = v) (hf : fits (tyT c k) v = true)
    (e1 : mN M1 = mN M) (e2 : mS M1 = mS M) (e3 : mK M1 = mK M) (e4 : mA M1 = mA M) (hoth : ∀ b, b ≠ h → vi M1 b = vi M b ∧ vl M1 b = vl M b ∧ vr M1 b = vr M b) (hv : fval (tyT c k) M1 h k = v) (ho : ∀ j, j ≠ k → fval (tyT c j) M1 h j = fval (tyT c j) M h j)
    (h1 : At G d y (pc + 3) ls st M1 Q) : At G d y pc ls (v :: .ref h :: st) M Q := by
  obtain ⟨o1, o2, o3, -, o5⟩ := fldTab_ok _ hq
  dsimp only at o1 o2 o3 o5
  refine At.stepM e1 e2 h1 (fun p e s m args below meth c0 R H locs cells slots la Qw C f1 f2 hP hS hl hw => ?_)
  obtain ⟨q0, hq0⟩ := obj_get hP.2.2.2 o1 hk
  have hts := C.2.2.2.2.1
  have hK := C.2.2.2.2.2.1.1
  have hc := vw_at o1
  have hin := in_ok o1
  have hap := va_apart (own := clsN (mOwn y)) hts hin (tyT c) (ty_ok o1) (nm_ok o1) hK hc
  obtain ⟨r, g1, cell, q1, q2, q3, q4⟩ := hP.1 q0 _ hq0
  have hr : r = (clsN c, TT c, nF c) := Option.some.inj (g1.symm.trans hc)
  subst hr
  obtain ⟨hSl, hfc, kC, hkC, hkind⟩ := hK.1 c _ hc
  obtain ⟨cf, kf, fi, f, hi, hsl⟩ := hSl k o2
  have hlay := hts _ (hin _ (u_in_lay o2))
  have hst := (u_facts hfc hkC (u_lays hts hin o2) hi).1
  have hoth' : ∀ b, b ≠ h → cellOf G M1 b = cellOf G M b := fun b hb => cellOf_congr (by rw [e3]) (by rw [e4]) (hoth b hb).1 (hoth b hb).2.1 (hoth b hb).2.2
  have hfs : (fvs c M h).set k v = fvs c M1 h := fvs_set o2 hv ho
  have fin' : ∀ (H' : Heap), H'[h]? = some (cell.setSlot f.slot v) → H'.size = H.size → (∀ q, q ≠ h → H'[q]? = H[q]?) → W p (gl G) e R s m args below meth c0 H' (locs ++ [⟨h, f.slot⟩]) cells slots Qw (F0 m (pc + 3) la st) := by
    intro H' z1 z2 z3
    have hat : va_at (gD G) vwCl (h, cellOf G M1 h) H' := by
      rw [cellOf_obj o1 (by rw [e3]; exact hk), ← hfs]
      rw [hsl] at z1
      exact ⟨_, hc, t_OB.to (V := updV (vp_V (fvs c M h)) k v) ⟨_, z1, q2, q3, t_set q4 hap o2 v⟩ (fun j _ => vp_updV_set (by rw [fvs_len]; exact o2) v j)⟩
    obtain ⟨u1, u2⟩ := Pool.upd (k := f.slot) hP (by omega) e1 e3 hoth' hat z2 z3 hS
    exact hw H' _ u1 u2
  unfold u_lay at hlay
  rcases o5 with ⟨x1, x2⟩ | ⟨x1, x2, x3⟩
  · rw [if_neg (by rw [x2]; decide)] at hlay
    have h6 := u_store hfc hkC hkind hlay hi (ty_ok o1 k o2) hn hf
    exact W.putK C.1 C.2.1 (f := f) ⟨C.2.2.2.1, hts _ o3, ⟨_, _, _, hi⟩, hst⟩ (by rw [q2]; exact h6) q1 q3 (by rw [hsl]; exact k2_hasslot (q4 k o2)) rfl rfl hd fin'
  · rw [if_pos x2] at hlay
    have hin2 : (mNm y).name = "<init>" ∧ c = mOwn y := by
      rcases hfin with h9 | ⟨-, h9⟩
      · omega
      · exact h9
    have hcf : m.cls = cf := by
      obtain ⟨_, _, c', _, _, _, -, -, hf', -, -, -, hown2, -⟩ := Cond.laysFinal_spec hlay
      have e5 : c' = cf := by have := hi.symm.trans hf'; simp at this; exact this.1.symm
      rw [x3, hin2.2] at hown2
      rw [← e5]; exact Option.some.inj (C.2.2.2.1.symm.trans hown2)
    have h6 := u_fits hfc hkC hkind (Or.inr hlay) hi (ty_ok o1 k o2) hn hf
    exact W.putFinK C.1 C.2.1 C.2.2.2.1 (hts _ o3) hi hst hcf (C.2.2.2.2.2.2.1.trans hin2.1) (by rw [q2]; exact h6) q1 q3 (by rw [hsl]; exact k2_hasslot (q4 k o2)) rfl rfl hd fin'
theorem fval_int {t : FieldType} (h : t = .int ∨ t = .boolean) (M : Mem) (a k : Nat) : fval t M a k = .int (vi M a k) := by rcases h with rfl | rfl <;> rfl
theorem fval_ref {t : FieldType} (h : (∃ n, t = .object n) ∨ ∃ u, t = .array u) (M : Mem) (a k : Nat) : fval t M a k = va_rf (vr M a k) := by rcases h with ⟨n, rfl⟩ | ⟨n, rfl⟩ <;> rfl
theorem fval_seti {t : FieldType} {M : Mem} {a k j : Nat} {x : Int32} (h : j ≠ k) : fval t (seti M a k x) a j = fval t M a j := by
  have e : vi (seti M a k x) a j = vi M a j := up2_ne (by omega)
  cases t <;> simp only [fval] <;> first | rw [e] | rfl
theorem fval_setl {t : FieldType} {M : Mem} {a k j : Nat} {x : Int64} (h : j ≠ k) : fval t (setl M a k x) a j = fval t M a j := by
  have e : vl (setl M a k x) a j = vl M a j := up2_ne (by omega)
  cases t <;> simp only [fval] <;> first | rw [e] | rfl
theorem fval_setr {t : FieldType} {M : Mem} {a k j : Nat} {x : Option Nat} (h : j ≠ k) : fval t (setr M a k x) a j = fval t M a j := by
  have e : vr (setr M a k x) a j = vr M a j := up2_ne (by omega)
  cases t <;> simp only [fval] <;> first | rw [e] | rfl
theorem fld_ty {own idx c k t fin : Nat} (hq : (own, idx, c, k, t, fin) ∈ fldTab) : (t = 0 → tyT c k = .int) ∧ (t = 3 → tyT c k = .boolean) ∧ (t = 1 → tyT c k = .long) ∧ (t = 2 → (∃ n, tyT c k = .object n) ∨ ∃ u, tyT c k = .array u) := by
  obtain ⟨-, -, -, o4, -⟩ := fldTab_ok _ hq
  dsimp only at o4
  refine ⟨fun h => ?_, fun h => ?_, fun h => ?_, fun h => ?_⟩ <;> subst h <;> simpa using o4
theorem at_puti {idx c k t fin h : Nat} {x : Int32} (hd : decode (mCode y) pc = .ok (.putfield idx, 3)) (hq : (mOwn y, idx, c, k, t, fin) ∈ fldTab) (hk : mK M h = c + 1) (hfin : fin = 0 ∨ (fin = 1 ∧ (mNm y).name = "<init>" ∧ c = mOwn y)) (ht : t = 0 ∨ (t = 3 ∧ (x = 0 ∨ x = 1)))
    (h1 : At G d y (pc + 3) ls st (seti M h k x) Q) : At G d y pc ls (.int x :: .ref h :: st) M Q := by
  have hty : tyT c k = .int ∨ (tyT c k = .boolean ∧ (x = 0 ∨ x = 1)) := by
    rcases ht with ht | ⟨ht, hx⟩
    · exact Or.inl ((fld_ty hq).1 ht)
    · exact Or.inr ⟨(fld_ty hq).2.1 ht, hx⟩
  have hty2 : tyT c k = .int ∨ tyT c k = .boolean := hty.elim Or.inl (fun h => Or.inr h.1)
  have hnf : narrow (tyT c k) (.int x) = .int x ∧ fits (tyT c k) (.int x) = true := by
    rcases hty with e | ⟨e, rfl | rfl⟩ <;> rw [e]
    · exact ⟨rfl, rfl⟩
    · exact ⟨rfl, by decide⟩
    · exact ⟨rfl, by decide⟩
  exact at_putf (M1 := seti M h k x) hd hq hk hfin hnf.1 hnf.2 rfl rfl rfl rfl (fun b hb => ⟨up2_nea hb, rfl, rfl⟩) (by rw [fval_int hty2]; exact congrArg Value.int (up2_same _ _ _ _)) (fun j hj => fval_seti hj) h1
theorem at_putl {idx c k t fin h : Nat} {x : Int64} (hd : decode (mCode y) pc = .ok (.putfield idx, 3)) (hq : (mOwn y, idx, c, k, t, fin) ∈ fldTab) (hk : mK M h = c + 1) (hfin : fin = 0 ∨ (fin = 1 ∧ (mNm y).name = "<init>" ∧ c = mOwn y)) (ht : t = 1)
    (h1 : At G d y (pc + 3) ls st (setl M h k x) Q) : At G d y pc ls (.long x :: .ref h :: st) M Q := by
  have e := (fld_ty hq).2.2.1 ht
  exact at_putf (M1 := setl M h k x) hd hq hk hfin (by rw [e]; rfl) (by rw [e]; rfl) rfl rfl rfl rfl (fun b hb => ⟨rfl, up2_nea hb, rfl⟩) (by rw [e]; exact congrArg Value.long (up2_same _ _ _ _)) (fun j hj => fval_setl hj) h1
theorem at_putr {idx c k t fin h : Nat} {x : Option Nat} {v : Value} (hv : va_rf x = v) (hd : decode (mCode y) pc = .ok (.putfield idx, 3)) (hq : (mOwn y, idx, c, k, t, fin) ∈ fldTab) (hk : mK M h = c + 1) (hfin : fin = 0 ∨ (fin = 1 ∧ (mNm y).name = "<init>" ∧ c = mOwn y)) (ht : t = 2)
    (h1 : At G d y (pc + 3) ls st (setr M h k x) Q) : At G d y pc ls (v :: .ref h :: st) M Q := by
  subst hv
  have e := (fld_ty hq).2.2.2 ht
  have hnf := fits_ref (v := va_rf x) e (va_rf_or x)
  exact at_putf (M1 := setr M h k x) hd hq hk hfin hnf.1 hnf.2 rfl rfl rfl rfl (fun b hb => ⟨rfl, rfl, up2_nea hb⟩) (by rw [fval_ref e]; exact congrArg va_rf (up2_same _ _ _ _)) (fun j hj => fval_setr hj) h1
end
