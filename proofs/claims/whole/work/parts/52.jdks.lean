/-! THE JDK's String methods on String constants -/
section
variable {G : GT} {d y pc : Nat} {ls : List (Nat × Value)} {st : List Value} {M : Mem} {Q : Po}
theorem At.toX {r : Option Value} {M' : Mem} (h : At G d y pc ls st M (fun r1 M1 => r1 = r ∧ M1 = M')) : mN M ≤ mN M' ∧ mS M ≤ mS M' ∧ AtX G d y pc ls st M r M' := by
  obtain ⟨r1, M1, ⟨rfl, rfl⟩, h2, h3, h4⟩ := h
  exact ⟨h2, h3, h4⟩
/-- the formatter: null, or some cell -/
theorem at_fmtS {r : Option Value} {M' : Mem} (ho : mOwn y = 16) (hd : decode (mCode y) pc = .ok (.getstatic 1053, 3)) (hq : Q r M') (hn : At G d y (pc + 3) ls (.null :: st) M (fun r1 M1 => r1 = r ∧ M1 = M')) (hr : ∀ t, At G d y (pc + 3) ls (.ref t :: st) M (fun r1 M1 => r1 = r ∧ M1 = M')) : At G d y pc ls st M Q := by
  obtain ⟨h2, h3, h4⟩ := hn.toX
  refine ⟨r, M', hq, h2, h3, fun p e s m args below meth c R H locs cells slots la Qw C f1 f2 hP hS hl k1 k2 hw => ?_⟩
  have hlink : (Cond.fieldLink (clsN (mOwn y)) 1053 "jdk/internal/util/Preconditions" "SIOOBE_FORMATTER" "Ljava/util/function/BiFunction;").before args s = true := C.2.2.2.2.1 _ (by rw [ho]; exact jw_fmt)
  rcases C.2.2.2.2.2.2.2.1.2.2.1 with hZ | ⟨t, hZ⟩
  · exact va_gets C.1 C.2.1 hZ hS C.2.2.2.1 hlink (fun _ h => h) hd (h4 p e s m args below meth c R H locs cells slots la Qw C f1 f2 hP hS hl k1 k2 hw)
  · exact va_gets C.1 C.2.1 hZ hS C.2.2.2.1 hlink (fun _ h => h) hd ((hr t).toX.2.2 p e s m args below meth c R H locs cells slots la Qw C f1 f2 hP hS hl k1 k2 hw)
end
section
variable {G : GT} {d : Nat} {M : Mem}
theorem ret_at {y pc : Nat} {v : Int32} {ty : FieldType} (hd : decode (mCode y) pc = .ok (.ireturn, 1)) (hr : mRet y = some ty) (hn : narrow ty (.int v) = .int v) : IsRet y pc (some (.int v)) := Or.inl ⟨v, ty, rfl, hd, hr, hn⟩
/-- String.coder: 0 -/
theorem s_coder {i : Nat} (hi : i < 27) {Q : Int32 → Mem → Prop} (hq : Q 0 M) : CI G (d + 1) 276 [.ref (gk G i)] M Q := by
  refine Cl.ofM (Nat.le_of_ble_eq_true rfl) rfl ?_
  refine at_cmpS rfl (by decide +kernel) ?_
  refine at_if_eq (off := 10) (tgt := 13) (by decide +kernel) (by decide) (fun h => absurd h (by decide)) (fun _ => ?_)
  refine at_aload_n (n := 0) (by decide +kernel) rfl rfl ?_
  refine at_getSc rfl hi (by decide +kernel) ?_
  refine at_goto (off := 4) (tgt := 14) (by decide +kernel) (by decide) ?_
  exact At.ret ⟨_, rfl, hq⟩ (ret_at (ty := .byte) (by decide +kernel) rfl rfl) rfl
/-- String.isLatin1: 1 -/
theorem s_isLatin1 {i : Nat} (hi : i < 27) {Q : Int32 → Mem → Prop} (hq : Q 1 M) : CI G (d + 1) 277 [.ref (gk G i)] M Q := by
  refine Cl.ofM (Nat.le_of_ble_eq_true rfl) rfl ?_
  refine at_cmpS rfl (by decide +kernel) ?_
  refine at_if_eq (off := 14) (tgt := 17) (by decide +kernel) (by decide) (fun h => absurd h (by decide)) (fun _ => ?_)
  refine at_aload_n (n := 0) (by decide +kernel) rfl rfl ?_
  refine at_getSc rfl hi (by decide +kernel) ?_
  refine at_if_ne (off := 7) (tgt := 17) (by decide +kernel) (by decide) (fun h => absurd rfl h) (fun _ => ?_)
  refine at_iconst (n := 1) (x := 1) (by decide +kernel) (by decide) ?_
  refine at_goto (off := 4) (tgt := 18) (by decide +kernel) (by decide) ?_
  exact At.ret ⟨_, rfl, hq⟩ (ret_at (ty := .boolean) (by decide +kernel) rfl rfl) rfl
/-- Preconditions.checkIndex: the index -/
theorem s_pcheck {j n : Int32} {f : Value} (hf : f = .null ∨ ∃ a, f = .ref a) (h0 : ¬ j < 0) (hn : j < n) {Q : Int32 → Mem → Prop} (hq : Q j M) : CI G (d + 1) 281 [.int j, .int n, f] M Q := by
  refine Cl.ofM (Nat.le_of_ble_eq_true rfl) (by rcases hf with rfl | ⟨a, rfl⟩ <;> rfl) ?_
  have hl : lv_args 0 [.int j, .int n, f] = [(0, .int j), (1, .int n), (2, f)] := rfl
  rw [hl]
  refine at_iload_n (n := 0) (by decide +kernel) rfl rfl ?_
  refine at_if_lt (off := 8) (tgt := 9) (by decide +kernel) (by decide) (fun h => absurd h h0) (fun _ => ?_)
  refine at_iload_n (n := 0) (by decide +kernel) rfl rfl ?_
  refine at_iload_n (n := 1) (by decide +kernel) rfl rfl ?_
  refine at_icmp_lt (off := 10) (tgt := 16) (by decide +kernel) (by decide) (fun _ => ?_) (fun h => absurd hn h)
  refine at_iload_n (n := 0) (by decide +kernel) rfl rfl ?_
  exact At.ret ⟨_, rfl, hq⟩ (ret_at (ty := .int) (by decide +kernel) rfl rfl) rfl
/-- String.checkIndex: nothing -/
theorem s_check {j n : Int32} (h0 : ¬ j < 0) (hn : j < n) {Q : Mem → Prop} (hq : Q M) : CV G (d + 2) 280 [.int j, .int n] M Q := by
  refine Cl.ofM (Nat.le_of_ble_eq_true rfl) rfl ?_
  refine at_iload_n (n := 0) (by decide +kernel) rfl rfl ?_
  refine at_iload_n (n := 1) (by decide +kernel) rfl rfl ?_
  have key : ∀ f : Value, (f = .null ∨ ∃ a, f = .ref a) → At G (d + 2) 280 5 (lv_args 0 [.int j, .int n]) [f, .int n, .int j] M (fun r1 M1 => r1 = none ∧ M1 = M) := by
    intro f hf
    refine At.callS (idx := 1059) (y' := 281) (n := 3) (As := [.int j, .int n, f]) (rest := []) (by decide +kernel) (by decide +kernel) rfl (by decide) rfl ?_
    refine Cl.mono (s_pcheck hf h0 hn (Q := fun v M1 => M1 = M) rfl) (fun r M1 h => ?_)
    obtain ⟨v, rfl, rfl⟩ := h
    refine at_pop (by decide +kernel) rfl ?_
    exact At.ret ⟨rfl, rfl⟩ (Or.inr (Or.inr (Or.inr ⟨rfl, by decide +kernel, rfl⟩))) rfl
  exact at_fmtS rfl (by decide +kernel) ⟨rfl, hq⟩ (key .null (Or.inl rfl)) (fun t => key (.ref t) (Or.inr ⟨t, rfl⟩))
/-- String.length -/
theorem s_length {i : Nat} (hi : i < 27) {Q : Int32 → Mem → Prop} (hq : Q (nI (strB.getD i []).length) M) : CI G (d + 2) 275 [.ref (gk G i)] M Q := by
  refine Cl.ofM (Nat.le_of_ble_eq_true rfl) rfl ?_
  refine at_aload_n (n := 0) (by decide +kernel) rfl rfl ?_
  refine at_getSv rfl hi (by decide +kernel) ?_
  refine at_lenS hi (by decide +kernel) ?_
  refine at_aload_n (n := 0) (by decide +kernel) rfl rfl ?_
  refine At.callVS (idx := 335) (y' := 276) (n := 0) (i := i) (As := []) (rest := [.int (nI (strB.getD i []).length)]) (by decide +kernel) (by decide +kernel) hi rfl (show (1 : Nat) ≤ 8 by decide) rfl ?_
  refine Cl.mono (s_coder hi (Q := fun v M1 => v = 0 ∧ M1 = M) ⟨rfl, rfl⟩) (fun r M1 h => ?_)
  obtain ⟨v, rfl, rfl, rfl⟩ := h
  refine at_ishr (by decide +kernel) ?_
  rw [sb_shr0]
  exact At.ret ⟨_, rfl, hq⟩ (ret_at (ty := .int) (by decide +kernel) rfl rfl) rfl
theorem strB_ok : ∀ i, i < 27 → ∀ j, j < (strB.getD i []).length → (((strB.getD i []).getD j 0 &&& 255).toUInt32 % 65536).toInt32 = (strB.getD i []).getD j 0 := by decide +kernel
theorem strB_len : ∀ i, i < 27 → (strB.getD i []).length < 100 := by decide +kernel
theorem strB_nar : ∀ i, i < 27 → ∀ j, j < (strB.getD i []).length → narrow .char (.int ((strB.getD i []).getD j 0)) = .int ((strB.getD i []).getD j 0) := fun i hi j hj => by
  have h := pk_nc ((strB.getD i []).getD j 0 &&& 255)
  rw [strB_ok i hi j hj] at h
  exact h
/-- StringLatin1.charAt -/
theorem s_l1charAt {i j : Nat} (hi : i < 27) (hj : j < (strB.getD i []).length) {Q : Int32 → Mem → Prop} (hq : Q ((strB.getD i []).getD j 0) M) : CI G (d + 3) 279 [.ref (gv G i), .int (nI j)] M Q := by
  have hl := strB_len i hi
  refine Cl.ofM (Nat.le_of_ble_eq_true rfl) rfl ?_
  refine at_iload_n (n := 1) (by decide +kernel) rfl rfl ?_
  refine at_aload_n (n := 0) (by decide +kernel) rfl rfl ?_
  refine at_lenS hi (by decide +kernel) ?_
  refine At.callS (idx := 9) (y' := 280) (n := 2) (As := [.int (nI j), .int (nI (strB.getD i []).length)]) (rest := []) (by decide +kernel) (by decide +kernel) rfl (by decide) rfl ?_
  refine Cl.mono (s_check (nI_pos (by omega)) (nI_lt hj (by omega)) (Q := fun M1 => M1 = M) rfl) (fun r M1 h => ?_)
  obtain ⟨rfl, rfl⟩ := h
  refine at_aload_n (n := 0) (by decide +kernel) rfl rfl ?_
  refine at_iload_n (n := 1) (by decide +kernel) rfl rfl ?_
  refine at_balS hi (vp_in_nI hj (by omega)) (by decide +kernel) ?_
  rw [nI_clamp (by omega)]
  refine at_sipush (n := 255) (x := 255) (by decide +kernel) (by decide) ?_
  refine at_iand (by decide +kernel) ?_
  refine at_i2c (by decide +kernel) ?_
  rw [strB_ok i hi j hj]
  exact At.ret ⟨_, rfl, hq⟩ (ret_at (ty := .char) (by decide +kernel) rfl (strB_nar i hi j hj)) rfl
/-- String.charAt -/
theorem s_charAt {i j : Nat} (hi : i < 27) (hj : j < (strB.getD i []).length) {Q : Int32 → Mem → Prop} (hq : Q ((strB.getD i []).getD j 0) M) : CI G (d + 4) 278 [.ref (gk G i), .int (nI j)] M Q := by
  refine Cl.ofM (Nat.le_of_ble_eq_true rfl) rfl ?_
  refine at_aload_n (n := 0) (by decide +kernel) rfl rfl ?_
  refine At.callVS (idx := 492) (y' := 277) (n := 0) (i := i) (As := []) (rest := []) (by decide +kernel) (by decide +kernel) hi rfl (by decide) rfl ?_
  refine Cl.mono (s_isLatin1 hi (Q := fun v M1 => v = 1 ∧ M1 = M) ⟨rfl, rfl⟩) (fun r M1 h => ?_)
  obtain ⟨v, rfl, rfl, rfl⟩ := h
  refine at_if_eq (off := 12) (tgt := 16) (by decide +kernel) (by decide) (fun h => absurd h (by decide)) (fun _ => ?_)
  refine at_aload_n (n := 0) (by decide +kernel) rfl rfl ?_
  refine at_getSv rfl hi (by decide +kernel) ?_
  refine at_iload_n (n := 1) (by decide +kernel) rfl rfl ?_
  refine At.callS (idx := 495) (y' := 279) (n := 2) (As := [.ref (gv G i), .int (nI j)]) (rest := []) (by decide +kernel) (by decide +kernel) rfl (by decide) rfl ?_
  refine Cl.mono (s_l1charAt hi hj (Q := fun v M2 => v = (strB.getD i []).getD j 0 ∧ Q ((strB.getD i []).getD j 0) M2) ⟨rfl, hq⟩) (fun r M2 h => ?_)
  obtain ⟨v, rfl, rfl, h2⟩ := h
  exact At.ret ⟨_, rfl, h2⟩ (ret_at (ty := .char) (by decide +kernel) rfl (strB_nar i hi j hj)) rfl
end
