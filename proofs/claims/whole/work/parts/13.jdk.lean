/-! THE JDK: String constants, arraycopy, clone -/
theorem jw_val : Cond.fieldLink (clsN 16) 9 "java/lang/String" "value" "[B" ∈ lw_good := gm8 (i := 203) rfl rfl
theorem jw_cod : Cond.fieldLink (clsN 16) 15 "java/lang/String" "coder" "B" ∈ lw_good := gm8 (i := 204) rfl rfl
theorem jw_cmp : Cond.fieldLink (clsN 16) 38 "java/lang/String" "COMPACT_STRINGS" "Z" ∈ lw_good := gm2 (i := 238) rfl rfl
theorem jw_fmt : Cond.fieldLink (clsN 16) 1053 "jdk/internal/util/Preconditions" "SIOOBE_FORMATTER" "Ljava/util/function/BiFunction;" ∈ lw_good := gm3 (i := 14) rfl rfl
theorem jw_cl1 : Cond.methodLink (clsN 14) 316 ⟨"[I", "clone", "()Ljava/lang/Object;"⟩ ∈ lw_good := gm3 (i := 79) rfl rfl
theorem jw_cl2 : Cond.sameMethod "[I" "java/lang/Object" "clone" "()Ljava/lang/Object;" ∈ lw_good := gm3 (i := 80) rfl rfl
theorem jw_cl3 : Cond.native ⟨"java/lang/Object", "clone", "()Ljava/lang/Object;"⟩ ∈ lw_good := gm3 (i := 81) rfl rfl
theorem jw_cl4 : Cond.instanceMethod ⟨"java/lang/Object", "clone", "()Ljava/lang/Object;"⟩ ∈ lw_good := gm3 (i := 82) rfl rfl
theorem jw_cl5 : Cond.selects "[I" ⟨"[I", "clone", "()Ljava/lang/Object;"⟩ ⟨"java/lang/Object", "clone", "()Ljava/lang/Object;"⟩ ∈ lw_good := gm3 (i := 83) rfl rfl
theorem jw_cl7 : Cond.classLink (clsN 14) 317 "[I" ∈ lw_good := gm3 (i := 85) rfl rfl
section
variable {G : GT} {d y pc : Nat} {ls : List (Nat × Value)} {st : List Value} {M : Mem} {Q : Option Value → Mem → Prop}
theorem at_getSv {i : Nat} (ho : mOwn y = 16) (hi : i < 27) (hd : decode (mCode y) pc = .ok (.getfield 9, 3)) (h : At G d y (pc + 3) ls (.ref (gv G i) :: st) M Q) : At G d y pc ls (.ref (gk G i) :: st) M Q :=
  h.step (fun _ _ s _ _ _ _ _ _ _ _ _ _ la _ C _ _ _ hS hl _ _ hw => vk_getf (own := clsN (mOwn y)) C.1 C.2.1 (C.2.2.2.2.2.2.2.1.1 i hi).2.2.1 hS C.2.2.2.1 (C.2.2.2.2.1 _ (by rw [ho]; exact jw_val)) (fun _ h => h) hd (hw la hl))
theorem at_getSc {i : Nat} (ho : mOwn y = 16) (hi : i < 27) (hd : decode (mCode y) pc = .ok (.getfield 15, 3)) (h : At G d y (pc + 3) ls (.int 0 :: st) M Q) : At G d y pc ls (.ref (gk G i) :: st) M Q :=
  h.step (fun _ _ s _ _ _ _ _ _ _ _ _ _ la _ C _ _ _ hS hl _ _ hw => vk_getf (own := clsN (mOwn y)) C.1 C.2.1 (C.2.2.2.2.2.2.2.1.1 i hi).2.1 hS C.2.2.2.1 (C.2.2.2.2.1 _ (by rw [ho]; exact jw_cod)) (fun _ h => h) hd (hw la hl))
theorem at_cmpS (ho : mOwn y = 16) (hd : decode (mCode y) pc = .ok (.getstatic 38, 3)) (h : At G d y (pc + 3) ls (.int 1 :: st) M Q) : At G d y pc ls st M Q :=
  h.step (fun _ _ s _ _ _ _ _ _ _ _ _ _ la _ C _ _ _ hS hl _ _ hw => va_gets (own := clsN (mOwn y)) C.1 C.2.1 C.2.2.2.2.2.2.2.1.2.1 hS C.2.2.2.1 (C.2.2.2.2.1 _ (by rw [ho]; exact jw_cmp)) (fun _ h => h) hd (hw la hl))
theorem at_lenS {i : Nat} (hi : i < 27) (hd : decode (mCode y) pc = .ok (.arraylength, 1)) (h : At G d y (pc + 1) ls (.int (nI (strB.getD i []).length) :: st) M Q) : At G d y pc ls (.ref (gv G i) :: st) M Q :=
  h.step (fun _ _ s _ _ _ _ _ _ _ _ _ _ la _ C _ _ _ hS hl _ _ hw => va_tlen C.1 C.2.1 (C.2.2.2.2.2.2.2.1.1 i hi).2.2.2 hS rfl hd (hw la hl))
theorem at_balS {i : Nat} {j : Int32} (hi : i < 27) (hin : vp_in j (strB.getD i []).length) (hd : decode (mCode y) pc = .ok (.baload, 1)) (h : At G d y (pc + 1) ls (.int ((strB.getD i []).getD j.toNatClampNeg 0) :: st) M Q) : At G d y pc ls (.int j :: .ref (gv G i) :: st) M Q :=
  h.step (fun _ _ s _ _ _ _ _ _ _ _ _ _ la _ C _ _ _ hS hl _ _ hw => va_tb C.1 C.2.1 (C.2.2.2.2.2.2.2.1.1 i hi).2.2.2 hS hin rfl hd (hw la hl))
theorem At.callVS {idx y' n i : Nat} {As rest : List Value} (hd : decode (mCode y) pc = .ok (.invokevirtual idx, 3)) (hq : (mOwn y, idx, y', n) ∈ strvTab) (hi : i < 27) (hn : As.length = n) (hcat : (rest.map fun v => v.category).sum ≤ 8) (hst : st = As.reverse ++ .ref (gk G i) :: rest)
    (h : Cl G d y' (.ref (gk G i) :: As) M (fun r M1 => At G (d + 1) y (pc + 3) ls (r.toList ++ rest) M1 Q)) : At G (d + 1) y pc ls st M Q := by
  subst hst
  refine At.call rfl h (fun p e s m args below meth c R H locs cells slots la r1 M1 C f1 f2 hP hS hz k1 k2 hE => ?_)
  obtain ⟨⟨o1, o2, o3, o4⟩, w1, w2, w3, w4⟩ := strvTab_ok _ hq
  dsimp only at o1 o2 o3 o4 w1 w2 w3 w4
  have hm : mOk y' := m_ok o1
  have C' := C
  obtain ⟨hx, hb, hml, hown, hts, -⟩ := C'
  have hcls : (mNm y').cls = "java/lang/String" := by rw [hm.2.2.1, w4]; rfl
  have hrec : ∃ cell : Cell, H[gk G i]? = some cell ∧ cell.vm.isStatics = false ∧ s.vm.findClass "java/lang/String" = some cell.cls := by
    obtain ⟨cell, h1, h2, h3, -⟩ := (C.2.2.2.2.2.2.2.1.1 i hi).1.kept hS.2.1
    exact ⟨cell, h1, h2, h3⟩
  refine va_runV (C := "java/lang/String") (As := As) (rest := rest) ⟨hx, hb, hml, hown, hts⟩ hE (cwV n hts (good_sub ?_) rfl rfl rfl ⟨hcls, o2, o3, o4⟩ ⟨f1, ?_⟩) ⟨blind, hrec, (pre_at C hP hS).2⟩ rfl hn hz rfl (lv_room hcat) hd ⟨k1, k2⟩
  · intro w hw
    rcases List.mem_append.mp hw with hw | hw
    · simp only [List.mem_cons, List.not_mem_nil, or_false] at hw
      rcases hw with rfl | rfl | rfl | rfl
      · exact w1
      · exact w2
      · exact w3
      · rw [← hcls]; exact ini_at hm
    · exact wsOf_in hm w hw
  · have := hm.2.2.2
    show 8 + (mMax y' + 11) + 64 * d ≤ R.locals
    omega
/-- a row of an array is copied: what the machine does to the heap -/
theorem copy_core {α : Type} (mk : α → Value) {p : Program} {e : Env} {s : State} {m : MethodId} {args : Array Value} {below : List Frame} {meth : Method} {c : Code} {R : Room} {H : Heap} {locs : List Loc} {cells slots : Nat} {la : Array Slot} {Qw : State → Prop} {idx a0 a : Nat} {c0 c1 : ClassId} {n0 n1 : Nat} {f g : Nat → α} {ty0 ty1 : FieldType} {sp dp n : Int32}
    (C : Cx G y p s m args meth c) (hS : va_S (gA G) s.heap H locs) (hgA : gA G a) (hsz : la.size = mMax y) (hq : (mOwn y, idx) ∈ acTab) (hd : decode (mCode y) pc = .ok (.invokestatic idx, 3))
    (hc0 : H[a0]? = some (arrV c0 n0 (fun j => mk (f j)))) (hc1 : H[a]? = some (arrV c1 n1 (fun j => mk (g j)))) (t0 : ArrOfT s c0 ty0) {k1 : Class} {cm1 : ClassId} (hk1 : s.vm.classes[c1]? = some k1) (hkk1 : k1.kind = .array cm1 ty1)
    (hty : ((refKind ty0 != refKind ty1) || (!refKind ty0 && ty0 != ty1)) = false) (h1 : ¬ sp < 0) (h2 : ¬ dp < 0) (h3 : ¬ n < 0) (h4 : sp.toNatClampNeg + n.toNatClampNeg ≤ n0) (h5 : dp.toNatClampNeg + n.toNatClampNeg ≤ n1)
    (hv : ∀ T : State, T.heap = H → ∀ vm', s.vm.Alike vm' → ∀ i, i < n.toNatClampNeg → fits ty1 (mk (f (sp.toNatClampNeg + i))) = true ∧ (T.setVm vm').takes cm1 (mk (f (sp.toNatClampNeg + i))))
    (hfr : 1 ≤ R.frames) (hlo : (st.map fun v => v.category).sum + 18 ≤ R.locals)
    (kk : ∀ (H1 : Heap) (locs1 : List Loc), H1[a]? = some (arrV c1 n1 (fun j => mk (va_cpy f g sp.toNatClampNeg dp.toNatClampNeg n.toNatClampNeg j))) → H1.size = H.size → (∀ q : Nat, q ≠ a → H1[q]? = H[q]?) → va_S (gA G) s.heap H1 locs1 → W p (gl G) e R s m args below meth c H1 locs1 cells slots Qw (F0 m (pc + 3) la st)) :
    W p (gl G) e R s m args below meth c H locs cells slots Qw (F0 m pc la (.int n :: .int dp :: .ref a :: .int sp :: .ref a0 :: st)) := by
  have nn : ∀ z : Int32, ¬ z < 0 → z.toInt = (z.toNatClampNeg : Int) := by
    intro z hz
    have hz0 : (0 : Int) ≤ z.toInt := by
      have := Int32.not_lt.mp hz
      simpa using Int32.le_iff_toInt_le.mp this
    show z.toInt = ((z.toInt.toNat : Nat) : Int)
    omega
  obtain ⟨-, k0, hk0, cm0, hkk0⟩ := t0 n0 (fun j => mk (f j))
  intro T hT X
  have rd : ∀ i, i < n.toNatClampNeg → (arrV c0 n0 (fun j => mk (f j))).slots.getD (sp.toNatClampNeg + i) .null = mk (f (sp.toNatClampNeg + i)) := fun i hi => by
    rw [Array.getD_eq_getD_getElem?, arrV_read _ _ (by omega)]
    rfl
  obtain ⟨vm', X', step⟩ := X.arraycopy C.1 C.2.2.2.1 (C.2.2.2.2.1 _ (acTab_ok _ hq)) (C.2.2.2.2.1 _ ac_w1) (C.2.2.2.2.1 _ ac_w2) (C.2.2.2.2.1 _ sys_ini) (src := a0) (dst := a) (cs := arrV c0 n0 (fun j => mk (f j))) (cd := arrV c1 n1 (fun j => mk (g j))) (srcPos := sp) (destPos := dp) (n := n) (by rw [hT]; exact hc0) (by rw [hT]; exact hc1)
    (fun _ h => by cases h) (fun _ h => by cases h) (fun h => by cases h) (fun h => by cases h) hk0 hk1 hkk0 hkk1 hty h1 h2 h3
    (by rw [nn sp h1, nn n h3, arrV_size]; omega) (by rw [nn dp h2, nn n h3, arrV_size]; omega)
    (fun vm₁ hal i hi => by rw [rd i hi]; exact hv T hT vm₁ hal i hi)
    (g := F0 m pc la (.int n :: .int dp :: .ref a :: .int sp :: .ref a0 :: st)) rfl (by show la.size = _; rw [hsz, C.2.2.1]) (rest := st) rfl (by rw [C.2.1]; exact hd) hfr (by show 2 * 0 + _ + (7 + 11) ≤ _; omega)
  have e1 : copied (arrV c0 n0 (fun j => mk (f j))) (arrV c1 n1 (fun j => mk (g j))) sp dp n = arrV c1 n1 (fun j => mk (va_cpy f g sp.toNatClampNeg dp.toNatClampNeg n.toNatClampNeg j)) := va_copied mk c0 c1 f g h4
  rw [e1] at X' step
  have hl : a < H.size := (Array.getElem?_eq_some_iff.mp hc1).1
  obtain ⟨t, a1, b1⟩ := kk (H.setIfInBounds a (arrV c1 n1 (fun j => mk (va_cpy f g sp.toNatClampNeg dp.toNatClampNeg n.toNatClampNeg j)))) _ (by simp [Array.getElem?_setIfInBounds, hl]) (by simp) (fun q hq => by simp [Array.getElem?_setIfInBounds, Ne.symm hq])
    ⟨by simp; exact hS.1, fun q g1 g2 => by
      have hne : q ≠ a := fun e => g2 (by rw [e]; exact hgA)
      have := hS.2.1 q g1 g2
      simpa [Array.getElem?_setIfInBounds, Ne.symm hne] using this, fun q hq => by
      rcases List.mem_append.mp hq with h | h
      · exact hS.2.2 q h
      · obtain ⟨z, -, hz⟩ := List.mem_map.mp h
        rw [← hz]
        exact hgA⟩ _ (by rw [← hT]; rfl) X'
  exact ⟨t, step t a1, b1⟩
theorem pool_gA {H : Heap} {a : Nat} (hP : Pool G M H) (h : mK M a ≠ 0) : gA G a := ((hP.2.2.2.2 a).mp h).1
theorem at_copyi {idx a0 a : Nat} {sp dp n : Int32} (hd : decode (mCode y) pc = .ok (.invokestatic idx, 3)) (hq : (mOwn y, idx) ∈ acTab) (hcat : (st.map fun v => v.category).sum ≤ 8) (k0 : mK M a0 = 15) (k1 : mK M a = 15) (h1 : ¬ sp < 0) (h2 : ¬ dp < 0) (h3 : ¬ n < 0) (h4 : sp.toNatClampNeg + n.toNatClampNeg ≤ mA M a0) (h5 : dp.toNatClampNeg + n.toNatClampNeg ≤ mA M a)
    (h : At G (d + 1) y (pc + 3) ls st (cpi M a0 sp.toNatClampNeg a dp.toNatClampNeg n.toNatClampNeg) Q) : At G (d + 1) y pc ls (.int n :: .int dp :: .ref a :: .int sp :: .ref a0 :: st) M Q := by
  refine At.stepM (M1 := cpi M a0 sp.toNatClampNeg a dp.toNatClampNeg n.toNatClampNeg) rfl rfl h (fun p e s m args below meth c R H locs cells slots la Qw C f1 f2 hP hS hl hw => ?_)
  obtain ⟨q0, hq0⟩ := int_get hP (Or.inr (Or.inl k0))
  obtain ⟨q1, hq1⟩ := int_get hP (Or.inr (Or.inl k1))
  rw [k0] at hq0
  rw [k1] at hq1
  have hty := (C.2.2.2.2.2.1.1.2 1 _ rfl).1
  obtain ⟨-, kk1, hk1, cm1, hkk1⟩ := hty 0 (fun _ => .null)
  refine copy_core (fun z => .int z) C hS (pool_gA hP (by omega)) hl.1 hq hd (by have := hP.1 q0 _ hq0; rw [← vp_cell_i]; exact this) (by have := hP.1 q1 _ hq1; rw [← vp_cell_i]; exact this) hty hk1 hkk1 rfl h1 h2 h3 h4 h5 (fun _ _ _ _ _ _ => ⟨rfl, trivial⟩) (by omega) (by omega) (fun H1 locs1 e1 z oq hS1 => ?_)
  refine hw H1 locs1 (Pool.upd (M1 := cpi M a0 sp.toNatClampNeg a dp.toNatClampNeg n.toNatClampNeg) (k := 0) hP (by omega) rfl rfl (fun b hb => cellOf_congr rfl rfl (up1_ne hb) rfl rfl) ?_ z oq hS).1 hS1
  rw [cellOf_int (M := cpi M a0 sp.toNatClampNeg a dp.toNatClampNeg n.toNatClampNeg) (Or.inr (Or.inl k1))]
  show H1[a]? = some (vp_cell (gy G (mK M a)) (mA M a, .inl (up1 (vi M) a _ a)))
  rw [up1_same, k1, vp_cell_i]
  exact e1
theorem at_copyl {idx a0 a : Nat} {sp dp n : Int32} (hd : decode (mCode y) pc = .ok (.invokestatic idx, 3)) (hq : (mOwn y, idx) ∈ acTab) (hcat : (st.map fun v => v.category).sum ≤ 8) (k0 : mK M a0 = 16) (k1 : mK M a = 16) (h1 : ¬ sp < 0) (h2 : ¬ dp < 0) (h3 : ¬ n < 0) (h4 : sp.toNatClampNeg + n.toNatClampNeg ≤ mA M a0) (h5 : dp.toNatClampNeg + n.toNatClampNeg ≤ mA M a)
    (h : At G (d + 1) y (pc + 3) ls st (cpl M a0 sp.toNatClampNeg a dp.toNatClampNeg n.toNatClampNeg) Q) : At G (d + 1) y pc ls (.int n :: .int dp :: .ref a :: .int sp :: .ref a0 :: st) M Q := by
  refine At.stepM (M1 := cpl M a0 sp.toNatClampNeg a dp.toNatClampNeg n.toNatClampNeg) rfl rfl h (fun p e s m args below meth c R H locs cells slots la Qw C f1 f2 hP hS hl hw => ?_)
  obtain ⟨q0, hq0⟩ := long_get hP k0
  obtain ⟨q1, hq1⟩ := long_get hP k1
  have hty := (C.2.2.2.2.2.1.1.2 2 _ rfl).1
  obtain ⟨-, kk1, hk1, cm1, hkk1⟩ := hty 0 (fun _ => .null)
  refine copy_core (fun z => .long z) C hS (pool_gA hP (by omega)) hl.1 hq hd (by have := hP.1 q0 _ hq0; rw [← vp_cell_l]; exact this) (by have := hP.1 q1 _ hq1; rw [← vp_cell_l]; exact this) hty hk1 hkk1 rfl h1 h2 h3 h4 h5 (fun _ _ _ _ _ _ => ⟨rfl, trivial⟩) (by omega) (by omega) (fun H1 locs1 e1 z oq hS1 => ?_)
  refine hw H1 locs1 (Pool.upd (M1 := cpl M a0 sp.toNatClampNeg a dp.toNatClampNeg n.toNatClampNeg) (k := 0) hP (by omega) rfl rfl (fun b hb => cellOf_congr rfl rfl rfl (up1_ne hb) rfl) ?_ z oq hS).1 hS1
  rw [cellOf_long (M := cpl M a0 sp.toNatClampNeg a dp.toNatClampNeg n.toNatClampNeg) k1]
  show H1[a]? = some (vp_cell (gy G 16) (mA M a, .inr (.inl (up1 (vl M) a _ a))))
  rw [up1_same, vp_cell_l]
  exact e1
/-- an array of marks is copied: null, or marks -/
theorem at_copyr {idx a0 a : Nat} {sp dp n : Int32} (hd : decode (mCode y) pc = .ok (.invokestatic idx, 3)) (hq : (mOwn y, idx) ∈ acTab) (hcat : (st.map fun v => v.category).sum ≤ 8) (k0 : mK M a0 = 19) (k1 : mK M a = 19) (h1 : ¬ sp < 0) (h2 : ¬ dp < 0) (h3 : ¬ n < 0) (h4 : sp.toNatClampNeg + n.toNatClampNeg ≤ mA M a0) (h5 : dp.toNatClampNeg + n.toNatClampNeg ≤ mA M a)
    (hel : ∀ i, i < n.toNatClampNeg → ∀ z, vr M a0 (sp.toNatClampNeg + i) = some z → mK M z = 6)
    (h : At G (d + 1) y (pc + 3) ls st (cpr M a0 sp.toNatClampNeg a dp.toNatClampNeg n.toNatClampNeg) Q) : At G (d + 1) y pc ls (.int n :: .int dp :: .ref a :: .int sp :: .ref a0 :: st) M Q := by
  refine At.stepM (M1 := cpr M a0 sp.toNatClampNeg a dp.toNatClampNeg n.toNatClampNeg) rfl rfl h (fun p e s m args below meth c R H locs cells slots la Qw C f1 f2 hP hS hl hw => ?_)
  obtain ⟨q0, hq0⟩ := ref_get hP (a := a0) (by omega)
  obtain ⟨q1, hq1⟩ := ref_get hP (a := a) (by omega)
  rw [k0] at hq0
  rw [k1] at hq1
  have hK := C.2.2.2.2.2.1.1
  have hty := (hK.2 5 _ rfl).1
  obtain ⟨kk1, cm1, hk1, hkk1, r3, -⟩ := (hK.2 5 _ rfl).2
  refine copy_core (fun z => va_rf z) C hS (pool_gA hP (by omega)) hl.1 hq hd (by have := hP.1 q0 _ hq0; rw [← vp_cell_q]; exact this) (by have := hP.1 q1 _ hq1; rw [← vp_cell_q]; exact this) hty hk1 hkk1 rfl h1 h2 h3 h4 h5 (fun T hT vm₁ hal i hi => ?_) (by omega) (by omega) (fun H1 locs1 e1 z oq hS1 => ?_)
  · cases hy : vr M a0 (sp.toNatClampNeg + i) with
    | none => exact ⟨rfl, trivial⟩
    | some z =>
      obtain ⟨qz, hqz⟩ := obj_get hP.2.2.2 (c := 5) (by omega) (hel i hi z hy)
      obtain ⟨cellV, g1, g2, g3⟩ := va_recv hK hP.1 (vw_at (c := 5) (by omega)) hqz
      obtain ⟨kC, hkC, -⟩ := Vm.findClass_spec g3
      obtain ⟨kE, hkE, -⟩ := Vm.findClass_spec r3
      obtain ⟨kC', hkC', -⟩ := hal.2.2 _ _ hkC
      obtain ⟨kE', hkE', -⟩ := hal.2.2 _ _ hkE
      have hcm : cm1 = cellV.cls := Option.some.inj (r3.symm.trans g3)
      refine ⟨rfl, cellV, (show T.heap[z]? = some cellV by rw [hT]; exact g1), (fun q h => by rw [h] at g2; cases g2), ⟨kC', hkC'⟩, ⟨kE', hkE'⟩, ?_⟩
      show vm₁.assignable _ _ = true
      rw [hal.assignable, hcm]
      exact va_asg _ _
  · refine hw H1 locs1 (Pool.upd (M1 := cpr M a0 sp.toNatClampNeg a dp.toNatClampNeg n.toNatClampNeg) (k := 0) hP (by omega) rfl rfl (fun b hb => cellOf_congr rfl rfl rfl rfl (up1_ne hb)) ?_ z oq hS).1 hS1
    rw [cellOf_ref (M := cpr M a0 sp.toNatClampNeg a dp.toNatClampNeg n.toNatClampNeg) (show 18 ≤ mK M a by omega)]
    show H1[a]? = some (vp_cell (gy G (mK M a)) (mA M a, .inr (.inr (.inr (.inr (up1 (vr M) a _ a))))))
    rw [up1_same, k1, vp_cell_q]
    exact e1
/-- a copy of an int array -/
def mcl (M : Mem) (a : Nat) : Mem := (mN M + 1, mS M + mA M a, up1 (mK M) (mN M) 15, up1 (mA M) (mN M) (mA M a), up1 (vi M) (mN M) (vi M a), up1 (vl M) (mN M) (fun _ => 0), up1 (vr M) (mN M) (fun _ => none))
theorem at_clone {a : Nat} (ho : mOwn y = 14) (hd : decode (mCode y) pc = .ok (.invokevirtual 316, 3)) (hk : mK M a = 15) (hcat : (st.map fun v => v.category).sum ≤ 8) (h : At G (d + 1) y (pc + 3) ls (.ref (mN M) :: st) (mcl M a) Q) : At G (d + 1) y pc ls (.ref a :: st) M Q := by
  obtain ⟨r, M', h1, h2, h3, h4⟩ := h
  have hn : mN (mcl M a) = mN M + 1 := rfl
  have hsl : mS (mcl M a) = mS M + mA M a := rfl
  rw [hn] at h2
  rw [hsl] at h3
  refine ⟨r, M', h1, by omega, by omega, fun p e s m args below meth c R H locs cells slots la Qw C f1 f2 hP hS hl k1 k2 hw => ?_⟩
  have e1 : cells + 1 + (mN M' - mN (mcl M a)) = cells + (mN M' - mN M) := by rw [hn]; omega
  have e2 : slots + mA M a + (mS M' - mS (mcl M a)) = slots + (mS M' - mS M) := by rw [hsl]; omega
  obtain ⟨q0, hq0⟩ := int_get hP (Or.inr (Or.inl hk))
  rw [hk] at hq0
  have hK := C.2.2.2.2.2.1.1
  have hts := C.2.2.2.2.1
  have hcell : H[a]? = some (arrV (gy G 15) (mA M a) (fun j => .int (vi M a j))) := by have := hP.1 q0 _ hq0; rw [← vp_cell_i]; exact this
  have hnm : s.vm.findClass "[I" = some (gy G 15) := (hK.2 1 _ rfl).2
  obtain ⟨c0, t0', g1, g2, g3⟩ := Cond.castable_spec (va_Nw.use (A := args) rfl C.2.2.2.2.2.1.2.2.2.2)
  cases hnm.symm.trans g1
  intro T hT X
  obtain ⟨-, kA, hkA, comp, hkind⟩ := State.isArrayOf_alike X.warmed.alike ((hK.2 1 _ rfl).1 0 (fun _ => .null))
  obtain ⟨-, kS, hkS, compS, hkindS⟩ := (hK.2 1 _ rfl).1 0 (fun _ => .null)
  obtain ⟨vm', X', stp⟩ := X.cloneArray C.1 C.2.2.2.1 (hts _ (by rw [ho]; exact jw_cl1)) (hts _ jw_cl2) (hts _ jw_cl3) (hts _ jw_cl4) (hts _ jw_cl5) (a := a) (cell := arrV (gy G 15) (mA M a) (fun j => .int (vi M a j))) (by rw [hT]; exact hcell) (fun k h => by cases h) (fun h => by cases h) hnm g2 g3
    (fun i v hv => by
      have hk' : T.vm.classes[gy G 15]? = some kA := hkA
      have hv2 : ∃ j, v = .int (vi M a j) := by
        have : i < mA M a := by have := (Array.getElem?_eq_some_iff.mp hv).1; rwa [arrV_size] at this
        rw [arrV_read _ _ this] at hv
        exact ⟨i, (Option.some.inj hv).symm⟩
      obtain ⟨j, rfl⟩ := hv2
      show State.fitsSlot _ (gy G 15) _ _ _ = true
      simp [State.fitsSlot, State.slotType?, hk', hkind, fits])
    (g := F0 m pc la (.ref a :: st)) rfl (by show la.size = _; rw [hl.1, C.2.2.1]) rfl (by rw [C.2.1]; exact hd) (by omega) (by show 2 * 0 + _ + 14 ≤ _; omega) (by omega) (by rw [arrV_size]; omega) (hloader := Vm.clonesLoader_of_array hkS hkindS)
  have hcE : ({ cls := (arrV (gy G 15) (mA M a) (fun j => .int (vi M a j))).cls, slots := (arrV (gy G 15) (mA M a) (fun j => .int (vi M a j))).slots } : Cell) = arrV (gy G 15) (mA M a) (fun j => .int (vi M a j)) := rfl
  rw [hcE, arrV_size] at X'
  generalize hH1 : H.push (arrV (gy G 15) (mA M a) (fun j => .int (vi M a j))) = H1
  have z1 : H1.size = H.size + 1 := by rw [← hH1, Array.size_push]
  have x1 : H1[H.size]? = some (arrV (gy G 15) (mA M a) (fun j => .int (vi M a j))) := by rw [← hH1, Array.getElem?_push_size]
  have o3 : ∀ q : Nat, q < H.size → H1[q]? = H[q]? := fun q hq => by rw [← hH1, Array.getElem?_push, if_neg (Nat.ne_of_lt hq)]
  have hP1 : Pool G (mcl M a) H1 := by
    refine Pool.push hP rfl (fun b => ?_) (by show up1 (mK M) (mN M) 15 (mN M) ≠ 0; rw [up1_same]; omega) (fun b hb => cellOf_congr (up1_ne hb) (up1_ne hb) (up1_ne hb) (up1_ne hb) (up1_ne hb)) rfl ?_ o3 z1
    · by_cases hb : b = mN M
      · rw [if_pos hb, hb]
      · rw [if_neg hb]; exact up1_ne hb
    · have e15 : mK (mcl M a) (mN M) = 15 := up1_same _ _ _
      rw [cellOf_int (Or.inr (Or.inl e15)), e15]
      show H1[mN M]? = some (vp_cell (gy G 15) (up1 (mA M) (mN M) (mA M a) (mN M), .inl (up1 (vi M) (mN M) (vi M a) (mN M))))
      rw [up1_same, up1_same, vp_cell_i, ← hP.2.2.1]
      exact x1
  obtain ⟨t, b1, b2⟩ := h4 p e s m args below meth c R H1 locs (cells + 1) (slots + mA M a) la Qw C f1 f2 hP1 ⟨Nat.le_trans hS.1 (by omega), fun x g1 g2 => (o3 x (Nat.lt_of_lt_of_le g1 hS.1)).trans (hS.2.1 x g1 g2), hS.2.2⟩ hl (by rw [e1]; exact k1) (by rw [e2]; exact k2) (by rw [e1, e2]; exact hw) ((T.setVm vm').pushCell (arrV (gy G 15) (mA M a) (fun j => .int (vi M a j)))) (by rw [← hH1, ← hT]; rfl) X'
  refine ⟨t, stp t ?_, b2⟩
  rw [hcE, hT, hP.2.2.1]
  exact b1
theorem at_castA {a : Nat} (ho : mOwn y = 14) (hd : decode (mCode y) pc = .ok (.checkcast 317, 3)) (hk : mK M a = 15) (h : At G d y (pc + 3) ls (.ref a :: st) M Q) : At G d y pc ls (.ref a :: st) M Q := by
  refine h.step (fun p e s m args below meth c R H locs cells slots la Qw C f1 f2 hP hS hl k1 k2 hw => ?_)
  obtain ⟨q0, hq0⟩ := int_get hP (Or.inr (Or.inl hk))
  rw [hk] at hq0
  exact va_castA (own := clsN (mOwn y)) C.1 C.2.1 C.2.2.2.1 (C.2.2.2.2.1 _ (by rw [ho]; exact jw_cl7)) hP.1 q0 hq0 ((C.2.2.2.2.2.1.1.2 1 _ rfl).2) hd (hw la hl)
/-- ldc_w of a String constant -/
theorem at_ldcwS {idx i : Nat} {tx : String} (hd : decode (mCode y) pc = .ok (.ldc_w idx, 3)) (hq : strL[i]? = some (clsN (mOwn y), idx, tx)) (h : At G d y (pc + 3) ls (.ref (gk G i) :: st) M Q) : At G d y pc ls st M Q := by
  refine h.step (fun p e s m args below meth c R H locs cells slots la Qw C f1 f2 hP hS hl k1 k2 hw => ?_)
  have hZ := C.2.2.2.2.2.1.2.2.2.1 i (clsN (mOwn y), idx, tx) hq
  have hexec := C.1
  have hown := C.2.2.2.1
  have hdg : decode c.code pc = .ok (.ldc_w idx, 3) := by rw [C.2.1]; exact hd
  intro T hT X
  obtain ⟨t, a1, b1⟩ := hw la hl T hT X
  refine ⟨t, ?_, b1⟩
  obtain ⟨k, cf, j, a', hk, hcf, hcp, -, hr, hev'⟩ := Cond.stringRef_spec hown hZ.1
  cases hZ.2.symm.trans hev'
  obtain ⟨k', hk', he⟩ := X.warmed.alike.2.2 _ _ hk
  have hr' : k'.resolved[idx]? = some (some (.string (gk G i))) := by
    rcases X.warmed.entry hk hk' idx with h | ⟨h, -⟩
    · rw [h]; exact hr
    · rw [hr] at h; cases h
  jvm_step X.here [hexec, hdg, ldc_w.wp_string (e := e) (s := T) (f := F0 m pc la st) X.here.top hk' (by rw [he]; exact hcf) hcp hr']
  exact a1
end
