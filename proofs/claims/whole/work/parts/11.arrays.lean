/-! RULES of arrays, and new cells -/
section
variable {G : GT} {d y pc : Nat} {ls : List (Nat × Value)} {st : List Value} {M : Mem} {Q : Option Value → Mem → Prop}
theorem up2_upd (f : Nat → Nat → Int32) (a k : Nat) (x : Int32) : up2 f a k x a = upd (f a) k x := by funext j; simp [up2, upd]
theorem up2_updL (f : Nat → Nat → Int64) (a k : Nat) (x : Int64) : up2 f a k x a = vp_updL (f a) k x := by funext j; simp [up2, vp_updL]
theorem up2_up (f : Nat → Nat → Option Nat) (a k : Nat) (x : Option Nat) : up2 f a k x a = va_up (f a) k x := by funext j; simp [up2, va_up]
theorem int_get {H : Heap} {a : Nat} (hP : Pool G M H) (h : mK M a = 14 ∨ mK M a = 15 ∨ mK M a = 17) : ∃ k : Nat, (pool G M)[k]? = some (a, .inl (gy G (mK M a), mA M a, .inl (vi M a))) := by
  obtain ⟨k, hk⟩ := pool_get hP.2.2.2 (a := a) (by omega)
  exact ⟨k, by rw [hk, cellOf_int h]⟩
theorem long_get {H : Heap} {a : Nat} (hP : Pool G M H) (h : mK M a = 16) : ∃ k : Nat, (pool G M)[k]? = some (a, .inl (gy G 16, mA M a, .inr (.inl (vl M a)))) := by
  obtain ⟨k, hk⟩ := pool_get hP.2.2.2 (a := a) (by omega)
  exact ⟨k, by rw [hk, cellOf_long h]⟩
theorem ref_get {H : Heap} {a : Nat} (hP : Pool G M H) (h : 18 ≤ mK M a) : ∃ k : Nat, (pool G M)[k]? = some (a, .inl (gy G (mK M a), mA M a, .inr (.inr (.inr (.inr (vr M a)))))) := by
  obtain ⟨k, hk⟩ := pool_get hP.2.2.2 (a := a) (by omega)
  exact ⟨k, by rw [hk, cellOf_ref h]⟩
theorem tys_ref {K : Nat} (h1 : 18 ≤ K) (h2 : K ≤ 21) : (tysG G)[K - 14]? = some (gy G K, .object (clsN (elN K))) := by
  have : K = 18 ∨ K = 19 ∨ K = 20 ∨ K = 21 := by omega
  rcases this with rfl | rfl | rfl | rfl <;> rfl
theorem at_iaload {a : Nat} {i : Int32} (hd : decode (mCode y) pc = .ok (.iaload, 1)) (hk : mK M a = 15) (hin : vp_in i (mA M a)) (h1 : At G d y (pc + 1) ls (.int (vi M a i.toNatClampNeg) :: st) M Q) : At G d y pc ls (.int i :: .ref a :: st) M Q := by
  refine h1.step (fun p e s m args below meth c0 R H locs cells slots la Qw C f1 f2 hP hS hl k1 k2 hw => ?_)
  obtain ⟨q0, hq0⟩ := int_get hP (Or.inr (Or.inl hk))
  rw [hk] at hq0
  exact va_iald C.1 C.2.1 C.2.2.2.2.2.1.1 hP.1 q0 1 hq0 rfl hin hd (hw la hl)
/-- the script -/
theorem at_ialoadS {i : Int32} (hd : decode (mCode y) pc = .ok (.iaload, 1)) (hin : vp_in i (gL G)) (h1 : At G d y (pc + 1) ls (.int (gx G i.toNatClampNeg) :: st) M Q) : At G d y pc ls (.int i :: .ref (gb G) :: st) M Q := by
  refine h1.step (fun p e s m args below meth c0 R H locs cells slots la Qw C f1 f2 hP hS hl k1 k2 hw => ?_)
  have hX := C.2.2.2.2.2.2.2.1.2.2.2.1
  have hb : gb G < s.heap.size := by
    obtain ⟨scr, z1, -⟩ := hX
    exact (Array.getElem?_eq_some_iff.mp z1).1
  exact va_sld C.1 C.2.1 hX hb C.2.2.2.2.2.2.2.1.2.2.2.2 hS hin hd (hw la hl)
theorem at_alenS (hd : decode (mCode y) pc = .ok (.arraylength, 1)) (h1 : At G d y (pc + 1) ls (.int (nI (gL G)) :: st) M Q) : At G d y pc ls (.ref (gb G) :: st) M Q := by
  refine h1.step (fun p e s m args below meth c0 R H locs cells slots la Qw C f1 f2 hP hS hl k1 k2 hw => ?_)
  have hX := C.2.2.2.2.2.2.2.1.2.2.2.1
  have hb : gb G < s.heap.size := by
    obtain ⟨scr, z1, -⟩ := hX
    exact (Array.getElem?_eq_some_iff.mp z1).1
  exact va_slen C.1 C.2.1 hX hb C.2.2.2.2.2.2.2.1.2.2.2.2 hS hd (hw la hl)
theorem at_baload {a : Nat} {i : Int32} (hd : decode (mCode y) pc = .ok (.baload, 1)) (hk : mK M a = 14 ∨ mK M a = 17) (hin : vp_in i (mA M a)) (h1 : At G d y (pc + 1) ls (.int (vi M a i.toNatClampNeg) :: st) M Q) : At G d y pc ls (.int i :: .ref a :: st) M Q := by
  refine h1.step (fun p e s m args below meth c0 R H locs cells slots la Qw C f1 f2 hP hS hl k1 k2 hw => ?_)
  obtain ⟨q0, hq0⟩ := int_get hP (hk.elim Or.inl (fun h => Or.inr (Or.inr h)))
  rcases hk with hk | hk <;> rw [hk] at hq0
  · exact va_bald C.1 C.2.1 C.2.2.2.2.2.1.1 hP.1 q0 0 hq0 rfl hin hd (hw la hl)
  · exact va_zald C.1 C.2.1 C.2.2.2.2.2.1.1 hP.1 q0 3 hq0 rfl hin hd (hw la hl)
theorem at_laload {a : Nat} {i : Int32} (hd : decode (mCode y) pc = .ok (.laload, 1)) (hk : mK M a = 16) (hin : vp_in i (mA M a)) (h1 : At G d y (pc + 1) ls (.long (vl M a i.toNatClampNeg) :: st) M Q) : At G d y pc ls (.int i :: .ref a :: st) M Q := by
  refine h1.step (fun p e s m args below meth c0 R H locs cells slots la Qw C f1 f2 hP hS hl k1 k2 hw => ?_)
  obtain ⟨q0, hq0⟩ := long_get hP hk
  exact va_lald C.1 C.2.1 C.2.2.2.2.2.1.1 hP.1 q0 2 hq0 rfl hin hd (hw la hl)
theorem at_aaload {a : Nat} {i : Int32} {v : Value} (hd : decode (mCode y) pc = .ok (.aaload, 1)) (hk : 18 ≤ mK M a) (hk2 : mK M a ≤ 21) (hin : vp_in i (mA M a)) (hv : va_rf (vr M a i.toNatClampNeg) = v) (h1 : At G d y (pc + 1) ls (v :: st) M Q) : At G d y pc ls (.int i :: .ref a :: st) M Q := by
  subst hv
  refine h1.step (fun p e s m args below meth c0 R H locs cells slots la Qw C f1 f2 hP hS hl k1 k2 hw => ?_)
  obtain ⟨q0, hq0⟩ := ref_get hP hk
  exact va_aldq C.1 C.2.1 C.2.2.2.2.2.1.1 hP.1 q0 (mK M a - 14) hq0 (tys_ref hk hk2) hin hd (hw la hl)
theorem at_alen {a : Nat} (hd : decode (mCode y) pc = .ok (.arraylength, 1)) (hk : 14 ≤ mK M a) (hk2 : mK M a ≤ 21) (h1 : At G d y (pc + 1) ls (.int (nI (mA M a)) :: st) M Q) : At G d y pc ls (.ref a :: st) M Q := by
  refine h1.step (fun p e s m args below meth c0 R H locs cells slots la Qw C f1 f2 hP hS hl k1 k2 hw => ?_)
  by_cases h16 : mK M a = 16
  · obtain ⟨q0, hq0⟩ := long_get hP h16
    exact va_alen C.1 C.2.1 C.2.2.2.2.2.1.1 hP.1 q0 2 hq0 rfl rfl hd (hw la hl)
  · by_cases h18 : 18 ≤ mK M a
    · obtain ⟨q0, hq0⟩ := ref_get hP h18
      exact va_alen C.1 C.2.1 C.2.2.2.2.2.1.1 hP.1 q0 (mK M a - 14) hq0 (tys_ref h18 hk2) rfl hd (hw la hl)
    · have h3 : mK M a = 14 ∨ mK M a = 15 ∨ mK M a = 17 := by omega
      obtain ⟨q0, hq0⟩ := int_get hP h3
      rcases h3 with h3 | h3 | h3 <;> rw [h3] at hq0
      · exact va_alen C.1 C.2.1 C.2.2.2.2.2.1.1 hP.1 q0 0 hq0 rfl rfl hd (hw la hl)
      · exact va_alen C.1 C.2.1 C.2.2.2.2.2.1.1 hP.1 q0 1 hq0 rfl rfl hd (hw la hl)
      · exact va_alen C.1 C.2.1 C.2.2.2.2.2.1.1 hP.1 q0 3 hq0 rfl rfl hd (hw la hl)
theorem at_iastore {a : Nat} {i x : Int32} (hd : decode (mCode y) pc = .ok (.iastore, 1)) (hk : mK M a = 15) (hin : vp_in i (mA M a)) (h1 : At G d y (pc + 1) ls st (seti M a i.toNatClampNeg x) Q) : At G d y pc ls (.int x :: .int i :: .ref a :: st) M Q := by
  refine At.stepM (M1 := seti M a i.toNatClampNeg x) rfl rfl h1 (fun p e s m args below meth c0 R H locs cells slots la Qw C f1 f2 hP hS hl hw => ?_)
  obtain ⟨q0, hq0⟩ := int_get hP (Or.inr (Or.inl hk))
  rw [hk] at hq0
  refine W.iast C.1 C.2.1 (hP.1 q0 _ hq0) ((C.2.2.2.2.2.1.1.2 1 _ rfl).1 (mA M a) (fun j => .int (vi M a j))) (fun q => by cases q) (by show ¬ (i < 0 ∨ (arrV _ _ _).slots.size ≤ _); rw [arrV_size]; exact hin) rfl rfl hd fun H1 e1 z oq => ?_
  obtain ⟨u1, u2⟩ := Pool.upd (M1 := seti M a i.toNatClampNeg x) (k := i.toNatClampNeg) hP (by omega) rfl rfl (fun b hb => cellOf_congr rfl rfl (up2_nea hb) rfl rfl) (by
    rw [cellOf_int (M := seti M a i.toNatClampNeg x) (Or.inr (Or.inl hk))]
    show H1[a]? = some (vp_cell _ _)
    refine Eq.trans e1 ?_
    show _ = some (vp_cell (gy G (mK M a)) (mA M a, .inl (up2 (vi M) a i.toNatClampNeg x a)))
    rw [up2_upd, hk, vp_cell_i, vp_cell_i, arrV_store]
    congr 2
    funext q
    by_cases hq : q = i.toNatClampNeg
    · subst hq; simp [updV, upd]
    · simp [updV, upd, hq]) z oq hS
  exact hw H1 _ u1 u2
theorem at_bastore {a : Nat} {i x : Int32} (hd : decode (mCode y) pc = .ok (.bastore, 1)) (hk : mK M a = 14) (hin : vp_in i (mA M a)) (h1 : At G d y (pc + 1) ls st (seti M a i.toNatClampNeg x.toInt8.toInt32) Q) : At G d y pc ls (.int x :: .int i :: .ref a :: st) M Q := by
  refine At.stepM (M1 := seti M a i.toNatClampNeg x.toInt8.toInt32) rfl rfl h1 (fun p e s m args below meth c0 R H locs cells slots la Qw C f1 f2 hP hS hl hw => ?_)
  obtain ⟨q0, hq0⟩ := int_get hP (Or.inl hk)
  rw [hk] at hq0
  refine W.bast C.1 C.2.1 (hP.1 q0 _ hq0) ((C.2.2.2.2.2.1.1.2 0 _ rfl).1 (mA M a) (fun j => .int (vi M a j))) (fun q => by cases q) (by show ¬ (i < 0 ∨ (arrV _ _ _).slots.size ≤ _); rw [arrV_size]; exact hin) rfl rfl hd fun H1 e1 z oq => ?_
  obtain ⟨u1, u2⟩ := Pool.upd (M1 := seti M a i.toNatClampNeg x.toInt8.toInt32) (k := i.toNatClampNeg) hP (by omega) rfl rfl (fun b hb => cellOf_congr rfl rfl (up2_nea hb) rfl rfl) (by
    rw [cellOf_int (M := seti M a i.toNatClampNeg x.toInt8.toInt32) (Or.inl hk)]
    show H1[a]? = some (vp_cell _ _)
    refine Eq.trans e1 ?_
    show _ = some (vp_cell (gy G (mK M a)) (mA M a, .inl (up2 (vi M) a i.toNatClampNeg x.toInt8.toInt32 a)))
    rw [up2_upd, hk, vp_cell_i, vp_cell_i, arrV_store]
    congr 2
    funext q
    by_cases hq : q = i.toNatClampNeg
    · subst hq; simp [updV, upd]; try rfl
    · simp [updV, upd, hq]) z oq hS
  exact hw H1 _ u1 u2
theorem at_zastore {a : Nat} {i x : Int32} (hd : decode (mCode y) pc = .ok (.bastore, 1)) (hk : mK M a = 17) (hin : vp_in i (mA M a)) (h1 : At G d y (pc + 1) ls st (seti M a i.toNatClampNeg (vp_nar .boolean x)) Q) : At G d y pc ls (.int x :: .int i :: .ref a :: st) M Q := by
  refine At.stepM (M1 := seti M a i.toNatClampNeg (vp_nar .boolean x)) rfl rfl h1 (fun p e s m args below meth c0 R H locs cells slots la Qw C f1 f2 hP hS hl hw => ?_)
  obtain ⟨q0, hq0⟩ := int_get hP (Or.inr (Or.inr hk))
  rw [hk] at hq0
  refine W.zast C.1 C.2.1 (hP.1 q0 _ hq0) ((C.2.2.2.2.2.1.1.2 3 _ rfl).1 (mA M a) (fun j => .int (vi M a j))) (fun q => by cases q) (by show ¬ (i < 0 ∨ (arrV _ _ _).slots.size ≤ _); rw [arrV_size]; exact hin) rfl rfl hd fun H1 e1 z oq => ?_
  obtain ⟨u1, u2⟩ := Pool.upd (M1 := seti M a i.toNatClampNeg (vp_nar .boolean x)) (k := i.toNatClampNeg) hP (by omega) rfl rfl (fun b hb => cellOf_congr rfl rfl (up2_nea hb) rfl rfl) (by
    rw [cellOf_int (M := seti M a i.toNatClampNeg (vp_nar .boolean x)) (Or.inr (Or.inr hk))]
    show H1[a]? = some (vp_cell _ _)
    refine Eq.trans e1 ?_
    show _ = some (vp_cell (gy G (mK M a)) (mA M a, .inl (up2 (vi M) a i.toNatClampNeg (vp_nar .boolean x) a)))
    rw [up2_upd, hk, vp_cell_i, vp_cell_i, arrV_store]
    congr 2
    funext q
    by_cases hq : q = i.toNatClampNeg
    · subst hq; simp [updV, upd, vp_nar]; try rfl
    · simp [updV, upd, hq]) z oq hS
  exact hw H1 _ u1 u2
theorem at_lastore {a : Nat} {i : Int32} {x : Int64} (hd : decode (mCode y) pc = .ok (.lastore, 1)) (hk : mK M a = 16) (hin : vp_in i (mA M a)) (h1 : At G d y (pc + 1) ls st (setl M a i.toNatClampNeg x) Q) : At G d y pc ls (.long x :: .int i :: .ref a :: st) M Q := by
  refine At.stepM (M1 := setl M a i.toNatClampNeg x) rfl rfl h1 (fun p e s m args below meth c0 R H locs cells slots la Qw C f1 f2 hP hS hl hw => ?_)
  obtain ⟨q0, hq0⟩ := long_get hP hk
  refine W.last C.1 C.2.1 (hP.1 q0 _ hq0) ((C.2.2.2.2.2.1.1.2 2 _ rfl).1 (mA M a) (fun j => .long (vl M a j))) (fun q => by cases q) (by show ¬ (i < 0 ∨ (arrV _ _ _).slots.size ≤ _); rw [arrV_size]; exact hin) rfl rfl hd fun H1 e1 z oq => ?_
  obtain ⟨u1, u2⟩ := Pool.upd (M1 := setl M a i.toNatClampNeg x) (k := i.toNatClampNeg) hP (by omega) rfl rfl (fun b hb => cellOf_congr rfl rfl rfl (up2_nea hb) rfl) (by
    rw [cellOf_long (M := setl M a i.toNatClampNeg x) hk]
    show H1[a]? = some (vp_cell _ _)
    refine Eq.trans e1 ?_
    show _ = some (vp_cell (gy G 16) (mA M a, .inr (.inl (up2 (vl M) a i.toNatClampNeg x a))))
    rw [up2_updL, vp_cell_l, vp_cell_l, arrV_store]
    congr 2
    funext q
    by_cases hq : q = i.toNatClampNeg
    · subst hq; simp [updV, vp_updL]
    · simp [updV, vp_updL, hq]) z oq hS
  exact hw H1 _ u1 u2
end
