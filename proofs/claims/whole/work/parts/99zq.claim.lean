/-! THE CLAIM OUT OF ONE WALK OF THE LAW'S BODY. Your part is whole_start (and what it stands on); all else here is the same for every law, but numbers. -/
def R_law : String := "GalleyMarksLaw"
def lw_P (b : Addr) (xs : List Int32) (args : Array Value) (s : State) : Prop := args = #[.ref b] ∧ s.IntsAt b xs ∧ xs.length ≤ 384 ∧ (Jvm.Cond.and given_1 narrow_1).before args s = true
def lw_Q (_ : Array Value) (s : State) (o : Outcome) (t : State) : Prop := o = .returned (some (.int 1)) ∧ Framed s o t [] 600000 7302250
def lw_Z (below : List Frame) (a : Array Value) (s : State) : State → Prop := fun t => ∃ o, t.status = .running ∧ Ended t below o ∧ lw_Q a s o t
/-- the law's own end, with 1 on the stack, nothing written that was there before, its room as the claim has it -/
theorem lw_ret {p : Program} {l : Launch} {e : Env} {s : State} {m : MethodId} {below : List Frame} {meth : Method} {c : Code} {b : Nat} (hx : p.tables.exec = Jvm.exec) (hb : c.code = code) (hr : meth.sig.returnType = ret) (hlocks : meth.locks = false) {pc : Nat} {H : Heap} {ls : Array Slot} (hdg : decode code pc = .ok (.ireturn, 1)) : W p l e room_1 s m #[Value.ref b] below meth c H [] 600000 7302250 (lw_Z below #[Value.ref b] s) (F0 m pc ls [.int 1]) := by
  intro T hT X
  obtain ⟨fs, hret, hrun, hended, hW, hframe⟩ := X.leave (v := some (.int 1)) (hlocks := hlocks) (fun h => by rw [hr] at h; cases h)
  have hmeth' : T.vm.method? m = some meth := X.method'
  refine ⟨T.setFrames fs, ?_, .returned (some (.int 1)), hrun, hended, rfl, ⟨_, rfl⟩, hW, hframe⟩
  jvm_step X.here [X.here.top, hx, hb, hdg, hmeth', hr, ret, narrow_b1]
  (try refine ⟨rfl, ?_⟩); (try refine ⟨rfl, ?_⟩)
  first | (intro acts; rw [hret _ acts rfl rfl rfl]) | rw [hret _ _ rfl rfl rfl]
  exact Steps.refl _
/-- what holds at the law's entry: the machine, the code, the tables' words (any of lw_tbl by 'hts w (by decide +kernel)'), the script of L ints xs at the cell b, what the Statement gives of the start (any of its parts by flat_of_before) -/
def lw_At (p : Program) (s : State) (m : MethodId) (meth : Method) (c : Code) (b L : Nat) (xs : Nat → Int32) : Prop :=
  p.tables.exec = Jvm.exec ∧ c.code = code ∧ meth.sig.returnType = ret ∧ c.maxLocals = 4 ∧ s.vm.findClass R_law = some m.cls ∧ (∀ w ∈ lw_tbl, w.before #[Value.ref b] s = true) ∧ va_X b L xs s s.heap ∧ b < s.heap.size ∧ meth.locks = false ∧ (Jvm.Cond.and given_1 narrow_1).before #[Value.ref b] s = true ∧ meth.name = (mNm 282).name
/-! the entry: what is read there -/
theorem st_str {args : Array Value} {s : State} {A : Nat → Prop} (hs : ∀ w ∈ fl, w.before args s = true) (hA : ∀ a : Nat, a < s.heap.size → ¬ A a) :
    ∃ ad : Nat → Nat × Nat, ∀ i : Nat, i < 27 → (tmS i).eval args s none [] s = some (.ref (ad i).1) ∧ va_O "java/lang/String" (ad i).1 A s s.heap ∧ va_OF "java/lang/String" "coder" "B" (.int 0) (ad i).1 A s s.heap ∧ va_OF "java/lang/String" "value" "[B" (.ref (ad i).2) (ad i).1 A s s.heap ∧ va_T .byte (ad i).2 (strB.getD i []).length (fun j => .int ((strB.getD i []).getD j 0)) A s s.heap := by
  have h0 : ∀ i : Nat, ∃ q : Nat × Nat, i < 27 → (tmS i).eval args s none [] s = some (.ref q.1) ∧ va_O "java/lang/String" q.1 A s s.heap ∧ va_OF "java/lang/String" "coder" "B" (.int 0) q.1 A s s.heap ∧ va_OF "java/lang/String" "value" "[B" (.ref q.2) q.1 A s s.heap ∧ va_T .byte q.2 (strB.getD i []).length (fun j => .int ((strB.getD i []).getD j 0)) A s s.heap := by
    intro i
    by_cases hi : i < 27
    · obtain ⟨a, c, cA, kA, q1, q2, q3, q4, q5, q6, -⟩ := Cond.exactly_spec (args := args) (first := s) (o := none) (s := s) (idx := []) (t := tmS i) (cls := "java/lang/String") (hs _ (List.mem_of_getElem? (st_ex i hi)))
      obtain ⟨t, ht, hT⟩ := va_Tof (f := fun j => .int ((strB.getD i []).getD j 0)) (A := A) (st_len i hi) (hs _ (List.mem_of_getElem? (st_ar i hi))) (va_eqt (hs _ (List.mem_of_getElem? (st_le i hi)))) (fun j hj => va_eqt (hs _ (List.mem_of_getElem? (st_el i hi j hj)))) hA
      exact ⟨(a, t), fun _ => ⟨q1, ⟨cA, q3, q5, by rw [q6]; exact q2, hA a (Array.getElem?_eq_some_iff.mp q3).1⟩, vk_OFof q1 (va_eqt (hs _ (List.mem_of_getElem? (st_co i hi)))) hA, vk_OFof q1 ht hA, hT⟩⟩
    · exact ⟨(0, 0), fun h => absurd h hi⟩
  obtain ⟨ad, had⟩ := Classical.axiomOfChoice h0
  exact ⟨ad, had⟩
theorem st_cls {args : Array Value} {s : State} (hts : ∀ w ∈ lw_good, w.before args s = true) : ∃ q : Nat → ClassId × (Nat → Nat), ∀ c, c < 13 → u_Kn s (clsN c) (TT c) (nF c) (q c).1 (q c).2 := by
  have h0 : ∀ c : Nat, ∃ q : ClassId × (Nat → Nat), c < 13 → u_Kn s (clsN c) (TT c) (nF c) q.1 q.2 := by
    intro c
    by_cases hc : c < 13
    · obtain ⟨cC, iS, h⟩ := u_known (C := clsN c) (T := TT c) (N := nF c) (n := nF c) hts (in_ok hc) (hts _ (inst_ok hc))
      exact ⟨(cC, iS), fun _ => h⟩
    · exact ⟨(0, fun _ => 0), fun h => absurd h hc⟩
  obtain ⟨q, hq⟩ := Classical.axiomOfChoice h0
  exact ⟨q, hq⟩
theorem st_prim {args : Array Value} {s : State} {ty : FieldType} (h : (Cond.arrayClass ty).before args s = true) : ∃ cA, ArrOfT s cA ty ∧ s.vm.findClass ("[" ++ ty.toString) = some cA := by
  obtain ⟨c, k, comp, h1, h2, h3⟩ := Cond.arrayClass_spec h
  exact ⟨c, fun n z => ⟨fun k h => (by cases h), k, h2, comp, h3⟩, h1⟩
theorem st_obj {args : Array Value} {s : State} {C : String} (h : (Cond.arrayOver (.object C)).before args s = true) : ∃ cA, ArrOfT s cA (.object C) ∧ va_RA s cA (.object C) := by
  obtain ⟨comp, c, k, h1, h2, h3, h4, h5⟩ := Cond.arrayOver_spec h
  exact ⟨c, fun n z => ⟨fun k h => (by cases h), k, h3, comp, h4⟩, ⟨k, comp, h3, h4, h1, h5⟩⟩
theorem pool_nil {G : GT} : pool G (Me G) = [] := by
  unfold pool
  rw [show mN (Me G) - g0 G = 0 from Nat.sub_self _]
  rfl
theorem Me_pool {G : GT} {H : Heap} (h : H.size = g0 G) : Pool G (Me G) H := by
  refine ⟨?_, ?_, h, Nat.le_refl _, fun a => ⟨fun z => absurd rfl z, fun z => ?_⟩⟩
  · rw [pool_nil]; exact fun k q h => by simp at h
  · rw [pool_nil]; exact ⟨fun i j p q h => by simp at h, fun k q h => by simp at h⟩
  · have h1 := z.1
    have h2 : a < g0 G := z.2
    omega
theorem whole_start {p : Program} {e : Env} {s : State} {m : MethodId} {below : List Frame} {meth : Method} {c : Code} (l : Launch) {b L : Nat} {xs : Nat → Int32} (hL : L ≤ 384) (C0 : lw_At p s m meth c b L xs) : W p l e room_1 s m #[Value.ref b] below meth c s.heap [] 0 0 (lw_Z below #[Value.ref b] s) (entryFrame m ([Value.ref b] : List Value).toArray 4) := by
  obtain ⟨hx, hb, hr, hml, hown, hts, hX, hbl, hlocks, hgv, hnm⟩ := id C0
  have hs : ∀ w ∈ fl, w.before #[Value.ref b] s = true := flat_of_before _ hgv
  have hgd : ∀ w ∈ lw_good, w.before #[Value.ref b] s = true := fun w hw => hts w (List.mem_filter.mp hw).1
  have hA : ∀ a : Nat, a < s.heap.size → ¬ (fun q : Nat => s.heap.size ≤ q) a := fun a h => Nat.not_le.mpr h
  obtain ⟨ad, had⟩ := st_str hs hA
  obtain ⟨dq, hdq⟩ := st_cls hgd
  obtain ⟨y14, a14, f14⟩ := st_prim (hts _ ac_byte)
  obtain ⟨y15, a15, f15⟩ := st_prim (hts _ ac_int)
  obtain ⟨y16, a16, f16⟩ := st_prim (hts _ ac_long)
  obtain ⟨y17, a17, f17⟩ := st_prim (hts _ ac_boolean)
  obtain ⟨y18, a18, f18⟩ := st_obj (hts _ ao_2)
  obtain ⟨y19, a19, f19⟩ := st_obj (hts _ ao_5)
  obtain ⟨y20, a20, f20⟩ := st_obj (hts _ ao_8)
  obtain ⟨y21, a21, f21⟩ := st_obj (hts _ ao_10)
  obtain ⟨ys, g14, g15, g16, g17, g18, g19, g20, g21⟩ : ∃ ys : Nat → ClassId, ys 14 = y14 ∧ ys 15 = y15 ∧ ys 16 = y16 ∧ ys 17 = y17 ∧ ys 18 = y18 ∧ ys 19 = y19 ∧ ys 20 = y20 ∧ ys 21 = y21 :=
    ⟨fun k => if k = 14 then y14 else if k = 15 then y15 else if k = 16 then y16 else if k = 17 then y17 else if k = 18 then y18 else if k = 19 then y19 else if k = 20 then y20 else y21, rfl, rfl, rfl, rfl, rfl, rfl, rfl, rfl⟩
  obtain ⟨G, hG⟩ : ∃ G : GT, G = (l, (fun c => (dq c).1, fun c => (dq c).2), ys, s.heap.size, (fun i => (ad i).1), (fun i => (ad i).2), b, L, xs) := ⟨_, rfl⟩
  have q0 : g0 G = s.heap.size := by rw [hG]; rfl
  have ql : gl G = l := by rw [hG]; rfl
  have qb : gb G = b := by rw [hG]; rfl
  have qL : gL G = L := by rw [hG]; rfl
  have qA : gA G = (fun q : Nat => s.heap.size ≤ q) := by rw [hG]; rfl
  have hSk : Sk G s := by
    refine ⟨⟨fun k q hq => ?_, fun k q hq => ?_⟩, fun q hq => va_Nw.of rfl (hts _ (nest_ok q hq)), fun K h1 h2 => ?_, fun i q hq => ?_, va_Nw.of rfl (hts _ cs_ok)⟩
    · have hk : k < 13 := by
        have := (List.getElem?_eq_some_iff.mp hq).1
        exact this
      rw [vw_at hk] at hq
      have hq2 : (clsN k, TT k, nF k) = q := by simpa using hq
      subst hq2
      have z := hdq k hk
      rw [hG]
      exact z
    · have e : tysG G = [(y14, .byte), (y15, .int), (y16, .long), (y17, .boolean), (y18, .object RX2), (y19, .object RX5), (y20, .object RX8), (y21, .object RX10)] := by
        rw [hG, ← g14, ← g15, ← g16, ← g17, ← g18, ← g19, ← g20, ← g21]; rfl
      rw [e] at hq
      match k, hq with
      | 0, hq => cases hq; exact ⟨a14, f14⟩
      | 1, hq => cases hq; exact ⟨a15, f15⟩
      | 2, hq => cases hq; exact ⟨a16, f16⟩
      | 3, hq => cases hq; exact ⟨a17, f17⟩
      | 4, hq => cases hq; exact ⟨a18, f18⟩
      | 5, hq => cases hq; exact ⟨a19, f19⟩
      | 6, hq => cases hq; exact ⟨a20, f20⟩
      | 7, hq => cases hq; exact ⟨a21, f21⟩
      | k + 8, hq => simp at hq
    · rcases (show K = 18 ∨ K = 19 ∨ K = 20 ∨ K = 21 by omega) with rfl | rfl | rfl | rfl
      · exact va_AO.of (hts _ ao_2)
      · exact va_AO.of (hts _ ao_5)
      · exact va_AO.of (hts _ ao_8)
      · exact va_AO.of (hts _ ao_10)
    · have hi : i < 27 := (List.getElem?_eq_some_iff.mp hq).1
      have e : strL.getD i ("", 0, "") = q := by rw [List.getD_eq_getElem?_getD, hq]; rfl
      have z := (had i hi).1
      unfold tmS at z
      rw [e] at z
      rw [hG]
      exact vk_R.of (hts _ (str_ok q (List.mem_of_getElem? hq))) z
  have hSh : Sh G s s.heap := by
    refine ⟨fun i hi => ?_, ?_, ?_, ?_, ?_⟩
    · have z := (had i hi).2
      rw [qA, hG]
      exact z
    · rw [qA]; exact va_Zof (hts _ ls_1) (hts _ li_1) (va_eqt (hs _ (List.mem_of_getElem? st_z1))) hA
    · rw [qA]; exact va_Zqof (hts _ ls_2) (hts _ li_2) (hs _ (List.mem_of_getElem? st_z2)) hA
    · rw [hG]; exact hX
    · rw [qA, qb]; exact hA b hbl
  have C : Cx G 282 p s m #[Value.ref b] meth c := ⟨hx, hb, hml, hown, hgd, hSk, hnm, hSh, by rw [q0]; exact Nat.le_refl _⟩
  have hl := lv_entry ([.ref b]) (n := 4) (Nat.le_of_ble_eq_true rfl)
  rw [lg_entry_eq]
  generalize (lg_sl ([.ref b]) ++ List.replicate (4 - (lg_sl ([.ref b])).length) Slot.unset).toArray = la at hl ⊢
  have hl : lv_has la 4 [(0, .ref b)] := hl
  obtain ⟨r, M', ⟨rfl, hN, hS⟩, n1, s1, hA4⟩ := lw_all (G := G) (d := 0) (by rw [qL]; exact hL)
  have hN0 : mN (Me G) = g0 G := rfl
  have hS0 : mS (Me G) = 0 := rfl
  rw [← ql]
  refine hA4 p e s m #[Value.ref b] below meth c room_1 s.heap [] 0 0 la _ C (Nat.le_of_ble_eq_true rfl) (Nat.le_of_ble_eq_true rfl) (Me_pool q0.symm) va_S.rf (by rw [qb]; exact hl) (Nat.le_trans (show 0 + (mN M' - mN (Me G)) ≤ 20000 by omega) (Nat.le_of_ble_eq_true rfl)) (Nat.le_trans (show 0 + (mS M' - mS (Me G)) ≤ 2000000 by omega) (Nat.le_of_ble_eq_true rfl)) ?_
  intro H' locs' la' pc' hP' hS' hret
  refine va_forget (fun q hq => by have := hS'.2.2 q hq; rw [qA] at this; exact this) ?_
  refine W.widen (k := 600000) (n := 7302250) (by omega) (by omega) ?_
  rcases hret with ⟨v, ty, e1, e2, e3, e4⟩ | ⟨v, e1, e2, e3⟩ | ⟨v, rt, e1, e2, e3, e4, e5⟩ | ⟨e1, e2, e3⟩
  · exact lw_ret hx hb hr hlocks e2
  · cases e1
  · cases e1; rcases e2 with h | ⟨a, h⟩ <;> cases h
  · cases e1
set_option maxHeartbeats 4000000 in
theorem lw_walk (l : Launch) (b : Addr) (xs : List Int32) : MetFree l x (headSpec (Jvm.Cond.code x code maxLocals ret :: tables_1) room_1) (lw_P b xs) (fun _ _ _ _ _ => True) lw_Q := by
  refine MetFree.of_bodyS (code := code) (maxLocals := maxLocals) (ret := ret) (by decide) ?_ ?_
  · intro args s m h hn
    obtain ⟨meth, c, h1, h2, h3, h4, h5, h6, -, -⟩ := Cond.code_spec hn (atoms_spec (ws := Jvm.Cond.code x code maxLocals ret :: tables_1) h _ List.mem_cons_self)
    exact ⟨meth, c, h1, h2, h3, h4, h5, h6⟩
  · intro p e s m args below meth c s₁ B hml0 hP _
    obtain ⟨rfl, hx, hbd, hgv⟩ := hP
    obtain ⟨scr, harrAt, hlist, hof, hsmall⟩ := hx
    obtain ⟨hcb, hkn, -, -⟩ := State.arrayAt?_spec harrAt
    have hown : s.vm.findClass R_law = some m.cls := findClass_of_methodNamed B.named
    have hts0 : ∀ c ∈ (Jvm.Cond.code x code maxLocals ret :: tables_1), c.before #[Value.ref b] s = true := atoms_spec (ws := Jvm.Cond.code x code maxLocals ret :: tables_1) B.pre
    have hts : ∀ w ∈ lw_tbl, w.before #[Value.ref b] s = true := k2_hts_sels lw_privs (fun w hw => hts0 w (List.mem_cons_of_mem _ hw)) lw_privs_ok
    have hml : c.maxLocals = 4 := B.maxLocals_eq (hts0 _ List.mem_cons_self)
    have X₀ : Stand p l e room_1 s m #[Value.ref b] below meth c s₁ [] 0 0 := Stand.of_body B
    have hh0 : s₁.heap = s.heap := by rw [B.state]; rfl
    have hsz : scr.slots.size = xs.length := by rw [← Array.length_toList, hlist, List.length_map]
    have hval : ∀ j : Nat, j < xs.length → scr.slots[j]? = some (.int (xs.getD j 0)) := fun j hj => by
      rw [← Array.getElem?_toList, hlist]
      simp [hj]
    have hbl : b < s.heap.size := (Array.getElem?_eq_some_iff.mp hcb).1
    have hX : va_X b xs.length (fun j => xs.getD j 0) s s.heap := ⟨scr, hcb, hof, hkn, hsz, hval⟩
    have K : W p l e room_1 s m #[Value.ref b] below meth c s₁.heap [] 0 0 (lw_Z below #[Value.ref b] s) (entryFrame m ([Value.ref b] : List Value).toArray 4) := by
      rw [hh0]
      exact whole_start l hbd ⟨B.exec, B.bytes, B.returns, hml, hown, hts, hX, hbl, B.notSynchronized, hgv, (name_of_methodNamed B.named B.method).1⟩
    obtain ⟨t, a1, o, b1, b2, b3⟩ := K s₁ rfl X₀
    exact ⟨t, o, a1, b1, b2, b3⟩
theorem lw_pre_spec {args : Array Value} {s : State} (h : (Jvm.Cond.and given_1 narrow_1).before args s = true) (hr : rest_1_c.before args s = true) : ∃ (b : Addr) (xs : List Int32), lw_P b xs args s := by
  have hs := flat_of_before _ h
  have hq := flat_of_before _ hr
  have hc : (Cond.count 1).before args s = true := hs _ (by decide +kernel)
  have harr : (Cond.arrayOf (.arg 0) .int).before args s = true := hs _ (by decide +kernel)
  have hle : (Cond.le (.length (.arg 0)) (.int 384)).before args s = true := hs _ (by decide +kernel)
  have hlen : (Cond.isInt (.length (.arg 0))).before args s = true := hq _ (by decide +kernel)
  have hall : (Cond.all (.arg 0) (.isInt (.elem (.arg 0) (.index 0)))).before args s = true := hq _ (by decide +kernel)
  obtain ⟨b, xs, hb, hx⟩ := State.ints_of_pre rfl harr hlen hall
  have hsm : xs.length < 2 ^ 31 := hx.choose_spec.2.2.2
  have hev : (Term.length (.arg 0)).eval args s none [] s = some (.int xs.length.toInt32) := hx.length_eval hb
  have hv := Cond.le_ints hev (show (Term.int 384).eval args s none [] s = some (.int 384) from rfl)
  have hd : xs.length.toInt32 ≤ 384 := by
    simpa [Cond.before, Cond.holds, hv] using hle
  have hN : xs.length ≤ 384 := (Int32.ofNat_le_ofNat hsm (by decide)).mp (show Int32.ofNat xs.length ≤ Int32.ofNat 384 from hd)
  exact ⟨b, xs, Cond.one_arg hc (show args[0]? = some (.ref b) from hb), hx, hN, h⟩
theorem lw_comes (l : Launch) : Comes l x (Jvm.Cond.code x code maxLocals ret :: tables_1) room_1 (fun tb e args s => Calls_1 tb e args s ∧ rest_1 tb e args s ∧ Pre_1 tb e args s)
    (fun _ _ args s o t => lw_Q args s o t) := by
  intro p e ha hc hk s m args below hf hfit hheap happ hpre
  obtain ⟨b, xs, hP⟩ := lw_pre_spec hpre.2.2 hpre.2.1
  obtain ⟨k, o, h1, h2, h3, hQ⟩ := lw_walk l b xs p e ha hc hk s m args below hf ((Spec.applies_iff_loose hf).mp happ).1 hP trivial
  exact ⟨k, o, h1, h2, h3, hQ⟩
theorem lw_frame {s t : State} {o : Outcome} {args : Array Value} (h : Framed s o t [] 600000 7302250) :
    Framed s o t (fieldLocs frame_1_writes args s ++ arrayLocs frame_1_arrays args s ++ staticLocs frame_1_statics s) 600000 7302250 := h
theorem lw_limb (L : Cond) (hL : ∀ (args : Array Value) (s t : State), L.after args s (.returned (some (.int 1))) t = true) :
    ArmFor flags0 classFile x code maxLocals ret World_1 tables_1 room_1 Calls_1 rest_1 Pre_1
      (fun tb e a s o t => postC L tb e a s o t ∧ Framed s o t (fieldLocs frame_1_writes a s ++ arrayLocs frame_1_arrays a s ++ staticLocs frame_1_statics s) 600000 7302250) := by
  intro l _ _ _ p e ha hc hk s m args below hf hfit hheap happ hpre
  obtain ⟨k, o, h1, h2, h3, rfl, hF⟩ := lw_comes l p e ha hc hk s m args below hf hfit hheap happ hpre
  exact ⟨k, _, h1, h2, h3, hL args s _, lw_frame hF⟩
theorem i_vc : Claimed_1_1 ∧ Claimed_1_2 := ⟨lw_limb limb_1_1 (fun args s t => by simp [limb_1_1, Cond.after, Cond.holds, Cond.value]), lw_limb limb_1_2 (fun args s t => Cond.after_iff.mpr (by
  first | (rw [show limb_1_2 = Cond.eq .result (.int 1) from rfl, Cond.eq_ints (x := 1) (y := 1) rfl rfl]; simp; done) | (simp [limb_1_2, Cond.value, Term.eval]; done)))⟩
