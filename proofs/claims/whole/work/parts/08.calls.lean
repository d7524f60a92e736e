/-! A METHOD OUT OF ITS BODY; CALLS -/
theorem good_sub {ws : List Cond} (h : ∀ w ∈ ws, w ∈ lw_good) : GoodIn lw_good ws := fun w hw => ⟨h w hw, good_of_word (List.mem_filter.mp (h w hw)).2⟩
theorem wsOf_in {y : Nat} (h : mOk y) : ∀ w ∈ wsOf y, w ∈ lw_good := fun w hw => (List.mem_cons.mp hw).elim (fun e => by rw [e]; exact h.1) id
theorem blind {G : GT} {av : List Value} {M : Mem} : FrameBlind (va_Pc av (Pcx G M)) := fun _ U _ _ h => ⟨h.1, h.2.1, Sk.same (u := U) rfl h.2.2.1, Sh.moved (u := U) (Vm.Alike.refl U.vm) h.2.2.2.1, h.2.2.2.2⟩
section
variable {G : GT} {d y pc : Nat} {ls : List (Nat × Value)} {st : List Value} {M : Mem} {Q Q' : Option Value → Mem → Prop}
theorem Cl.of {av : List Value} (hy : plainName (mNm y).cls = true) (hcls : (mNm y).cls = clsN (mOwn y)) (hfit : (lg_sl av).length ≤ mMax y) (h : At G d y 0 (lv_args 0 av) [] M Q) : Cl G d y av M Q := by
  obtain ⟨r, M', h1, h2, h3, h4⟩ := h
  refine ⟨r, M', h1, h2, h3, ?_⟩
  unfold Ex
  refine Met.ofW (cc := mCode y) (maxL := mMax y) (ret := mRet y) hy rfl ?_
  intro p e s m args below meth c s₁ B hml hv
  obtain ⟨rfl, hP, hSk, hSh, hg0⟩ := hv
  have hx := B.exec
  have hb := B.bytes
  have hr := B.returns
  have hts := atoms_spec (ws := wsOf y) B.pre
  have hown : s.vm.findClass (mNm y).cls = some m.cls := findClass_of_methodNamed B.named
  have hlocks := B.notSynchronized
  have hnm := (name_of_methodNamed B.named B.method).1
  rw [lg_entry_eq]
  have hl := lv_entry av (n := mMax y) hfit
  generalize (lg_sl av ++ List.replicate (mMax y - (lg_sl av).length) Slot.unset).toArray = la at hl ⊢
  have C : Cx G y p s m av.toArray meth c := ⟨hx, hb, hml, by rw [← hcls]; exact hown, fun w hw => hts w (List.mem_cons_of_mem _ hw), hSk, hnm, hSh, hg0⟩
  refine h4 p e s m _ below meth c _ s.heap [] 0 0 la _ C (Nat.le_refl _) (Nat.le_refl _) hP va_S.rf hl (by rw [Nat.zero_add]; exact Nat.le_refl _) (by rw [Nat.zero_add]; exact Nat.le_refl _) ?_
  intro H' locs' la' pc' hP' hS' hret
  rw [Nat.zero_add, Nat.zero_add]
  rcases hret with ⟨v, ty, e1, e2, e3, e4⟩ | ⟨v, e1, e2, e3⟩ | ⟨v, rt, e1, e2, e3, e4, e5⟩ | ⟨e1, e2, e3⟩
  · subst e1
    exact W.zret hx hb (hr.trans e3) e4 (fun t ht _ => ⟨⟨rfl, by rw [ht]; exact hP'⟩, hS'.F ht⟩) hS'.2.2 e2
  · subst e1
    exact W.lret hx hb (hr.trans e3) (fun t ht _ => ⟨⟨rfl, by rw [ht]; exact hP'⟩, hS'.F ht⟩) hS'.2.2 e2
  · subst e1
    exact W.aret hx hb (hr.trans e4) e5 e2 (fun t ht _ => ⟨⟨rfl, by rw [ht]; exact hP'⟩, hS'.F ht⟩) hS'.2.2 e3
  · subst e1
    exact W.vret hx hb (hr.trans e3) (fun t ht _ => ⟨⟨rfl, by rw [ht]; exact hP'⟩, hS'.F ht⟩) hS'.2.2 e2
end
section
variable {G : GT} {d y pc : Nat} {ls : List (Nat × Value)} {st : List Value} {M : Mem} {Q Q' : Option Value → Mem → Prop}
/-- behind a call -/
theorem run_go {p : Program} {l : Launch} {e : Env} {R : Room} {s : State} {m : MethodId} {args a : Array Value} {below : List Frame} {meth : Method} {c : Code} {H : Heap} {locs : List Loc} {cells slots mc ms : Nat} {la : Array Slot} {st0 rest : List Value} {r1 : Option Value} {M1 : Mem} {Qw : State → Prop}
    (hr : va_Run p l e R s m args below meth c H locs cells slots mc ms (F0 m pc la st0) rest (Qcx G r1 M1 a) (gA G)) (hS : va_S (gA G) s.heap H locs)
    (kk : ∀ H1 locs1, Pool G M1 H1 → va_S (gA G) s.heap H1 locs1 → W p l e R s m args below meth c H1 locs1 (cells + mc) (slots + ms) Qw (F0 m (pc + 3) la (r1.toList ++ rest))) : W p l e R s m args below meth c H locs cells slots Qw (F0 m pc la st0) := by
  intro T hT X
  obtain ⟨v, st₀, t, T', L, h0, X', hL, e1, e2, ⟨⟨hv, hp⟩, hz, hk⟩, st⟩ := hr T hT X
  cases hv
  rw [h0] at hz hk
  obtain ⟨t2, a1, b1⟩ := kk T'.heap (locs ++ L) (by rw [e1]; exact hp)
    ⟨Nat.le_trans hS.1 (by rw [e1]; exact hz), fun q h1 h2 => by rw [e1, hk q (Nat.lt_of_lt_of_le h1 hS.1) h2]; exact hS.2.1 q h1 h2, fun q hq => by
      rcases List.mem_append.mp hq with h | h
      · exact hS.2.2 q h
      · exact hL q h⟩ T' rfl X'
  exact ⟨t2, st t2 a1, b1⟩
theorem pre_at {p : Program} {s : State} {m : MethodId} {args : Array Value} {meth : Method} {c : Code} {H : Heap} {locs : List Loc} {av : List Value} (C : Cx G y p s m args meth c) (hP : Pool G M H) (hS : va_S (gA G) s.heap H locs) : PreS s H (va_Pc av (Pcx G M)) av := by
  refine ⟨blind, fun U hU hW => ⟨rfl, by rw [hU]; exact hP, C.2.2.2.2.2.1.warm hW, ?_, by rw [hU]; exact Nat.le_trans C.2.2.2.2.2.2.2.2 hS.1⟩⟩
  rw [hU]
  exact (C.2.2.2.2.2.2.2.1.kept hS.2.1).moved hW.alike
theorem recv_at {p : Program} {s : State} {m : MethodId} {args : Array Value} {meth : Method} {c : Code} {H : Heap} {b ci : Nat} (C : Cx G y p s m args meth c) (hP : Pool G M H) (hc : ci < 13) (hk : mK M b = ci + 1) : ∃ cell : Cell, H[b]? = some cell ∧ cell.vm.isStatics = false ∧ s.vm.findClass (clsN ci) = some cell.cls := by
  obtain ⟨k, hk⟩ := obj_get hP.2.2.2 hc hk
  exact va_recv C.2.2.2.2.2.1.1 hP.1 (vw_at hc) hk
/-- all calls: what is common -/
theorem At.call {pc' : Nat} {av rest : List Value} {y' : Nat} (hpc : pc' = pc + 3) (h : Cl G d y' av M (fun r M1 => At G (d + 1) y pc' ls (r.toList ++ rest) M1 Q))
    (hs : ∀ (p : Program) (e : Env) (s : State) (m : MethodId) (args : Array Value) (below : List Frame) (meth : Method) (c : Code) (R : Room) (H : Heap) (locs : List Loc) (cells slots : Nat) (la : Array Slot) (r1 : Option Value) (M1 : Mem), Cx G y p s m args meth c → d + 1 ≤ R.frames → 64 * d + 64 ≤ R.locals → Pool G M H → va_S (gA G) s.heap H locs → la.size = mMax y → cells + (mN M1 - mN M) ≤ R.cells → slots + (mS M1 - mS M) ≤ R.slots → Ex G d y' av M r1 M1 →
      va_Run p (gl G) e R s m args below meth c H locs cells slots (mN M1 - mN M) (mS M1 - mS M) (F0 m pc la st) rest (Qcx G r1 M1 av.toArray) (gA G)) : At G (d + 1) y pc ls st M Q := by
  subst hpc
  obtain ⟨r1, M1, ⟨r, M', q1, q2, q3, hA⟩, n1, s1, hE⟩ := h
  refine ⟨r, M', q1, Nat.le_trans n1 q2, Nat.le_trans s1 q3, fun p e s m args below meth c R H locs cells slots la Qw C f1 f2 hP hS hl k1 k2 hw => ?_⟩
  refine run_go (hs p e s m args below meth c R H locs cells slots la r1 M1 C f1 (by omega) hP hS hl.1 (by omega) (by omega) hE) hS (fun H1 locs1 hP1 hS1 => ?_)
  have e1 : cells + (mN M1 - mN M) + (mN M' - mN M1) = cells + (mN M' - mN M) := by omega
  have e2 : slots + (mS M1 - mS M) + (mS M' - mS M1) = slots + (mS M' - mS M) := by omega
  exact hA p e s m args below meth c R H1 locs1 _ _ la Qw C f1 f2 hP1 hS1 hl (by rw [e1]; exact k1) (by rw [e2]; exact k2) (by rw [e1, e2]; exact hw)
end
section
variable {G : GT} {d y pc : Nat} {ls : List (Nat × Value)} {st : List Value} {M : Mem} {Q Q' : Option Value → Mem → Prop}
theorem At.callV {idx y' n b : Nat} {As rest : List Value} (hd : decode (mCode y) pc = .ok (.invokevirtual idx, 3)) (hq : (mOwn y, idx, y', n) ∈ virTab) (hk : mK M b = mOwn y' + 1) (hn : As.length = n) (hcat : (rest.map fun v => v.category).sum ≤ 8) (hst : st = As.reverse ++ .ref b :: rest)
    (h : Cl G d y' (.ref b :: As) M (fun r M1 => At G (d + 1) y (pc + 3) ls (r.toList ++ rest) M1 Q)) : At G (d + 1) y pc ls st M Q := by
  subst hst
  refine At.call rfl h (fun p e s m args below meth c R H locs cells slots la r1 M1 C f1 f2 hP hS hz k1 k2 hE => ?_)
  obtain ⟨⟨o1, o2, o3, o4⟩, w1, w2, w3, w4⟩ := virTab_ok _ hq
  dsimp only at o1 o2 o3 o4 w1 w2 w3 w4
  have hm : mOk y' := m_ok o1
  have C' := C
  obtain ⟨hx, hb, hml, hown, hts, -⟩ := C'
  refine va_runV (As := As) (rest := rest) ⟨hx, hb, hml, hown, hts⟩ hE (cwV n hts (good_sub ?_) rfl rfl rfl ⟨hm.2.2.1, o2, o3, o4⟩ ⟨f1, ?_⟩) ⟨blind, recv_at C hP w4 hk, (pre_at C hP hS).2⟩ rfl hn hz rfl (lv_room hcat) hd ⟨k1, k2⟩
  · intro w hw
    rcases List.mem_append.mp hw with hw | hw
    · simp only [List.mem_cons, List.not_mem_nil, or_false] at hw
      rcases hw with rfl | rfl | rfl | rfl
      · exact w1
      · exact w2
      · exact w3
      · exact ini_ok hm.2.1
    · exact wsOf_in hm w hw
  · have := hm.2.2.2
    show 8 + (mMax y' + 11) + 64 * d ≤ R.locals
    omega
end
theorem ini_at {y : Nat} (hm : mOk y) : Cond.initialized (mNm y).cls ∈ lw_good := by rw [hm.2.2.1]; exact ini_ok hm.2.1
theorem wsOf_none {y : Nat} (h : mRet y = none) : wsOf y = Cond.code (mNm y) (mCode y) (mMax y) none :: lw_good := by unfold wsOf; rw [h]
section
variable {G : GT} {d y pc : Nat} {ls : List (Nat × Value)} {st : List Value} {M : Mem} {Q Q' : Option Value → Mem → Prop}
theorem At.callS {idx y' n : Nat} {As rest : List Value} (hd : decode (mCode y) pc = .ok (.invokestatic idx, 3)) (hq : (mOwn y, idx, y', n) ∈ staTab) (hn : As.length = n) (hcat : (rest.map fun v => v.category).sum ≤ 8) (hst : st = As.reverse ++ rest)
    (h : Cl G d y' As M (fun r M1 => At G (d + 1) y (pc + 3) ls (r.toList ++ rest) M1 Q)) : At G (d + 1) y pc ls st M Q := by
  subst hst
  refine At.call rfl h (fun p e s m args below meth c R H locs cells slots la r1 M1 C f1 f2 hP hS hz k1 k2 hE => ?_)
  obtain ⟨⟨o1, o2, o3, o4⟩, w1, w2⟩ := staTab_ok _ hq
  dsimp only at o1 o2 o3 o4 w1 w2
  have hm : mOk y' := m_ok o1
  have C' := C
  obtain ⟨hx, hb, hml, hown, hts, -⟩ := C'
  refine va_runS (As := As) (rest := rest) ⟨hx, hb, hml, hown, hts⟩ hE (va_cwS n hts (good_sub ?_) rfl rfl rfl ⟨o2, o3, o4⟩ ⟨f1, ?_⟩) (pre_at C hP hS) rfl hn hz rfl (lv_room hcat) hd ⟨k1, k2⟩
  · intro w hw
    rcases List.mem_append.mp hw with hw | hw
    · simp only [List.mem_cons, List.not_mem_nil, or_false] at hw
      rcases hw with rfl | rfl | rfl
      · exact w1
      · exact w2
      · exact ini_at hm
    · exact wsOf_in hm w hw
  · have := hm.2.2.2
    show 8 + (mMax y' + 11) + 64 * d ≤ R.locals
    omega
end
section
variable {G : GT} {d y pc : Nat} {ls : List (Nat × Value)} {st : List Value} {M : Mem} {Q Q' : Option Value → Mem → Prop}
theorem At.callSN {idx y' n : Nat} {As rest : List Value} (hd : decode (mCode y) pc = .ok (.invokestatic idx, 3)) (hq : (mOwn y, idx, y', n) ∈ stanTab) (hn : As.length = n) (hcat : (rest.map fun v => v.category).sum ≤ 8) (hst : st = As.reverse ++ rest)
    (h : Cl G d y' As M (fun r M1 => At G (d + 1) y (pc + 3) ls (r.toList ++ rest) M1 Q)) : At G (d + 1) y pc ls st M Q := by
  subst hst
  refine At.call rfl h (fun p e s m args below meth c R H locs cells slots la r1 M1 C f1 f2 hP hS hz k1 k2 hE => ?_)
  obtain ⟨⟨o1, o2, o3, o4⟩, w1x, w2⟩ := stanTab_ok _ hq
  obtain ⟨host, w1⟩ := w1x
  dsimp only at o1 o2 o3 o4 w2
  have hm : mOk y' := m_ok o1
  have C' := C
  obtain ⟨hx, hb, hml, hown, hts, hSk, -⟩ := C'
  have hl : va_Nw (.methodLinkNest (clsN (mOwn y)) idx (mNm y') host) s := hSk.2.1 (clsN (mOwn y), idx, mNm y', host) w1
  have hcn : va_CN R s args (clsN (mOwn y)) idx (mNm y') host (mCode y') (mMax y') (mRet y') (wsOf y') (rmx d (mN M1 - mN M) (mS M1 - mS M)) (mN M1 - mN M) (mS M1 - mS M) n := va_cnB (ws' := lw_good) n hts (good_sub (wsOf_in hm)) rfl rfl rfl hl (hts _ (ini_at hm)) ⟨o2, o3, o4⟩ ⟨f1, by have := hm.2.2.2; show 8 + (mMax y' + 11) + 64 * d ≤ R.locals; omega⟩
  exact va_runSN (As := As) (rest := rest) ⟨hx, hb, hml, hown, hts⟩ hE ⟨hcn, hts _ w2, trivial⟩ (pre_at C hP hS) rfl hn hz rfl (lv_room hcat) hd ⟨k1, k2⟩
end
section
variable {G : GT} {d y pc : Nat} {ls : List (Nat × Value)} {st : List Value} {M : Mem} {Q Q' : Option Value → Mem → Prop}
theorem cat1 (r : Option Value) (hr : r = none) (rest : List Value) : r.toList ++ rest = rest := by rw [hr]; rfl
theorem At.callI {idx y' n b : Nat} {As rest : List Value} (hd : decode (mCode y) pc = .ok (.invokespecial idx, 3)) (hq : (mOwn y, idx, y', n) ∈ iniTab) (hret : mRet y' = none) (hn : As.length = n) (hcat : (rest.map fun v => v.category).sum ≤ 8) (hst : st = As.reverse ++ .ref b :: rest)
    (h : Cl G d y' (.ref b :: As) M (fun r M1 => At G (d + 1) y (pc + 3) ls (r.toList ++ rest) M1 Q)) : At G (d + 1) y pc ls st M Q := by
  subst hst
  refine At.call rfl h (fun p e s m args below meth c R H locs cells slots la r1 M1 C f1 f2 hP hS hz k1 k2 hE => ?_)
  obtain ⟨⟨o1, o2, o3, o4⟩, w1, w2, w3⟩ := iniTab_ok _ hq
  dsimp only at o1 o2 o3 o4 w1 w2 w3
  have hm : mOk y' := m_ok o1
  have C' := C
  obtain ⟨hx, hb, hml, hown, hts, -⟩ := C'
  refine va_runI (bytes := mCode y') (maxL := mMax y') (As := As) (rest := rest) ⟨hx, hb, hml, hown, hts⟩ hE (cwI (ws' := lw_good) n hts (good_sub (wsOf_in hm)) (wsOf_none hret) rfl rfl (hts _ (ini_at hm)) (hts _ w1) (hts _ w2) w3 ⟨o2, o3, o4⟩ ⟨f1, ?_⟩) (pre_at C hP hS) rfl hn hz rfl (lv_room hcat) hd ⟨k1, k2⟩
  have := hm.2.2.2
  show 8 + (mMax y' + 11) + 64 * d ≤ R.locals
  omega
end
section
variable {G : GT} {d y pc : Nat} {ls : List (Nat × Value)} {st : List Value} {M : Mem} {Q Q' : Option Value → Mem → Prop}
theorem At.callIN {idx y' n b : Nat} {As rest : List Value} (hd : decode (mCode y) pc = .ok (.invokespecial idx, 3)) (hq : (mOwn y, idx, y', n) ∈ ininTab) (hret : mRet y' = none) (hn : As.length = n) (hcat : (rest.map fun v => v.category).sum ≤ 8) (hst : st = As.reverse ++ .ref b :: rest)
    (h : Cl G d y' (.ref b :: As) M (fun r M1 => At G (d + 1) y (pc + 3) ls (r.toList ++ rest) M1 Q)) : At G (d + 1) y pc ls st M Q := by
  subst hst
  refine At.call rfl h (fun p e s m args below meth c R H locs cells slots la r1 M1 C f1 f2 hP hS hz k1 k2 hE => ?_)
  obtain ⟨⟨o1, o2, o3, o4⟩, ⟨host, w1⟩, w2, w3⟩ := ininTab_ok _ hq
  dsimp only at o1 o2 o3 o4 w1 w2 w3
  have hm : mOk y' := m_ok o1
  have C' := C
  obtain ⟨hx, hb, hml, hown, hts, hSk, -⟩ := C'
  refine va_runIN (bytes := mCode y') (maxL := mMax y') (As := As) (rest := rest) ⟨hx, hb, hml, hown, hts⟩ hE ⟨va_cnB (ws' := lw_good) n hts (good_sub (wsOf_in hm)) (wsOf_none hret) rfl rfl (hSk.2.1 (clsN (mOwn y), idx, mNm y', host) w1) (hts _ (ini_at hm)) ⟨o2, o3, o4⟩ ⟨f1, ?_⟩, w3, hts _ w2⟩ (pre_at C hP hS) rfl hn hz rfl (lv_room hcat) hd ⟨k1, k2⟩
  have := hm.2.2.2
  show 8 + (mMax y' + 11) + 64 * d ≤ R.locals
  omega
end
