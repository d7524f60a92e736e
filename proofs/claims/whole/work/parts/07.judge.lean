/-! THE JUDGEMENTS -/
def strB : List (List Int32) := [[105, 110, 115, 32, 100, 101, 108, 32, 99, 97, 112, 32, 108, 111, 119, 32, 109, 111, 118, 101, 32, 115, 116, 101, 116, 32, 115, 119, 97, 112, 32, 99, 108, 111, 115, 101], [115, 116, 97, 110, 100, 115], [114, 97, 110, 107, 32, 104, 97, 110, 100, 32, 110, 117, 109, 98, 101, 114, 32, 107, 105, 110, 100, 32, 108, 111, 110, 103, 32, 112, 108, 97, 99, 101, 32, 97, 103, 114, 101, 101], [105, 102], [110, 111, 116], [97, 110, 100], [111, 114], [105, 110, 115], [100, 101, 108], [99, 97, 112], [108, 111, 119], [109, 111, 118, 101], [115, 116, 101, 116], [115, 119, 97, 112], [99, 108, 111, 115, 101], [115, 116, 97, 110, 100, 115], [114, 97, 110, 107], [104, 97, 110, 100], [110, 117, 109, 98, 101, 114], [107, 105, 110, 100], [108, 111, 110, 103], [112, 108, 97, 99, 101], [97, 103, 114, 101, 101], [105, 102], [110, 111, 116], [97, 110, 100], [111, 114]]
/-- what the tables say at a state: classes, array classes, nest mates' links, String constants' cells -/
def Sk (G : GT) (s : State) : Prop := va_K (gD G) vwCl (tysG G) s ∧ (∀ q ∈ nestL, va_Nw (.methodLinkNest q.1 q.2.1 q.2.2.1 q.2.2.2) s) ∧ (∀ K, 18 ≤ K → K ≤ 21 → va_AO (clsN (elN K)) s) ∧ (∀ (i : Nat) (q : String × Nat × String), strL[i]? = some q → vk_R q.1 q.2.1 q.2.2 (gk G i) s) ∧ va_Nw (.castable "[I" "java/lang/Cloneable") s
/-- what the old heap holds: String constants, two statics, the script -/
def Sh (G : GT) (s : State) (H : Heap) : Prop :=
  (∀ i, i < 27 → va_O "java/lang/String" (gk G i) (gA G) s H ∧ va_OF "java/lang/String" "coder" "B" (.int 0) (gk G i) (gA G) s H ∧ va_OF "java/lang/String" "value" "[B" (.ref (gv G i)) (gk G i) (gA G) s H ∧ va_T .byte (gv G i) (strB.getD i []).length (fun j => .int ((strB.getD i []).getD j 0)) (gA G) s H)
  ∧ va_Z "java/lang/String" "COMPACT_STRINGS" "Z" (.int 1) (gA G) s H ∧ va_Zq "jdk/internal/util/Preconditions" "SIOOBE_FORMATTER" "Ljava/util/function/BiFunction;" (gA G) s H ∧ va_X (gb G) (gL G) (gx G) s H ∧ ¬ gA G (gb G)
theorem Sk.same {G : GT} {u U : State} (h : u.vm = U.vm) (hs : Sk G u) : Sk G U := by
  have ha : u.vm.Alike U.vm := by rw [h]; exact Vm.Alike.refl _
  exact ⟨hs.1.moved ha, fun q hq => (hs.2.1 q hq).same rfl h, fun K h1 h2 => (hs.2.2.1 K h1 h2).moved ha, fun i q hq => (hs.2.2.2.1 i q hq).same h.symm, hs.2.2.2.2.same rfl h⟩
theorem Sk.warm {G : GT} {s U : State} (h : s.WarmedH U.vm) (hs : Sk G s) : Sk G U :=
  ⟨hs.1.moved h.alike, fun q hq => (hs.2.1 q hq).warmM h, fun K h1 h2 => (hs.2.2.1 K h1 h2).moved h.alike, fun i q hq => (hs.2.2.2.1 i q hq).warm h, hs.2.2.2.2.warmC h⟩
theorem Sh.moved {G : GT} {u U : State} {H : Heap} (ha : u.vm.Alike U.vm) (h : Sh G u H) : Sh G U H :=
  ⟨fun i hi => ⟨va_O.moved ha (h.1 i hi).1, va_OF.moved ha (h.1 i hi).2.1, va_OF.moved ha (h.1 i hi).2.2.1, va_T.moved ha (h.1 i hi).2.2.2⟩, h.2.1.moved ha, h.2.2.1.moved ha, h.2.2.2.1.moved ha, h.2.2.2.2⟩
theorem Sh.kept {G : GT} {U : State} {H H1 : Heap} (h : Sh G U H) (hq : ∀ a : Nat, a < H.size → ¬ gA G a → H1[a]? = H[a]?) : Sh G U H1 :=
  ⟨fun i hi => ⟨(h.1 i hi).1.kept hq, (h.1 i hi).2.1.kept hq, (h.1 i hi).2.2.1.kept hq, (h.1 i hi).2.2.2.kept hq⟩, h.2.1.kept hq, h.2.2.1.kept hq, h.2.2.2.1.kept (by
    obtain ⟨scr, h1, -⟩ := h.2.2.2.1
    exact hq _ (Array.getElem?_eq_some_iff.mp h1).1 h.2.2.2.2), h.2.2.2.2⟩
def Cx (G : GT) (y : Nat) (p : Program) (s : State) (m : MethodId) (args : Array Value) (meth : Method) (c : Code) : Prop :=
  p.tables.exec = Jvm.exec ∧ c.code = mCode y ∧ c.maxLocals = mMax y ∧ s.vm.findClass (clsN (mOwn y)) = some m.cls ∧ (∀ w ∈ lw_good, w.before args s = true) ∧ Sk G s ∧ meth.name = (mNm y).name ∧ Sh G s s.heap ∧ g0 G ≤ s.heap.size
def IsRet (y pc : Nat) (r : Option Value) : Prop :=
  (∃ v ty, r = some (.int v) ∧ decode (mCode y) pc = .ok (.ireturn, 1) ∧ mRet y = some ty ∧ narrow ty (.int v) = .int v) ∨ (∃ v, r = some (.long v) ∧ decode (mCode y) pc = .ok (.lreturn, 1) ∧ mRet y = some .long) ∨ (∃ v rt, r = some v ∧ (v = .null ∨ ∃ a, v = .ref a) ∧ decode (mCode y) pc = .ok (.areturn, 1) ∧ mRet y = some rt ∧ ((∃ n, rt = .object n) ∨ ∃ t, rt = .array t)) ∨ (r = none ∧ decode (mCode y) pc = .ok (.return_, 1) ∧ mRet y = none)
/-- from this place of method y the machine comes to a return with the answer r and the memory M' -/
def AtX (G : GT) (d y pc : Nat) (ls : List (Nat × Value)) (st : List Value) (M : Mem) (r : Option Value) (M' : Mem) : Prop :=
  ∀ (p : Program) (e : Env) (s : State) (m : MethodId) (args : Array Value) (below : List Frame) (meth : Method) (c : Code) (R : Room) (H : Heap) (locs : List Loc) (cells slots : Nat) (la : Array Slot) (Qw : State → Prop),
    Cx G y p s m args meth c → d ≤ R.frames → 64 * d ≤ R.locals → Pool G M H → va_S (gA G) s.heap H locs → lv_has la (mMax y) ls → cells + (mN M' - mN M) ≤ R.cells → slots + (mS M' - mS M) ≤ R.slots →
    (∀ (H' : Heap) (locs' : List Loc) (la' : Array Slot) (pc' : Nat), Pool G M' H' → va_S (gA G) s.heap H' locs' → IsRet y pc' r → W p (gl G) e R s m args below meth c H' locs' (cells + (mN M' - mN M)) (slots + (mS M' - mS M)) Qw (F0 m pc' la' r.toList)) →
    W p (gl G) e R s m args below meth c H locs cells slots Qw (F0 m pc la st)
def At (G : GT) (d y pc : Nat) (ls : List (Nat × Value)) (st : List Value) (M : Mem) (Q : Option Value → Mem → Prop) : Prop :=
  ∃ (r : Option Value) (M' : Mem), Q r M' ∧ mN M ≤ mN M' ∧ mS M ≤ mS M' ∧ AtX G d y pc ls st M r M'
def Pcx (G : GT) (M : Mem) (U : State) : Prop := Pool G M U.heap ∧ Sk G U ∧ Sh G U U.heap ∧ g0 G ≤ U.heap.size
def Qcx (G : GT) (r : Option Value) (M' : Mem) : Array Value → State → Outcome → State → Prop := fun _ st o t => (o = .returned r ∧ Pool G M' t.heap) ∧ va_F (gA G) st t
def rmx (d mc ms : Nat) : Room := { frames := d, cells := mc, slots := ms, locals := 64 * d }
def wsOf (y : Nat) : List Cond := Cond.code (mNm y) (mCode y) (mMax y) (mRet y) :: lw_good
def Ex (G : GT) (d y : Nat) (av : List Value) (M : Mem) (r : Option Value) (M' : Mem) : Prop :=
  Met (gl G) (mNm y) (wsOf y) (rmx d (mN M' - mN M) (mS M' - mS M)) (va_Pc av (Pcx G M)) (Qcx G r M') (mN M' - mN M) (mS M' - mS M) (gA G)
/-- the call of y with these arguments comes back, with Q -/
def Cl (G : GT) (d y : Nat) (av : List Value) (M : Mem) (Q : Option Value → Mem → Prop) : Prop :=
  ∃ (r : Option Value) (M' : Mem), Q r M' ∧ mN M ≤ mN M' ∧ mS M ≤ mS M' ∧ Ex G d y av M r M'
section
variable {G : GT} {d y pc : Nat} {ls : List (Nat × Value)} {st : List Value} {M : Mem} {Q Q' : Option Value → Mem → Prop}
theorem At.mono (h : At G d y pc ls st M Q) (hq : ∀ r M', Q r M' → Q' r M') : At G d y pc ls st M Q' := by
  obtain ⟨r, M', h1, h2⟩ := h
  exact ⟨r, M', hq r M' h1, h2⟩
theorem Cl.mono {av : List Value} (h : Cl G d y av M Q) (hq : ∀ r M', Q r M' → Q' r M') : Cl G d y av M Q' := by
  obtain ⟨r, M', h1, h2⟩ := h
  exact ⟨r, M', hq r M' h1, h2⟩
/-- fewer locals need be known -/
theorem At.sub {l' : List (Nat × Value)} (hs : ∀ q ∈ l', q ∈ ls) (h : At G d y pc l' st M Q) : At G d y pc ls st M Q := by
  obtain ⟨r, M', h1, h2, h3, h4⟩ := h
  exact ⟨r, M', h1, h2, h3, fun p e s m args below meth c R H locs cells slots la Qw C f1 f2 hP hS hl => h4 p e s m args below meth c R H locs cells slots la Qw C f1 f2 hP hS (hl.mono hs)⟩
theorem At.keep (ks : List Nat) (h : At G d y pc (ls.filter (fun q => ks.contains q.1)) st M Q) : At G d y pc ls st M Q := At.sub (fun _ hq => (List.mem_filter.mp hq).1) h
/-- an instruction that leaves the memory as it is -/
theorem At.step {pc' : Nat} {ls' : List (Nat × Value)} {st' : List Value} (h : At G d y pc' ls' st' M Q)
    (hs : ∀ (p : Program) (e : Env) (s : State) (m : MethodId) (args : Array Value) (below : List Frame) (meth : Method) (c : Code) (R : Room) (H : Heap) (locs : List Loc) (cells slots : Nat) (la : Array Slot) (Qw : State → Prop), Cx G y p s m args meth c → d ≤ R.frames → 64 * d ≤ R.locals → Pool G M H → va_S (gA G) s.heap H locs → lv_has la (mMax y) ls → cells ≤ R.cells → slots ≤ R.slots →
      (∀ la', lv_has la' (mMax y) ls' → W p (gl G) e R s m args below meth c H locs cells slots Qw (F0 m pc' la' st')) → W p (gl G) e R s m args below meth c H locs cells slots Qw (F0 m pc la st)) : At G d y pc ls st M Q := by
  obtain ⟨r, M', h1, h2, h3, h4⟩ := h
  refine ⟨r, M', h1, h2, h3, fun p e s m args below meth c R H locs cells slots la Qw C f1 f2 hP hS hl k1 k2 hw => ?_⟩
  exact hs p e s m args below meth c R H locs cells slots la Qw C f1 f2 hP hS hl (by omega) (by omega) (fun la' hl' => h4 p e s m args below meth c R H locs cells slots la' Qw C f1 f2 hP hS hl' k1 k2 hw)
/-- an instruction that writes a cell -/
theorem At.stepM {pc' : Nat} {st' : List Value} {M1 : Mem} (hn : mN M1 = mN M) (hsl : mS M1 = mS M) (h : At G d y pc' ls st' M1 Q)
    (hs : ∀ (p : Program) (e : Env) (s : State) (m : MethodId) (args : Array Value) (below : List Frame) (meth : Method) (c : Code) (R : Room) (H : Heap) (locs : List Loc) (cells slots : Nat) (la : Array Slot) (Qw : State → Prop), Cx G y p s m args meth c → d ≤ R.frames → 64 * d ≤ R.locals → Pool G M H → va_S (gA G) s.heap H locs → lv_has la (mMax y) ls →
      (∀ H' locs', Pool G M1 H' → va_S (gA G) s.heap H' locs' → W p (gl G) e R s m args below meth c H' locs' cells slots Qw (F0 m pc' la st')) → W p (gl G) e R s m args below meth c H locs cells slots Qw (F0 m pc la st)) : At G d y pc ls st M Q := by
  obtain ⟨r, M', h1, h2, h3, h4⟩ := h
  rw [hn] at h2
  rw [hsl] at h3
  refine ⟨r, M', h1, h2, h3, fun p e s m args below meth c R H locs cells slots la Qw C f1 f2 hP hS hl k1 k2 hw => ?_⟩
  refine hs p e s m args below meth c R H locs cells slots la Qw C f1 f2 hP hS hl (fun H' locs' hP' hS' => ?_)
  exact h4 p e s m args below meth c R H' locs' cells slots la Qw C f1 f2 hP' hS' hl (by rw [hn]; exact k1) (by rw [hsl]; exact k2) (by rw [hn, hsl]; exact hw)
/-- an instruction that makes a cell of n slots -/
theorem At.stepN {pc' n : Nat} {st' : List Value} {M1 : Mem} (hn : mN M1 = mN M + 1) (hsl : mS M1 = mS M + n) (h : At G d y pc' ls st' M1 Q)
    (hs : ∀ (p : Program) (e : Env) (s : State) (m : MethodId) (args : Array Value) (below : List Frame) (meth : Method) (c : Code) (R : Room) (H : Heap) (locs : List Loc) (cells slots : Nat) (la : Array Slot) (Qw : State → Prop), Cx G y p s m args meth c → Pool G M H → va_S (gA G) s.heap H locs → lv_has la (mMax y) ls → cells + 1 ≤ R.cells → slots + n ≤ R.slots →
      (∀ H' locs', Pool G M1 H' → va_S (gA G) s.heap H' locs' → W p (gl G) e R s m args below meth c H' locs' (cells + 1) (slots + n) Qw (F0 m pc' la st')) → W p (gl G) e R s m args below meth c H locs cells slots Qw (F0 m pc la st)) : At G d y pc ls st M Q := by
  obtain ⟨r, M', h1, h2, h3, h4⟩ := h
  rw [hn] at h2
  rw [hsl] at h3
  refine ⟨r, M', h1, by omega, by omega, fun p e s m args below meth c R H locs cells slots la Qw C f1 f2 hP hS hl k1 k2 hw => ?_⟩
  refine hs p e s m args below meth c R H locs cells slots la Qw C hP hS hl (by omega) (by omega) (fun H' locs' hP' hS' => ?_)
  have e1 : cells + 1 + (mN M' - mN M1) = cells + (mN M' - mN M) := by rw [hn]; omega
  have e2 : slots + n + (mS M' - mS M1) = slots + (mS M' - mS M) := by rw [hsl]; omega
  exact h4 p e s m args below meth c R H' locs' (cells + 1) (slots + n) la Qw C f1 f2 hP' hS' hl (by rw [e1]; exact k1) (by rw [e2]; exact k2) (by rw [e1, e2]; exact hw)
/-- a return -/
theorem At.ret {r : Option Value} (hq : Q r M) (hr : IsRet y pc r) (hst : st = r.toList) : At G d y pc ls st M Q := by
  subst hst
  refine ⟨r, M, hq, Nat.le_refl _, Nat.le_refl _, fun p e s m args below meth c R H locs cells slots la Qw C f1 f2 hP hS hl k1 k2 hw => ?_⟩
  have := hw H locs la pc hP hS hr
  simpa using this
end
