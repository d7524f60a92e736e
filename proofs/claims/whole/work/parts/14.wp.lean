/-! THE VERIFICATION CONDITION of a list of instructions
an entry: place, instruction, length, a, b, t (what its operands mean), an int, a long, the targets of a switch -/
abbrev Ins : Type := Nat × Instr × Nat × Nat × Nat × Nat × Int32 × Int64 × List Nat
abbrev Po : Type := Option Value → Mem → Prop
abbrev Cont : Type := List (Nat × Value) → List Value → Mem → Po → Prop
def wRef (o : Option Nat) (f : Value → Prop) : Prop := (∃ r, o = some r ∧ f (.ref r)) ∨ (o = none ∧ f .null)
def w1r (o : Option Value) (f : Value → Prop) : Prop := match o with
  | some (.ref r) => f (.ref r) | some .null => f .null | _ => False
def w1i (o : Option Value) (f : Int32 → Prop) : Prop := match o with
  | some (.int x) => f x | _ => False
def w1l (o : Option Value) (f : Int64 → Prop) : Prop := match o with
  | some (.long x) => f x | _ => False
def wI (st : List Value) (f : Int32 → List Value → Prop) : Prop := match st with
  | .int p :: st => f p st | _ => False
def wII (st : List Value) (f : Int32 → Int32 → List Value → Prop) : Prop := match st with
  | .int q :: .int p :: st => f p q st | _ => False
def wL (st : List Value) (f : Int64 → List Value → Prop) : Prop := match st with
  | .long p :: st => f p st | _ => False
def wLL (st : List Value) (f : Int64 → Int64 → List Value → Prop) : Prop := match st with
  | .long q :: .long p :: st => f p q st | _ => False
def wLI (st : List Value) (f : Int64 → Int32 → List Value → Prop) : Prop := match st with
  | .int q :: .long p :: st => f p q st | _ => False
def wA (st : List Value) (f : Nat → List Value → Prop) : Prop := match st with
  | .ref a :: st => f a st | _ => False
def wIA (st : List Value) (f : Nat → Int32 → List Value → Prop) : Prop := match st with
  | .int i :: .ref a :: st => f a i st | _ => False
def wIIA (st : List Value) (f : Nat → Int32 → Int32 → List Value → Prop) : Prop := match st with
  | .int x :: .int i :: .ref a :: st => f a i x st | _ => False
def wLIA (st : List Value) (f : Nat → Int32 → Int64 → List Value → Prop) : Prop := match st with
  | .long x :: .int i :: .ref a :: st => f a i x st | _ => False
def wV1 (st : List Value) (f : Value → List Value → Prop) : Prop := match st with
  | .int x :: st => f (.int x) st | .ref a :: st => f (.ref a) st | .null :: st => f .null st | _ => False
def wAC (st : List Value) (f : Int32 → Int32 → Nat → Int32 → Nat → List Value → Prop) : Prop := match st with
  | .int n :: .int dp :: .ref a1 :: .int sp :: .ref a0 :: st => f n dp a1 sp a0 st | _ => False
def wSw (x : Int32) (lo : Int) (k : Nat → Prop) : List Nat → Prop
  | [] => True
  | t :: ts => (x.toInt = lo → k t) ∧ wSw x (lo + 1) k ts
/-- arguments off the stack: the first n, in order, and the rest -/
def wPop (n : Nat) (st : List Value) (f : List Value → List Value → Prop) : Prop := n ≤ st.length ∧ f (st.take n).reverse (st.drop n)
def catOk (st : List Value) : Prop := (st.map fun v => v.category).sum ≤ 8
def wp1 (G : GT) (d y : Nat) (i : Ins) (k : Nat → Cont) (ls : List (Nat × Value)) (st : List Value) (M : Mem) (Q : Po) : Prop :=
  match i with
  | (pc, ins, len, a, b, t, x, z, js) =>
  match ins with
  | .aload_n _ => w1r (lget ls a) fun v => k (pc + len) ls (v :: st) M Q
  | .aload _ => w1r (lget ls a) fun v => k (pc + len) ls (v :: st) M Q
  | .iload_n _ => w1i (lget ls a) fun v => k (pc + len) ls (.int v :: st) M Q
  | .iload _ => w1i (lget ls a) fun v => k (pc + len) ls (.int v :: st) M Q
  | .lload_n _ => w1l (lget ls a) fun v => k (pc + len) ls (.long v :: st) M Q
  | .lload _ => w1l (lget ls a) fun v => k (pc + len) ls (.long v :: st) M Q
  | .istore_n _ => wI st fun v st => k (pc + len) (lset1 ls a (.int v)) st M Q
  | .istore _ => wI st fun v st => k (pc + len) (lset1 ls a (.int v)) st M Q
  | .lstore_n _ => wL st fun v st => k (pc + len) (lset2 ls a (.long v)) st M Q
  | .lstore _ => wL st fun v st => k (pc + len) (lset2 ls a (.long v)) st M Q
  | .astore_n _ => (match st with | .ref r :: st => k (pc + len) (lset1 ls a (.ref r)) st M Q | .null :: st => k (pc + len) (lset1 ls a .null) st M Q | _ => False)
  | .astore _ => (match st with | .ref r :: st => k (pc + len) (lset1 ls a (.ref r)) st M Q | .null :: st => k (pc + len) (lset1 ls a .null) st M Q | _ => False)
  | .iconst _ => k (pc + len) ls (.int x :: st) M Q
  | .bipush _ => k (pc + len) ls (.int x :: st) M Q
  | .sipush _ => k (pc + len) ls (.int x :: st) M Q
  | .ldc _ => if t = 0 then k (pc + len) ls (.int x :: st) M Q else k (pc + len) ls (.ref (gk G a) :: st) M Q
  | .ldc_w _ => if t = 0 then k (pc + len) ls (.int x :: st) M Q else k (pc + len) ls (.ref (gk G a) :: st) M Q
  | .lconst _ => k (pc + len) ls (.long z :: st) M Q
  | .ldc2_w _ => k (pc + len) ls (.long z :: st) M Q
  | .aconst_null => k (pc + len) ls (.null :: st) M Q
  | .iadd => wII st fun p q st => k (pc + len) ls (.int (p + q) :: st) M Q
  | .isub => wII st fun p q st => k (pc + len) ls (.int (p - q) :: st) M Q
  | .imul => wII st fun p q st => k (pc + len) ls (.int (p * q) :: st) M Q
  | .iand => wII st fun p q st => k (pc + len) ls (.int (p &&& q) :: st) M Q
  | .ior => wII st fun p q st => k (pc + len) ls (.int (p ||| q) :: st) M Q
  | .ixor => wII st fun p q st => k (pc + len) ls (.int (p ^^^ q) :: st) M Q
  | .ishl => wII st fun p q st => k (pc + len) ls (.int (p <<< (q &&& 31)) :: st) M Q
  | .ishr => wII st fun p q st => k (pc + len) ls (.int (p >>> (q &&& 31)) :: st) M Q
  | .iushr => wII st fun p q st => k (pc + len) ls (.int ((p.toUInt32 >>> (q.toUInt32 &&& Int32.toUInt32 31)).toInt32) :: st) M Q
  | .idiv => wII st fun p q st => ¬ q = 0 ∧ k (pc + len) ls (.int (p / q) :: st) M Q
  | .irem => wII st fun p q st => ¬ q = 0 ∧ k (pc + len) ls (.int (p - p / q * q) :: st) M Q
  | .ladd => wLL st fun p q st => k (pc + len) ls (.long (p + q) :: st) M Q
  | .lsub => wLL st fun p q st => k (pc + len) ls (.long (p - q) :: st) M Q
  | .lmul => wLL st fun p q st => k (pc + len) ls (.long (p * q) :: st) M Q
  | .land => wLL st fun p q st => k (pc + len) ls (.long (p &&& q) :: st) M Q
  | .lor => wLL st fun p q st => k (pc + len) ls (.long (p ||| q) :: st) M Q
  | .lxor => wLL st fun p q st => k (pc + len) ls (.long (p ^^^ q) :: st) M Q
  | .ldiv => wLL st fun p q st => ¬ q = 0 ∧ k (pc + len) ls (.long (p / q) :: st) M Q
  | .lshl => wLI st fun p q st => k (pc + len) ls (.long (p <<< (q.toInt64 &&& 63)) :: st) M Q
  | .lushr => wLI st fun p q st => k (pc + len) ls (.long ((p.toUInt64 >>> (q.toInt64.toUInt64 &&& Int64.toUInt64 63)).toInt64) :: st) M Q
  | .lcmp => wLL st fun p q st => k (pc + len) ls (.int (lg_cmp p q) :: st) M Q
  | .i2l => wI st fun p st => k (pc + len) ls (.long p.toInt64 :: st) M Q
  | .l2i => wL st fun p st => k (pc + len) ls (.int p.toInt32 :: st) M Q
  | .i2b => wI st fun p st => k (pc + len) ls (.int p.toInt8.toInt32 :: st) M Q
  | .i2c => wI st fun p st => k (pc + len) ls (.int (p.toUInt32 % 65536).toInt32 :: st) M Q
  | .dup => wV1 st fun v st => k (pc + len) ls (v :: v :: st) M Q
  | .pop => wV1 st fun _ st => k (pc + len) ls st M Q
  | .dup2 => wV1 st fun v st => wV1 st fun w st => k (pc + len) ls (v :: w :: v :: w :: st) M Q
  | .iinc _ _ => w1i (lget ls a) fun v => k (pc + len) (lset1 ls a (.int (v + x))) st M Q
  | .goto _ => k a ls st M Q
  | .ifCond .eq _ => wI st fun p st => (p = 0 → k a ls st M Q) ∧ (¬ p = 0 → k (pc + len) ls st M Q)
  | .ifCond .ne _ => wI st fun p st => (¬ p = 0 → k a ls st M Q) ∧ (p = 0 → k (pc + len) ls st M Q)
  | .ifCond .lt _ => wI st fun p st => (p < 0 → k a ls st M Q) ∧ (¬ p < 0 → k (pc + len) ls st M Q)
  | .ifCond .ge _ => wI st fun p st => (0 ≤ p → k a ls st M Q) ∧ (¬ 0 ≤ p → k (pc + len) ls st M Q)
  | .ifCond .gt _ => wI st fun p st => (0 < p → k a ls st M Q) ∧ (¬ 0 < p → k (pc + len) ls st M Q)
  | .ifCond .le _ => wI st fun p st => (p ≤ 0 → k a ls st M Q) ∧ (¬ p ≤ 0 → k (pc + len) ls st M Q)
  | .if_icmp .eq _ => wII st fun p q st => (p = q → k a ls st M Q) ∧ (¬ p = q → k (pc + len) ls st M Q)
  | .if_icmp .ne _ => wII st fun p q st => (¬ p = q → k a ls st M Q) ∧ (p = q → k (pc + len) ls st M Q)
  | .if_icmp .lt _ => wII st fun p q st => (p < q → k a ls st M Q) ∧ (¬ p < q → k (pc + len) ls st M Q)
  | .if_icmp .ge _ => wII st fun p q st => (q ≤ p → k a ls st M Q) ∧ (¬ q ≤ p → k (pc + len) ls st M Q)
  | .if_icmp .gt _ => wII st fun p q st => (q < p → k a ls st M Q) ∧ (¬ q < p → k (pc + len) ls st M Q)
  | .if_icmp .le _ => wII st fun p q st => (p ≤ q → k a ls st M Q) ∧ (¬ p ≤ q → k (pc + len) ls st M Q)
  | .ifnull _ => (match st with | .ref _ :: st => k (pc + len) ls st M Q | .null :: st => k a ls st M Q | _ => False)
  | .ifnonnull _ => (match st with | .ref _ :: st => k a ls st M Q | .null :: st => k (pc + len) ls st M Q | _ => False)
  | .tableswitch _ lo hi _ => wI st fun p st => (p.toInt < lo ∨ hi < p.toInt → k a ls st M Q) ∧ wSw p lo (fun t => k t ls st M Q) js
  | .getfield _ => wA st fun h st => mK M h = a + 1 ∧ (match t with | 0 => k (pc + len) ls (.int (vi M h b) :: st) M Q | 1 => k (pc + len) ls (.long (vl M h b) :: st) M Q | 2 => wRef (vr M h b) (fun v => k (pc + len) ls (v :: st) M Q) | _ => k (pc + len) ls (.int (vi M h b) :: st) M Q)
  | .putfield _ => (match st with
    | .int v :: .ref h :: st => mK M h = a + 1 ∧ (t = 0 ∨ t = 3) ∧ (t = 3 → v = 0 ∨ v = 1) ∧ k (pc + len) ls st (seti M h b v) Q
    | .long v :: .ref h :: st => mK M h = a + 1 ∧ t = 1 ∧ k (pc + len) ls st (setl M h b v) Q
    | .ref v :: .ref h :: st => mK M h = a + 1 ∧ t = 2 ∧ k (pc + len) ls st (setr M h b (some v)) Q
    | .null :: .ref h :: st => mK M h = a + 1 ∧ t = 2 ∧ k (pc + len) ls st (setr M h b none) Q
    | _ => False)
  | .iaload => wIA st fun h j st => (mK M h = 15 ∧ vp_in j (mA M h) ∧ k (pc + len) ls (.int (vi M h j.toNatClampNeg) :: st) M Q) ∨ (h = gb G ∧ vp_in j (gL G) ∧ k (pc + len) ls (.int (gx G j.toNatClampNeg) :: st) M Q)
  | .baload => wIA st fun h j st => (mK M h = 14 ∨ mK M h = 17) ∧ vp_in j (mA M h) ∧ k (pc + len) ls (.int (vi M h j.toNatClampNeg) :: st) M Q
  | .laload => wIA st fun h j st => mK M h = 16 ∧ vp_in j (mA M h) ∧ k (pc + len) ls (.long (vl M h j.toNatClampNeg) :: st) M Q
  | .aaload => wIA st fun h j st => (18 ≤ mK M h ∧ mK M h ≤ 21) ∧ vp_in j (mA M h) ∧ wRef (vr M h j.toNatClampNeg) (fun v => k (pc + len) ls (v :: st) M Q)
  | .iastore => wIIA st fun h j v st => mK M h = 15 ∧ vp_in j (mA M h) ∧ k (pc + len) ls st (seti M h j.toNatClampNeg v) Q
  | .bastore => wIIA st fun h j v st => (mK M h = 14 ∧ vp_in j (mA M h) ∧ k (pc + len) ls st (seti M h j.toNatClampNeg v.toInt8.toInt32) Q) ∨ (mK M h = 17 ∧ vp_in j (mA M h) ∧ k (pc + len) ls st (seti M h j.toNatClampNeg (vp_nar .boolean v)) Q)
  | .lastore => wLIA st fun h j v st => mK M h = 16 ∧ vp_in j (mA M h) ∧ k (pc + len) ls st (setl M h j.toNatClampNeg v) Q
  | .aastore => (match st with
    | .ref v :: .int j :: .ref h :: st => (18 ≤ mK M h ∧ mK M h ≤ 21) ∧ vp_in j (mA M h) ∧ mK M v = elN (mK M h) + 1 ∧ k (pc + len) ls st (setr M h j.toNatClampNeg (some v)) Q
    | .null :: .int j :: .ref h :: st => (18 ≤ mK M h ∧ mK M h ≤ 21) ∧ vp_in j (mA M h) ∧ k (pc + len) ls st (setr M h j.toNatClampNeg none) Q
    | _ => False)
  | .arraylength => wA st fun h st => ((14 ≤ mK M h ∧ mK M h ≤ 21) ∧ k (pc + len) ls (.int (nI (mA M h)) :: st) M Q) ∨ (h = gb G ∧ k (pc + len) ls (.int (nI (gL G)) :: st) M Q)
  | .new _ => k (pc + len) ls (.ref (mN M) :: st) (mnew M (a + 1) (nF a)) Q
  | .newarray _ => wI st fun n st => ¬ n < 0 ∧ n.toNatClampNeg ≤ 1000000 ∧ k (pc + len) ls (.ref (mN M) :: st) (mnew M a n.toNatClampNeg) Q
  | .anewarray _ => wI st fun n st => ¬ n < 0 ∧ n.toNatClampNeg ≤ 1000000 ∧ k (pc + len) ls (.ref (mN M) :: st) (mnew M a n.toNatClampNeg) Q
  | .invokevirtual _ => (match t with
    | 10 => wPop b st fun as st => wA st fun h st => catOk st ∧ ∃ i, i < 27 ∧ h = gk G i ∧ Cl G d a (.ref h :: as) M (fun r M1 => k (pc + len) ls (r.toList ++ st) M1 Q)
    | 12 => wA st fun h st => catOk st ∧ mK M h = 15 ∧ k (pc + len) ls (.ref (mN M) :: st) (mcl M h) Q
    | _ => wPop b st fun as st => wA st fun h st => catOk st ∧ mK M h = mOwn a + 1 ∧ Cl G d a (.ref h :: as) M (fun r M1 => k (pc + len) ls (r.toList ++ st) M1 Q))
  | .checkcast _ => wA st fun h st => mK M h = 15 ∧ k (pc + len) ls (.ref h :: st) M Q
  | .invokestatic _ => (match t with
    | 7 => wII st fun p q st => catOk st ∧ k (pc + len) ls (.int (if q < p then q else p) :: st) M Q
    | 8 => wII st fun p q st => catOk st ∧ k (pc + len) ls (.int (if p < q then q else p) :: st) M Q
    | 9 => wAC st fun n dp a1 sp a0 st => catOk st ∧ ¬ sp < 0 ∧ ¬ dp < 0 ∧ ¬ n < 0 ∧ sp.toNatClampNeg + n.toNatClampNeg ≤ mA M a0 ∧ dp.toNatClampNeg + n.toNatClampNeg ≤ mA M a1 ∧ ((mK M a0 = 15 ∧ mK M a1 = 15 ∧ k (pc + len) ls st (cpi M a0 sp.toNatClampNeg a1 dp.toNatClampNeg n.toNatClampNeg) Q) ∨ (mK M a0 = 16 ∧ mK M a1 = 16 ∧ k (pc + len) ls st (cpl M a0 sp.toNatClampNeg a1 dp.toNatClampNeg n.toNatClampNeg) Q) ∨ (mK M a0 = 19 ∧ mK M a1 = 19 ∧ (∀ i, i < n.toNatClampNeg → ∀ z, vr M a0 (sp.toNatClampNeg + i) = some z → mK M z = 6) ∧ k (pc + len) ls st (cpr M a0 sp.toNatClampNeg a1 dp.toNatClampNeg n.toNatClampNeg) Q))
    | _ => wPop b st fun as st => catOk st ∧ Cl G d a as M (fun r M1 => k (pc + len) ls (r.toList ++ st) M1 Q))
  | .invokespecial _ => (match t with
    | 6 => wA st fun _ st => catOk st ∧ k (pc + len) ls st M Q
    | _ => wPop b st fun as st => wA st fun h st => catOk st ∧ Cl G d a (.ref h :: as) M (fun r M1 => k (pc + len) ls (r.toList ++ st) M1 Q))
  | .ireturn => (match st with | [.int v] => (t = 1 → v = 0 ∨ v = 1) ∧ Q (some (.int v)) M | _ => False)
  | .lreturn => (match st with | [.long v] => Q (some (.long v)) M | _ => False)
  | .areturn => (match st with | [.ref v] => Q (some (.ref v)) M | [.null] => Q (some .null) M | _ => False)
  | .return_ => (match st with | [] => Q none M | _ => False)
  | _ => False
/-- at place t: by this list as far as it goes, else by At -/
def wps (G : GT) (d y : Nat) : List Ins → Nat → Cont
  | [], t => At G (d + 1) y t
  | i :: r, t => if i.1 = t then wp1 G d y i (wps G d y r) else wps G d y r t
/-- an entry is what the code says -/
def okb (cd : ByteArray) (own ml : Nat) (init : Bool) (ret : Option FieldType) (i : Ins) : Bool :=
  match i with
  | (pc, ins, len, a, b, t, x, z, js) =>
  (match decode cd pc with | .ok (i', l') => decide (i' = ins) && decide (l' = len) | _ => false) &&
  (match ins with
  | .aload_n n => decide (n.val = a) && decide (len = 1)
  | .aload n => decide (n = a) && decide (len = 2)
  | .iload_n n => decide (n.val = a) && decide (len = 1)
  | .iload n => decide (n = a) && decide (len = 2)
  | .lload_n n => decide (n.val = a) && decide (len = 1)
  | .lload n => decide (n = a) && decide (len = 2)
  | .istore_n n => decide (n.val = a) && decide (len = 1) && decide (a < ml)
  | .istore n => decide (n = a) && decide (len = 2) && decide (a < ml)
  | .lstore_n n => decide (n.val = a) && decide (len = 1) && decide (a + 1 < ml)
  | .lstore n => decide (n = a) && decide (len = 2) && decide (a + 1 < ml)
  | .astore_n n => decide (n.val = a) && decide (len = 1) && decide (a < ml)
  | .astore n => decide (n = a) && decide (len = 2) && decide (a < ml)
  | .iconst n => decide (Int32.ofInt n = x) && decide (len = 1)
  | .bipush n => decide ((Int8.ofInt n).toInt32 = x) && decide (len = 2)
  | .sipush n => decide ((Int16.ofInt n).toInt32 = x) && decide (len = 3)
  | .ldc n => decide (len = 2) && ((decide (t = 0) && decide ((own, n, x) ∈ ldcTab)) || (decide (t = 1) && (match strL[a]? with | some q => decide (q.1 = clsN own) && decide (q.2.1 = n) | none => false)))
  | .ldc_w n => decide (len = 3) && ((decide (t = 0) && decide ((own, n, x) ∈ ldcTab)) || (decide (t = 1) && (match strL[a]? with | some q => decide (q.1 = clsN own) && decide (q.2.1 = n) | none => false)))
  | .lconst n => decide (Int64.ofNat n.val = z) && decide (len = 1)
  | .ldc2_w n => decide (len = 3) && decide ((own, n, z) ∈ ldlTab)
  | .iinc n c => decide (n = a) && decide (len = 3) && decide (Int32.ofInt c = x) && decide (a < ml)
  | .goto off => decide ((pc : Int) + off = (a : Int)) && decide (len = 3)
  | .ifCond _ off => decide ((pc : Int) + off = (a : Int)) && decide (len = 3)
  | .if_icmp _ off => decide ((pc : Int) + off = (a : Int)) && decide (len = 3)
  | .ifnull off => decide ((pc : Int) + off = (a : Int)) && decide (len = 3)
  | .ifnonnull off => decide ((pc : Int) + off = (a : Int)) && decide (len = 3)
  | .tableswitch df lo hi offs => decide ((pc : Int) + df = (a : Int)) && decide (offs.toList.map (fun o => (pc : Int) + o) = js.map (fun (t : Nat) => (t : Int))) && decide (hi - lo + 1 = (js.length : Int))
  | .getfield n => decide (len = 3) && (decide ((own, n, a, b, t, 0) ∈ fldTab) || decide ((own, n, a, b, t, 1) ∈ fldTab))
  | .putfield n => decide (len = 3) && (decide ((own, n, a, b, t, 0) ∈ fldTab) || (decide ((own, n, a, b, t, 1) ∈ fldTab) && init && decide (a = own)))
  | .new n => decide (len = 3) && decide ((own, n, a) ∈ newTab)
  | .newarray ty => decide (len = 2) && decide (arK ty = a) && decide (a ≠ 0)
  | .anewarray n => decide (len = 3) && decide ((own, n, a) ∈ anewTab)
  | .invokevirtual n => decide (len = 3) && ((decide (t = 0) && decide ((own, n, a, b) ∈ virTab)) || (decide (t = 10) && decide ((own, n, a, b) ∈ strvTab)) || (decide (t = 12) && decide (n = 316) && decide (own = 14)))
  | .checkcast n => decide (len = 3) && decide (n = 317) && decide (own = 14)
  | .invokestatic n => decide (len = 3) && ((decide (t = 9) && decide ((own, n) ∈ acTab)) || (decide (t = 7) && decide ((own, n) ∈ minTab)) || (decide (t = 8) && decide ((own, n) ∈ maxTab)) || (decide (t = 2) && decide ((own, n, a, b) ∈ staTab)) || (decide (t = 3) && decide ((own, n, a, b) ∈ stanTab)))
  | .invokespecial n => decide (len = 3) && ((decide (t = 6) && decide ((own, n) ∈ objTab)) || (decide (t = 4) && decide ((own, n, a, b) ∈ iniTab) && decide (mRet a = none)) || (decide (t = 5) && decide ((own, n, a, b) ∈ ininTab) && decide (mRet a = none)))
  | .ireturn => decide (len = 1) && ((decide (t = 0) && decide (ret = some .int)) || (decide (t = 1) && decide (ret = some .boolean)))
  | .lreturn => decide (len = 1) && decide (ret = some .long)
  | .areturn => decide (len = 1) && (match ret with | some (.object _) => true | some (.array _) => true | _ => false)
  | .return_ => decide (len = 1) && decide (ret = none)
  | _ => decide (len = 1))
def Ok (y : Nat) (i : Ins) : Prop := okb (mCode y) (mOwn y) (mMax y) (decide ((mNm y).name = "<init>")) (mRet y) i = true
