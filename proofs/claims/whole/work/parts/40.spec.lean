/-! WHAT IS ASKED FOR, as mathematics -/
/-! LAWS -/
def jn (c : Nat) (a b : Int64) : Int64 :=
  if c = 200000 then a + b else if c = 200001 then a - b else if c = 200002 then a * b else if c = 200003 then (if b = 0 then 0 else a / b)
  else if c = 200004 then (if a < b then 1 else 0) else if c = 200005 then (if a ≤ b then 1 else 0) else if c = 200006 then (if a = b then 1 else 0) else if c = 200007 then (if b ≤ a then 1 else 0)
  else if c = 200008 then (if b < a then 1 else 0) else if c = 200009 then a &&& b else a ||| b
def ev1 (ws : Nat → Int64) (c : Nat) (st : List Int64) : List Int64 :=
  if c < 100000 then (nI c).toInt64 :: st else if c < 200000 then ws (c - 100000) :: st
  else if c = 200011 then (match st with | a :: r => (1 - a) :: r | [] => []) else (match st with | b :: a :: r => jn c a b :: r | _ => [])
def evL (ws : Nat → Int64) : List Nat → List Int64 → List Int64
  | [], st => st
  | c :: l, st => evL ws l (ev1 ws c st)
def evV (ws : Nat → Int64) (l : List Nat) : Int64 := (evL ws l []).headD 0
noncomputable def lawW (L : LawT) (ws : Nat → Int64) : Nat → Nat → Int64
  | 0, _ => 0
  | n + 1, i => cif (cSum L i = cEnd L i ∨ ¬ evV ws (seg L.1 (cSum L i) (cEnd L i)) = 0) (evV ws (seg L.1 (cBeg L i) (cSum L i))) (lawW L ws n (i + 1))
/-- the WORDS of the MARK in a slot -/
noncomputable def wdS (S : ShT) (s k : Nat) : Int64 :=
  if k = 0 then (hR S (s / 16)).toInt64 else if k = 1 then (nI (s / 16)).toInt64 else if k = 2 then (nI (s % 16)).toInt64 else if k = 3 then (kK (kM S s)).toInt64
  else if k = 4 then (kL (kM S s)).toInt64 else if k = 5 then (kF (kM S s)).toInt64 else (nI (agr S (kM S s))).toInt64
/-- WEIGHT -/
noncomputable def wgt (S : ShT) (L : LawT) (s : Nat) : Int64 := lawW L (wdS S s) L.2.length 0
/-! WHAT STANDS -/
def clS (S : ShT) (a b : Nat) : Prop := ¬ ck (kM S a) (kM S b) = 0
noncomputable def hv (S : ShT) (W : Nat → Int64) (st : Nat → Nat) : Nat → Option Nat
  | 0 => none
  | n + 1 => match hv S W st n with
    | none => cif (isM S n ∧ st n = 3) (some n) none
    | some b => cif (isM S n ∧ st n = 3 ∧ W b < W n) (some n) (some b)
def fel (S : ShT) (st : Nat → Nat) (s : Nat) : Prop := ∃ o, isM S o ∧ st o = 1 ∧ clS S s o
def lft (S : ShT) (W : Nat → Int64) (st : Nat → Nat) (v : Int64) (s : Nat) : Prop := isM S s ∧ st s = 3 ∧ W s = v ∧ ¬ fel S st s
noncomputable def stl (S : ShT) (W : Nat → Int64) (st : Nat → Nat) (v : Int64) (s : Nat) : Nat :=
  cif (isM S s ∧ st s = 3 ∧ W s = v) (cif (fel S st s) 0 (cif (∃ o, lft S W st v o ∧ clS S s o) 2 1)) (st s)
noncomputable def jud (S : ShT) (W : Nat → Int64) : Nat → (Nat → Nat) → (Nat → Nat)
  | 0, st => st
  | n + 1, st => match hv S W st 64 with
    | none => st
    | some b => jud S W n (stl S W st (W b))
/-- 0 FALLS, 1 stands, 2 OPEN -/
noncomputable def jS (S : ShT) (L : LawT) : Nat → Nat := jud S (wgt S L) 64 (fun _ => 3)
/-! THE TEXT: PLACE p is 2 p, BYTE p is 2 p + 1 -/
def row (f s : Nat) : List Nat := List.range' (2 * f + 1) (2 * (s - f) - 1)
def insA (r : List Nat) (t : Nat) : List Nat → List Nat
  | [] => []
  | x :: l => if x = t then x :: (r ++ l) else x :: insA r t l
def mvL (L : List Nat) (f s t : Nat) : List Nat := insA (row f s) (2 * t) (L.filter (fun x => !(decide (2 * f + 1 ≤ x) && decide (x ≤ 2 * s - 1))))
def fN (x : MkT) : Nat := (kF x).toNatClampNeg
def sN (x : MkT) : Nat := (kS x).toNatClampNeg
def dN (x : MkT) : Nat := (kT x).toNatClampNeg
def isMv (S : ShT) (p dn : Nat → Prop) (n : Nat) : Prop := p n ∧ kK (kM S n) = 4 ∧ ¬ dn n
def mSp (x : MkT) : Int32 := mHi x - mLo x
noncomputable def wd (S : ShT) (p dn : Nat → Prop) : Nat → Option Nat
  | 0 => none
  | n + 1 => match wd S p dn n with
    | none => cif (isMv S p dn n) (some n) none
    | some b => cif (isMv S p dn n ∧ mSp (kM S b) < mSp (kM S n)) (some n) (some b)
noncomputable def mvs (S : ShT) (p : Nat → Prop) : Nat → (Nat → Prop) → List Nat → List Nat
  | 0, _, L => L
  | n + 1, dn, L => match wd S p dn 64 with
    | none => L
    | some b => mvs S p n (fun o => dn o ∨ (p o ∧ kM S o = kM S b)) (mvL L (fN (kM S b)) (sN (kM S b)) (dN (kM S b)))
noncomputable def its (S : ShT) (p : Nat → Prop) : List Nat := mvs S p 64 (fun _ => False) (List.range (2 * gN S + 1))
def isI (S : ShT) (p : Nat → Prop) (q s : Nat) : Prop := p s ∧ kK (kM S s) = 0 ∧ kF (kM S s) = nI q
noncomputable def iTx (S : ShT) (p : Nat → Prop) (q : Nat) : List Int32 := cif (fst (isI S p q) 64 < 64) (kX (kM S (fst (isI S p q) 64))) []
def cov (S : ShT) (p : Nat → Prop) (k : Int32) (q : Nat) : Prop := ∃ s, s < 64 ∧ p s ∧ kK (kM S s) = k ∧ fN (kM S s) ≤ q ∧ q < sN (kM S s)
def isS (c : Int32) : Prop := 97 ≤ c.toInt ∧ c.toInt ≤ 122
def isU (c : Int32) : Prop := 65 ≤ c.toInt ∧ c.toInt ≤ 90
noncomputable def ltr (S : ShT) (p : Nat → Prop) (q : Nat) (c : Int32) : Int32 := cif (cov S p 2 q ∧ isS c) (c - 32) (cif (cov S p 3 q ∧ isU c) (c + 32) c)
noncomputable def outI (S : ShT) (p : Nat → Prop) (x : Nat) : List Int32 := if x % 2 = 0 then iTx S p (x / 2) else cif (cov S p 1 (x / 2)) [] [ltr S p (x / 2) (gB S (x / 2))]
/-- the TEXT by the MARKS of p -/
noncomputable def txt (S : ShT) (p : Nat → Prop) : List Int32 := (its S p).flatMap (outI S p)
def stS (S : ShT) (L : LawT) (s : Nat) : Prop := isM S s ∧ jS S L s = 1
/-- OUT -/
noncomputable def ouT (S : ShT) (L : LawT) : List Int32 := (txt S (stS S L)).take 400
/-! EDIT -/
def kc (S : ShT) (k : Nat) : Nat := (cC S k).toNatClampNeg
def gL' (S : ShT) : List Int32 := (List.range (gN S)).map (gB S)
def wL' (S : ShT) : List Int32 := (List.range (wN S)).map (wB S)
/-- what a BYTE of the one costs to be a BYTE of the other; none: it can't -/
noncomputable def tuC (S : ShT) (c u : Int32) : Option Nat := cif (c = u) (some 0) (cif (isS c ∧ c - 32 = u) (some (kc S 2)) (cif (isU c ∧ c + 32 = u) (some (kc S 3)) none))
noncomputable def edS (S : ShT) (c : Int32) (f : List Int32 → Nat) : List Int32 → Nat
  | [] => kc S 1 + f []
  | u :: v => match tuC S c u with
    | none => min (kc S 1 + f (u :: v)) (kc S 0 + edS S c f v)
    | some t => min (min (kc S 1 + f (u :: v)) (kc S 0 + edS S c f v)) (t + f v)
noncomputable def edL (S : ShT) : List Int32 → List Int32 → Nat
  | [] => fun v => v.length * kc S 0
  | c :: b => edS S c (edL S b)
noncomputable def stp (S : ShT) (b v : List Int32) : Nat := match b, v with
  | [], _ => 2
  | _ :: _, [] => 1
  | c :: b', u :: v' => cif (c = u ∧ edL S b' v' = edL S (c :: b') (u :: v')) 0 (cif (kc S 1 + edL S b' (u :: v') = edL S (c :: b') (u :: v')) 1 (cif (kc S 0 + edL S (c :: b') v' = edL S (c :: b') (u :: v')) 2 (cif (isS c) 3 4)))
noncomputable def ewk (S : ShT) : Nat → List Int32 → List Int32 → List Nat
  | 0, _, _ => []
  | n + 1, b, v => cif (b = [] ∧ v = []) [] (stp S b v :: ewk S n (if stp S b v = 2 then b else b.tail) (if stp S b v = 1 then v else v.tail))
noncomputable def edC (S : ShT) : Nat := edL S (gL' S) (wL' S)
noncomputable def edW (S : ShT) : List Nat := ewk S 400 (gL' S) (wL' S)
/-! MOVED -/
def isT (n a b c : Nat) : Prop := a < b ∧ b ≤ n ∧ c ≤ n ∧ (c < a ∨ b < c)
/-- the GALLEY with a move done -/
def mvG (l : List Int32) (a b c : Nat) : List Int32 := if c < a then l.take c ++ ((l.drop a).take (b - a) ++ ((l.drop c).take (a - c) ++ l.drop b)) else l.take a ++ ((l.drop b).take (c - b) ++ ((l.drop a).take (b - a) ++ l.drop c))
noncomputable def mvC (S : ShT) (a b c : Nat) : Nat := kc S 4 * (b - a) + edL S (mvG (gL' S) a b c) (wL' S)
def lex3 (a b c a' b' c' : Nat) : Prop := a < a' ∨ (a = a' ∧ (b < b' ∨ (b = b' ∧ c < c')))
/-- MOVED: the cost, the PLACES -/
def isMvd (S : ShT) (v f s t : Int32) : Prop :=
  (v = nI (edC S) ∧ f = -2 ∧ s = -2 ∧ t = -2 ∧ ∀ a b c, isT (gN S) a b c → edC S ≤ mvC S a b c) ∨
  (∃ a b c, isT (gN S) a b c ∧ v = nI (mvC S a b c) ∧ f = nI a ∧ s = nI b ∧ t = nI c ∧ mvC S a b c < edC S ∧ ∀ a' b' c', isT (gN S) a' b' c' → mvC S a b c < mvC S a' b' c' ∨ (mvC S a b c = mvC S a' b' c' ∧ ¬ lex3 a' b' c' a b c))
/-! FEWEST -/
/-- the slot of the i-th MARK -/
def isTg (S : ShT) (i s : Nat) : Prop := isM S s ∧ ct (isM S) s = i
def chS (S : ShT) (z s : Nat) : Prop := isM S s ∧ z.testBit (ct (isM S) s) = true
def isGd (S : ShT) (z : Nat) : Prop := (∀ s o, chS S z s → chS S z o → ck (kM S s) (kM S o) = 0) ∧ txt S (chS S z) = wL' S
def pop : Nat → Nat → Nat
  | 0, _ => 0
  | n + 1, z => pop n z + (if z.testBit n then 1 else 0)
def isFew (S : ShT) (v : Int32) : Prop :=
  (∃ z, z < 2 ^ allM S 4 ∧ v = nI z ∧ isGd S z ∧ ∀ y, y < 2 ^ allM S 4 → isGd S y → pop 12 z < pop 12 y ∨ (pop 12 z = pop 12 y ∧ z ≤ y)) ∨ (v = -2 ∧ ∀ y, y < 2 ^ allM S 4 → ¬ isGd S y)
