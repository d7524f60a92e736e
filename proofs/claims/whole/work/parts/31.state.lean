/-! THE STATE that class and reference both hold -/
/-- a MARK: kind, its three PLACES (-1: none), its TEXT -/
abbrev MkT : Type := Int32 × Int32 × Int32 × Int32 × List Int32
def kK (x : MkT) : Int32 := x.1
def kF (x : MkT) : Int32 := x.2.1
def kS (x : MkT) : Int32 := x.2.2.1
def kT (x : MkT) : Int32 := x.2.2.2.1
def kX (x : MkT) : List Int32 := x.2.2.2.2
/-- LONG -/
def kL (x : MkT) : Int32 := if kK x = 0 then nI (kX x).length else kS x - kF x
theorem mk_ext {x y : MkT} (h1 : kK x = kK y) (h2 : kF x = kF y) (h3 : kS x = kS y) (h4 : kT x = kT y) (h5 : kX x = kX y) : x = y := by
  obtain ⟨a1, a2, a3, a4, a5⟩ := x
  obtain ⟨b1, b2, b3, b4, b5⟩ := y
  simp only [kK, kF, kS, kT, kX] at h1 h2 h3 h4 h5
  subst h1 h2 h3 h4 h5
  rfl
/-- what an IMAGE keeps: GALLEY, WISH (how many BYTES, which), HANDS (how many, rank, MARKS of each), MARKS by slot, COSTS -/
abbrev ShT : Type := (Nat × (Nat → Int32)) × (Nat × (Nat → Int32)) × (Nat × (Nat → Int32) × (Nat → Nat)) × (Nat → MkT) × (Nat → Int32)
def gN (S : ShT) : Nat := S.1.1
def gB (S : ShT) : Nat → Int32 := S.1.2
def wN (S : ShT) : Nat := S.2.1.1
def wB (S : ShT) : Nat → Int32 := S.2.1.2
def hN (S : ShT) : Nat := S.2.2.1.1
def hR (S : ShT) : Nat → Int32 := S.2.2.1.2.1
def hC (S : ShT) : Nat → Nat := S.2.2.1.2.2
def kM (S : ShT) : Nat → MkT := S.2.2.2.1
def cC (S : ShT) : Nat → Int32 := S.2.2.2.2
/-- there is a MARK in a slot -/
def isM (S : ShT) (s : Nat) : Prop := s / 16 < hN S ∧ s % 16 < hC S (s / 16)
def okB (c : Int32) : Prop := 32 ≤ c.toInt ∧ c.toInt ≤ 126
/-- a MARK over n BYTES is as it must be -/
def okM (n : Nat) (x : MkT) : Prop :=
  (0 ≤ (kK x).toInt ∧ (kK x).toInt ≤ 5) ∧ (0 ≤ (kF x).toInt ∧ (kF x).toInt ≤ n) ∧
  (kK x = 0 → kS x = -1 ∧ kT x = -1 ∧ 0 < (kX x).length ∧ (kX x).length ≤ 20 ∧ ∀ c ∈ kX x, okB c) ∧
  (kK x ≠ 0 → kX x = [] ∧ (kF x).toInt < (kS x).toInt ∧ (kS x).toInt ≤ n) ∧
  (kK x = 4 → 0 ≤ (kT x).toInt ∧ (kT x).toInt ≤ n ∧ ((kT x).toInt < (kF x).toInt ∨ (kS x).toInt < (kT x).toInt)) ∧ (kK x ≠ 4 → kT x = -1)
def okS (S : ShT) : Prop :=
  gN S ≤ 200 ∧ (∀ k, k < gN S → okB (gB S k)) ∧ wN S ≤ 200 ∧ (∀ k, k < wN S → okB (wB S k)) ∧ hN S ≤ 4 ∧
  (∀ h, h < hN S → 0 ≤ (hR S h).toInt ∧ (hR S h).toInt ≤ 9) ∧ (∀ h, hC S h ≤ 16) ∧ (∀ h, hN S ≤ h → hC S h = 0) ∧
  (∀ s, isM S s → okM (gN S) (kM S s)) ∧ (∀ k, k < 7 → 0 ≤ (cC S k).toInt ∧ (cC S k).toInt ≤ 99)
section
variable {S : ShT}
theorem okS.g (h : okS S) : gN S ≤ 200 := h.1
theorem okS.gb (h : okS S) {k : Nat} (hk : k < gN S) : okB (gB S k) := h.2.1 k hk
theorem okS.w (h : okS S) : wN S ≤ 200 := h.2.2.1
theorem okS.wb (h : okS S) {k : Nat} (hk : k < wN S) : okB (wB S k) := h.2.2.2.1 k hk
theorem okS.h (h : okS S) : hN S ≤ 4 := h.2.2.2.2.1
theorem okS.c (h : okS S) (i : Nat) : hC S i ≤ 16 := h.2.2.2.2.2.2.1 i
theorem okS.c0 (h : okS S) {i : Nat} (hi : hN S ≤ i) : hC S i = 0 := h.2.2.2.2.2.2.2.1 i hi
theorem okS.m (h : okS S) {s : Nat} (hs : isM S s) : okM (gN S) (kM S s) := h.2.2.2.2.2.2.2.2.1 s hs
theorem okS.k (h : okS S) {i : Nat} (hi : i < 7) : 0 ≤ (cC S i).toInt ∧ (cC S i).toInt ≤ 99 := h.2.2.2.2.2.2.2.2.2 i hi
theorem isM_lt (V : okS S) {s : Nat} (h : isM S s) : s < 64 := by
  have h1 := h.1
  have h2 := V.h
  omega
theorem isM_of (V : okS S) {h k : Nat} (hk : k < hC S h) : isM S (16 * h + k) ∧ h < hN S ∧ k < 16 := by
  have h1 : h < hN S := by
    rcases Nat.lt_or_ge h (hN S) with z | z
    · exact z
    · rw [V.c0 z] at hk; omega
  have h3 := V.c h
  have e1 : (16 * h + k) / 16 = h := by omega
  have e2 : (16 * h + k) % 16 = k := by omega
  exact ⟨⟨by rw [e1]; exact h1, by rw [e1, e2]; exact hk⟩, h1, by omega⟩
theorem isM_iff {h k : Nat} (hk : k < 16) : isM S (16 * h + k) ↔ h < hN S ∧ k < hC S h := by
  have e1 : (16 * h + k) / 16 = h := by omega
  have e2 : (16 * h + k) % 16 = k := by omega
  unfold isM
  rw [e1, e2]
end
/-! what the reference holds -/
def rShF (f : Nat → Nat → Int32) (S : ShT) : Prop :=
  (f 1 0 = nI (gN S) ∧ f 1 1 = nI (wN S) ∧ f 1 2 = nI (hN S)) ∧ (∀ k, k < gN S → f 2 k = gB S k) ∧ (∀ k, k < wN S → f 3 k = wB S k) ∧
  (∀ h, h < hN S → f 4 h = hR S h) ∧ (∀ h, h < hN S → f 5 h = nI (hC S h)) ∧ (∀ k, k < 7 → f 6 k = cC S k) ∧
  (∀ s, isM S s → f 7 s = kK (kM S s) ∧ f 8 s = kF (kM S s) ∧ f 9 s = kS (kM S s) ∧ f 10 s = kT (kM S s) ∧ f 11 s = kL (kM S s) ∧ ∀ i, i < (kX (kM S s)).length → f 12 (20 * s + i) = (kX (kM S s)).getD i 0)
/-- lengths of the reference's arrays 1 to 12 -/
def rLen (o : Nat) : Nat := [0, 3, 200, 200, 4, 4, 7, 64, 64, 64, 64, 64, 1280].getD o 0
theorem len20 {S : ShT} (V : okS S) {s : Nat} (hs : isM S s) : (kX (kM S s)).length ≤ 20 := by
  have h := V.m hs
  by_cases c : kK (kM S s) = 0
  · exact (h.2.2.1 c).2.2.2.1
  · rw [(h.2.2.2.1 c).1]; decide
theorem rShF.eq {f g : Nat → Nat → Int32} {S : ShT} (h : rShF f S) (V : okS S) (e : ∀ o, o < 13 → 0 < o → ∀ k, k < rLen o → g o k = f o k) : rShF g S := by
  have h4 := V.h
  have h1 := V.g
  have h2 := V.w
  have e1 : ∀ k, k < 3 → g 1 k = f 1 k := e 1 (by decide) (by decide)
  have e2 : ∀ k, k < 200 → g 2 k = f 2 k := e 2 (by decide) (by decide)
  have e3 : ∀ k, k < 200 → g 3 k = f 3 k := e 3 (by decide) (by decide)
  have e4 : ∀ k, k < 4 → g 4 k = f 4 k := e 4 (by decide) (by decide)
  have e5 : ∀ k, k < 4 → g 5 k = f 5 k := e 5 (by decide) (by decide)
  have e6 : ∀ k, k < 7 → g 6 k = f 6 k := e 6 (by decide) (by decide)
  have e7 : ∀ k, k < 64 → g 7 k = f 7 k := e 7 (by decide) (by decide)
  have e8 : ∀ k, k < 64 → g 8 k = f 8 k := e 8 (by decide) (by decide)
  have e9 : ∀ k, k < 64 → g 9 k = f 9 k := e 9 (by decide) (by decide)
  have e10 : ∀ k, k < 64 → g 10 k = f 10 k := e 10 (by decide) (by decide)
  have e11 : ∀ k, k < 64 → g 11 k = f 11 k := e 11 (by decide) (by decide)
  have e12 : ∀ k, k < 1280 → g 12 k = f 12 k := e 12 (by decide) (by decide)
  refine ⟨⟨?_, ?_, ?_⟩, fun k hk => ?_, fun k hk => ?_, fun k hk => ?_, fun k hk => ?_, fun k hk => ?_, fun s hs => ?_⟩
  · rw [e1 0 (by omega)]; exact h.1.1
  · rw [e1 1 (by omega)]; exact h.1.2.1
  · rw [e1 2 (by omega)]; exact h.1.2.2
  · rw [e2 k (by omega)]; exact h.2.1 k hk
  · rw [e3 k (by omega)]; exact h.2.2.1 k hk
  · rw [e4 k (by omega)]; exact h.2.2.2.1 k hk
  · rw [e5 k (by omega)]; exact h.2.2.2.2.1 k hk
  · rw [e6 k (by omega)]; exact h.2.2.2.2.2.1 k hk
  · have l := isM_lt V hs
    have l2 := len20 V hs
    rw [e7 s l, e8 s l, e9 s l, e10 s l, e11 s l]
    have q := h.2.2.2.2.2.2 s hs
    exact ⟨q.1, q.2.1, q.2.2.1, q.2.2.2.1, q.2.2.2.2.1, fun i hi => by rw [e12 _ (by omega)]; exact q.2.2.2.2.2 i hi⟩
def rSh (M : Mem) (m : Nat) (S : ShT) : Prop := rShF (fun o k => vi M (m + o) k) S
section
variable {M M' : Mem} {m : Nat} {S : ShT}
theorem rSh.g (h : rSh M m S) : vi M (m + 1) 0 = nI (gN S) := h.1.1
theorem rSh.w (h : rSh M m S) : vi M (m + 1) 1 = nI (wN S) := h.1.2.1
theorem rSh.h (h : rSh M m S) : vi M (m + 1) 2 = nI (hN S) := h.1.2.2
theorem rSh.gb (h : rSh M m S) {k : Nat} (hk : k < gN S) : vi M (m + 2) k = gB S k := h.2.1 k hk
theorem rSh.wb (h : rSh M m S) {k : Nat} (hk : k < wN S) : vi M (m + 3) k = wB S k := h.2.2.1 k hk
theorem rSh.r (h : rSh M m S) {k : Nat} (hk : k < hN S) : vi M (m + 4) k = hR S k := h.2.2.2.1 k hk
theorem rSh.c (h : rSh M m S) {k : Nat} (hk : k < hN S) : vi M (m + 5) k = nI (hC S k) := h.2.2.2.2.1 k hk
theorem rSh.k (h : rSh M m S) {k : Nat} (hk : k < 7) : vi M (m + 6) k = cC S k := h.2.2.2.2.2.1 k hk
theorem rSh.m7 (h : rSh M m S) {s : Nat} (hs : isM S s) : vi M (m + 7) s = kK (kM S s) := (h.2.2.2.2.2.2 s hs).1
theorem rSh.m8 (h : rSh M m S) {s : Nat} (hs : isM S s) : vi M (m + 8) s = kF (kM S s) := (h.2.2.2.2.2.2 s hs).2.1
theorem rSh.m9 (h : rSh M m S) {s : Nat} (hs : isM S s) : vi M (m + 9) s = kS (kM S s) := (h.2.2.2.2.2.2 s hs).2.2.1
theorem rSh.m10 (h : rSh M m S) {s : Nat} (hs : isM S s) : vi M (m + 10) s = kT (kM S s) := (h.2.2.2.2.2.2 s hs).2.2.2.1
theorem rSh.m11 (h : rSh M m S) {s : Nat} (hs : isM S s) : vi M (m + 11) s = kL (kM S s) := (h.2.2.2.2.2.2 s hs).2.2.2.2.1
theorem rSh.m12 (h : rSh M m S) {s i : Nat} (hs : isM S s) (hi : i < (kX (kM S s)).length) : vi M (m + 12) (20 * s + i) = (kX (kM S s)).getD i 0 := (h.2.2.2.2.2.2 s hs).2.2.2.2.2 i hi
theorem rSh.fr {F L : List Nat} (h : rSh M m S) (V : okS S) (f : Frl m F L M M') (hL : ∀ o, o < 13 → o ∉ L) : rSh M' m S := rShF.eq h V (fun o h1 h2 k _ => f.i (hL o h1) h2 k)
end
/-- the reference's sheet: its cells, a good state, held -/
def RS (M : Mem) (m : Nat) (S : ShT) : Prop := RefAt M m ∧ okS S ∧ rSh M m S
theorem RS.fr {M M' : Mem} {m : Nat} {S : ShT} {F L : List Nat} (h : RS M m S) (f : Frl m F L M M') (hL : ∀ o, o < 13 → o ∉ L) : RS M' m S := ⟨f.ra h.1, h.2.1, h.2.2.fr h.2.1 f hL⟩
/-! the class's MARK object at o -/
def mkAt (M : Mem) (o : Nat) (x : MkT) : Prop :=
  mK M o = 6 ∧ vi M o 0 = kK x ∧ vi M o 1 = kF x ∧ vi M o 2 = kS x ∧ vi M o 3 = kT x ∧ vi M o 4 = kL x ∧
  vi M o 6 = (if kT x = -1 then kF x else if kT x < kF x then kT x else kF x) ∧ vi M o 7 = (if kT x = -1 then kS x else if kS x < kT x then kT x else kS x) ∧
  ((kK x ≠ 0 ∧ vr M o 5 = none) ∨ (kK x = 0 ∧ ∃ t, vr M o 5 = some t ∧ mK M t = 15 ∧ mA M t = (kX x).length ∧ ∀ i, i < (kX x).length → vi M t i = (kX x).getD i 0))

/-! THE WHOLE STATE -/
/-- a LAW: its row of codes (the class's numbers), of each CLAUSE where its SUM ends and where it ends -/
abbrev LawT : Type := List Nat × List (Nat × Nat)
abbrev StT : Type := (Nat × (Nat → Int32)) × ShT × (Nat × (Nat → LawT)) × (Nat → Option ShT)
def tN (T : StT) : Nat := T.1.1
def tB (T : StT) : Nat → Int32 := T.1.2
def sh (T : StT) : ShT := T.2.1
def qN (T : StT) : Nat := T.2.2.1.1
def qL (T : StT) : Nat → LawT := T.2.2.1.2
def iM (T : StT) : Nat → Option ShT := T.2.2.2
def tc1 (c : Nat) (st : List Bool) : Option (List Bool) :=
  if c < 100007 then some (false :: st)
  else if 200000 ≤ c ∧ c ≤ 200003 then (match st with | false :: false :: r => some (false :: r) | _ => none)
  else if 200004 ≤ c ∧ c ≤ 200008 then (match st with | false :: false :: r => some (true :: r) | _ => none)
  else if c = 200009 ∨ c = 200010 then (match st with | true :: true :: r => some (true :: r) | _ => none)
  else if c = 200011 then (match st with | true :: r => some (true :: r) | _ => none) else none
def tcL : List Nat → List Bool → Option (List Bool)
  | [], st => some st
  | c :: l, st => (tc1 c st).bind (tcL l)
def seg (l : List Nat) (a b : Nat) : List Nat := (l.drop a).take (b - a)
/-- where the i-th CLAUSE begins -/
def cBeg (L : LawT) (i : Nat) : Nat := match i with
  | 0 => 0
  | i + 1 => (L.2.getD i (0, 0)).2
def cSum (L : LawT) (i : Nat) : Nat := (L.2.getD i (0, 0)).1
def cEnd (L : LawT) (i : Nat) : Nat := (L.2.getD i (0, 0)).2
def okL (L : LawT) : Prop :=
  L.1.length ≤ 300 ∧ L.2.length ≤ 12 ∧ (L.1.filter (fun c => decide (c < 100007))).length ≤ 60 ∧
  ∀ i, i < L.2.length → cBeg L i ≤ cSum L i ∧ cSum L i ≤ cEnd L i ∧ cEnd L i ≤ L.1.length ∧ tcL (seg L.1 (cBeg L i) (cSum L i)) [] = some [false] ∧ (cSum L i = cEnd L i ∨ tcL (seg L.1 (cSum L i) (cEnd L i)) [] = some [true])
def okT (T : StT) : Prop :=
  tN T ≤ 400 ∧ (∀ k, k < tN T → 0 ≤ (tB T k).toInt ∧ (tB T k).toInt ≤ 255) ∧ okS (sh T) ∧ qN T ≤ 4 ∧ (∀ l, l < qN T → okL (qL T l)) ∧ (∀ i S, i < 4 → iM T i = some S → okS S)
def rSort (c : Nat) : Nat := if c < 100000 then 0 else if c < 200000 then 1 else [2, 3, 13, 14, 4, 5, 6, 7, 8, 10, 11, 9].getD (c - 200000) 0
def rNum (c : Nat) : Nat := if c < 100000 then c else if c < 200000 then c - 100000 else 0
def rLaw (M : Mem) (m l : Nat) (L : LawT) : Prop :=
  (∀ k, k < L.1.length → vi M (m + 14) (300 * l + k) = nI (rSort (L.1.getD k 0)) ∧ vi M (m + 15) (300 * l + k) = nI (rNum (L.1.getD k 0))) ∧ vi M (m + 16) l = nI L.2.length ∧
  ∀ i, i < L.2.length → vi M (m + 17) (12 * l + i) = nI (cBeg L i) ∧ vi M (m + 18) (12 * l + i) = nI (cSum L i) ∧ vi M (m + 19) (12 * l + i) = nI (cEnd L i)
/-- where the array o begins in an image -/
def rOff (o : Nat) : Nat := [0, 0, 3, 203, 403, 407, 411, 418, 482, 546, 610, 674, 738].getD o 0
def rImg (M : Mem) (m : Nat) (i : Nat) (S : ShT) : Prop := rShF (fun o k => vi M (m + 44) (2100 * i + rOff o + k)) S
/-- what the reference holds of all -/
def RX (M : Mem) (m : Nat) (T : StT) : Prop :=
  RefAt M m ∧ okT T ∧ rSh M m (sh T) ∧ (vi M m 13 = nI (tN T) ∧ ∀ k, k < tN T → vi M (m + 13) k = (tB T k).toInt8.toInt32) ∧ vi M m 22 = 7 ∧ (vi M m 17 = nI (qN T) ∧ ∀ l, l < qN T → rLaw M m l (qL T l)) ∧
  (∀ i, i < 4 → (iM T i = none → vi M (m + 45) i = 0) ∧ ∀ S, iM T i = some S → vi M (m + 45) i = 1 ∧ rImg M m i S)
section
variable {M M' : Mem} {m : Nat} {T : StT}
theorem RX.rs (h : RX M m T) : RS M m (sh T) := ⟨h.1, h.2.1.2.2.1, h.2.2.1⟩
theorem RX.t (h : RX M m T) : vi M m 13 = nI (tN T) := h.2.2.2.1.1
theorem RX.tb (h : RX M m T) {k : Nat} (hk : k < tN T) : vi M (m + 13) k = (tB T k).toInt8.toInt32 := h.2.2.2.1.2 k hk
theorem RX.t4 (h : RX M m T) : tN T ≤ 400 := h.2.1.1
theorem RX.tk (h : RX M m T) {k : Nat} (hk : k < tN T) : 0 ≤ (tB T k).toInt ∧ (tB T k).toInt ≤ 255 := h.2.1.2.1 k hk
theorem RX.q (h : RX M m T) : vi M m 17 = nI (qN T) := h.2.2.2.2.2.1.1
theorem RX.q4 (h : RX M m T) : qN T ≤ 4 := h.2.1.2.2.2.1
/-- scratch cells and fields may change -/
theorem RX.fr {F L : List Nat} (h : RX M m T) (f : Frl m F L M M') (hL : ∀ o, (o < 20 ∨ o = 44 ∨ o = 45) → o ∉ L) (hF : 13 ∉ F ∧ 17 ∉ F ∧ 22 ∉ F) : RX M' m T := by
  have e : ∀ o, (o < 20 ∨ o = 44 ∨ o = 45) → 0 < o → ∀ k, vi M' (m + o) k = vi M (m + o) k := fun o h1 h2 k => f.i (hL o h1) h2 k
  have h0 : 0 ∉ L := hL 0 (by omega)
  refine ⟨f.ra h.1, h.2.1, h.2.2.1.fr h.2.1.2.2.1 f (fun o ho => hL o (by omega)), ⟨?_, fun k hk => ?_⟩, ?_, ⟨?_, fun l hl => ?_⟩, fun i hi => ?_⟩
  · rw [f.f hF.1 h0]; exact h.t
  · rw [e 13 (by omega) (by omega)]; exact h.tb hk
  · rw [f.f hF.2.2 h0]; exact h.2.2.2.2.1
  · rw [f.f hF.2.1 h0]; exact h.q
  · have q := h.2.2.2.2.2.1.2 l hl
    unfold rLaw at q ⊢
    have e14 := e 14 (by omega) (by omega)
    have e15 := e 15 (by omega) (by omega)
    have e16 := e 16 (by omega) (by omega)
    have e17 := e 17 (by omega) (by omega)
    have e18 := e 18 (by omega) (by omega)
    have e19 := e 19 (by omega) (by omega)
    refine ⟨fun k hk => ?_, ?_, fun i hi => ?_⟩
    · rw [e14, e15]; exact q.1 k hk
    · rw [e16]; exact q.2.1
    · rw [e17, e18, e19]; exact q.2.2 i hi
  · have q := h.2.2.2.2.2.2 i hi
    rw [e 45 (by omega) (by omega)]
    refine ⟨q.1, fun S hS => ⟨(q.2 S hS).1, ?_⟩⟩
    have z := (q.2 S hS).2
    unfold rImg at z ⊢
    have e2 : (fun o k => vi M' (m + 44) (2100 * i + rOff o + k)) = (fun o k => vi M (m + 44) (2100 * i + rOff o + k)) := by
      funext o k
      exact e 44 (by omega) (by omega) _
    rw [e2]
    exact z
end
