/-! WHAT STANDS: the class -/
theorem bit_1 {o : Nat} (ho : o < 64) : bit 1 o ↔ o = 0 := by
  have key : ∀ o, o < 64 → ((1 : Int64).toBitVec.getLsbD o = true ↔ o = 0) := by decide +kernel
  exact key o ho
theorem bit_sh {x : Int64} {i : Nat} (hi : i < 64) : bit ((x.toUInt64 >>> ((nI i).toInt64.toUInt64 &&& Int64.toUInt64 63)).toInt64) 0 ↔ bit x i := by
  have key : ∀ i, i < 64 → ((nI i).toInt64.toUInt64 &&& Int64.toUInt64 63) = UInt64.ofNat i := by decide +kernel
  have key2 : ∀ i, i < 64 → ((UInt64.ofNat i).toBitVec % 64#64).toNat = i := by decide +kernel
  rw [key i hi]
  unfold bit
  show ((x.toUInt64 >>> UInt64.ofNat i).toBitVec).getLsbD 0 = true ↔ _
  rw [UInt64.toBitVec_shiftRight]
  show (x.toBitVec >>> ((UInt64.ofNat i).toBitVec % 64#64).toNat).getLsbD 0 = true ↔ _
  rw [key2 i hi, BitVec.getLsbD_ushiftRight, Nat.add_zero]
theorem bit_at {x : Int64} {i : Nat} (hi : i < 64) : ((x.toUInt64 >>> ((nI i).toInt64.toUInt64 &&& Int64.toUInt64 63)).toInt64 &&& (1 : Int64) = 0) ↔ ¬ bit x i := by
  rw [bit_zero]
  refine ⟨fun h z => h 0 (by decide) ((bit_and _ _ _).mpr ⟨(bit_sh hi).mpr z, (bit_1 (by decide)).mpr rfl⟩), fun h o ho z => ?_⟩
  have z := (bit_and _ _ _).mp z
  have e := (bit_1 ho).mp z.2
  rw [e] at z
  exact h ((bit_sh hi).mp z.1)
theorem bit_nz {x y : Int64} : ¬ (x &&& y) = 0 ↔ ∃ o, o < 64 ∧ bit x o ∧ bit y o := by
  refine ⟨fun h => Classical.byContradiction (fun n => h (bit_zero.mpr (fun o ho z => n ⟨o, ho, (bit_and _ _ _).mp z⟩))), fun ⟨o, ho, h⟩ z => bit_zero.mp z o ho ((bit_and _ _ _).mpr h)⟩
/-- the states, as the class has them -/
def stC (M : Mem) (v : Nat) (S : ShT) (st : Nat → Nat) : Prop := ∀ s, s < 64 → vi M (v + 2) s = cif (isM S s) (nI (st s)) (-1)
theorem stC.cg {M : Mem} {v : Nat} {S : ShT} {f g : Nat → Nat} (h : stC M v S f) (e : ∀ o, o < 64 → f o = g o) : stC M v S g := fun o ho => by rw [h o ho, e o ho]
theorem stC.put {M M1 : Mem} {v i n : Nat} {S : ShT} {f g : Nat → Nat} (h : stC M v S f) (is : isM S i) (e1 : M1 = seti M (v + 2) i (nI n)) (hi : g i = n) (eg : ∀ o, o < 64 → o ≠ i → g o = f o) : stC M1 v S g := fun o ho => by
  rw [e1, vi_seti]
  by_cases y : o = i
  · rw [if_pos ⟨rfl, y⟩, y, cif_T is, hi]
  · rw [if_neg (fun z => y z.2), eg o ho y]; exact h o ho
theorem stC.fr {M M1 : Mem} {v : Nat} {S : ShT} {f : Nat → Nat} (h : stC M v S f) (e : vi M1 (v + 2) = vi M (v + 2)) : stC M1 v S f := fun o ho => by rw [e]; exact h o ho
def FrV (v a : Nat) (M M' : Mem) : Prop := mN M' = mN M ∧ mS M' = mS M ∧ mK M' = mK M ∧ mA M' = mA M ∧ vr M' = vr M ∧ (∀ b, b ≠ v → b ≠ v + 1 → b ≠ v + 2 → b ≠ a + 4 → b ≠ a + 5 → vi M' b = vi M b ∧ vl M' b = vl M b) ∧ vi M' v = vi M v
def Js (w : Nat → Nat) (M : Mem) (v a b : Nat) (S : ShT) (L : LawT) : Prop := ObAt 10 M v ∧ ObAt 2 M a ∧ CS w M b S ∧ cLaw M a L ∧ okL L ∧ frM M ∧ ((v + 5 ≤ a ∨ a + 6 ≤ v) ∧ (v + 5 ≤ b ∨ b + 9 ≤ v) ∧ (a + 6 ≤ b ∨ b + 9 ≤ a)) ∧ (∀ j, j < 5 → w (v + j) ≠ 2) ∧ ∀ j, j < 6 → w (a + j) ≠ 2
section
variable {G : GT} {d : Nat} {M M' M'' : Mem} {v a b : Nat} {w : Nat → Nat} {S : ShT} {L : LawT} {st : Nat → Nat} {W : Nat → Int64}
theorem FrV.refl : FrV v a M M := ⟨rfl, rfl, rfl, rfl, rfl, fun _ _ _ _ _ _ => ⟨rfl, rfl⟩, rfl⟩
theorem FrV.trans (h : FrV v a M M') (h2 : FrV v a M' M'') : FrV v a M M'' :=
  ⟨h2.1.trans h.1, h2.2.1.trans h.2.1, h2.2.2.1.trans h.2.2.1, h2.2.2.2.1.trans h.2.2.2.1, h2.2.2.2.2.1.trans h.2.2.2.2.1, fun b e1 e2 e3 e4 e5 => ⟨(h2.2.2.2.2.2.1 b e1 e2 e3 e4 e5).1.trans (h.2.2.2.2.2.1 b e1 e2 e3 e4 e5).1, (h2.2.2.2.2.2.1 b e1 e2 e3 e4 e5).2.trans (h.2.2.2.2.2.1 b e1 e2 e3 e4 e5).2⟩, h2.2.2.2.2.2.2.trans h.2.2.2.2.2.2⟩
theorem FrV.si {k : Nat} {z : Int32} : FrV v a M (seti M (v + 2) k z) := ⟨rfl, rfl, rfl, rfl, rfl, fun c _ _ h3 _ _ => ⟨by funext j; rw [vi_seti, if_neg (fun e => h3 e.1)], rfl⟩, by funext j; rw [vi_seti, if_neg (fun e => by omega)]⟩
theorem FrV.sl {c k : Nat} {z : Int64} (hc : c = v ∨ c = v + 1) : FrV v a M (setl M c k z) := ⟨rfl, rfl, rfl, rfl, rfl, fun c' h1 h2 _ _ _ => ⟨rfl, by funext j; rw [vl_setl, if_neg (fun e => by rcases hc with y | y <;> omega)]⟩, rfl⟩
theorem FrV.law (g : Frl a [] [4, 5] M M') (dj : v + 5 ≤ a ∨ a + 6 ≤ v) : FrV v a M M' := by
  refine ⟨g.1, g.2.1, g.2.2.1, g.2.2.2.1, g.2.2.2.2.1, fun c h1 h2 h3 h4 h5 => ?_, ?_⟩
  · have k : ∀ k, vi M' c k = vi M c k ∧ vl M' c k = vl M c k := fun k => g.2.2.2.2.2 c k (fun _ z => by cases z) (fun o ho e => by simp at ho; rcases ho with y | y <;> rw [y] at e <;> omega)
    exact ⟨by funext j; exact (k j).1, by funext j; exact (k j).2⟩
  · funext j; exact (g.2.2.2.2.2 v j (fun _ z => by cases z) (fun o ho e => by simp at ho; rcases ho with y | y <;> rw [y] at e <;> omega)).1
theorem Js.fr (h : Js w M v a b S L) (g : FrV v a M M') : Js w M' v a b S L := by
  obtain ⟨h1, h2, h3, h4, h5, h6, h7, h8, h9⟩ := h
  have cg : ∀ {q c : Nat}, ObAt q M c → ObAt q M' c := fun o => o.cg g.2.2.1 g.2.2.2.1 g.2.2.2.2.1
  have sm : ∀ c, c ≠ v → c ≠ v + 1 → c ≠ v + 2 → c ≠ a + 4 → c ≠ a + 5 → same M M' c := fun c e1 e2 e3 e4 e5 => ⟨(g.2.2.2.2.2.1 c e1 e2 e3 e4 e5).1, (g.2.2.2.2.2.1 c e1 e2 e3 e4 e5).2, by rw [g.2.2.2.2.1]⟩
  have km : keepM w M M' := fun c hc _ => ⟨sm c (fun e => h8 0 (by decide) (by rw [Nat.add_zero, ← e]; exact hc)) (fun e => h8 1 (by decide) (by rw [← e]; exact hc)) (fun e => h8 2 (by decide) (by rw [← e]; exact hc)) (fun e => h9 4 (by decide) (by rw [← e]; exact hc)) (fun e => h9 5 (by decide) (by rw [← e]; exact hc)), by rw [g.2.2.1], by rw [g.2.2.2.1]⟩
  refine ⟨cg h1, cg h2, ⟨cg h3.1, h3.2.1, h3.2.2.keep h6 km (fun i hi => sm _ (by omega) (by omega) (by omega) (by omega) (by omega))⟩, ?_, h5, fun c hc => by rw [g.2.2.1]; exact h6 c (by rw [← g.1]; exact hc), h7, h8, h9⟩
  unfold cLaw at h4 ⊢
  rw [(sm a (by omega) (by omega) (by omega) (by omega) (by omega)).1, (sm (a + 1) (by omega) (by omega) (by omega) (by omega) (by omega)).1, (sm (a + 2) (by omega) (by omega) (by omega) (by omega) (by omega)).1, (sm (a + 3) (by omega) (by omega) (by omega) (by omega) (by omega)).1]
  exact h4
theorem k_heaviest {Q : Int32 → Mem → Prop} (O : ObAt 10 M v) (V : okS S) (hst : stC M v S st) (sb : ∀ s, st s ≤ 3) (hw : ∀ s, isM S s → vl M (v + 1) s = W s) (hq : Q (hvI (hv S W st 64)) M) : CI G (d + 1) 100 [.ref v] M Q := by
  refine c_X10_heaviestWaiting O ?_
  have key : ∀ (j i : Nat), j + i = 64 → At G (d + 1) 100 4 [(0, .ref v), (1, .int (hvI (hv S W st i))), (2, .int (nI i))] [] M (qI Q) := by
    intro j
    induction j with
    | zero =>
      intro i e
      have e : i = 64 := by omega
      subst e
      exact c_X10_heaviestWaiting_4 O ⟨fun _ => hq, fun z => absurd (show (64 : Int32) ≤ nI 64 from nI_le (a := 64) (by omega) (by omega)) z⟩
    | succ j ih =>
      intro i e
      have ih := ih (i + 1) (by omega)
      have h0 : hv S W st (i + 1) = (match hv S W st i with | none => cif (isM S i ∧ st i = 3) (some i) none | some b => cif (isM S i ∧ st i = 3 ∧ W b < W i) (some i) (some b)) := rfl
      have hs0 := hv_some (S := S) (W := W) (st := st) i
      have no : ¬ (isM S i ∧ st i = 3) → hv S W st (i + 1) = hv S W st i := fun n => by
        rw [h0]
        cases hv S W st i with
        | none => dsimp only; rw [cif_F n]
        | some b => dsimp only; rw [cif_F (fun z => n ⟨z.1, z.2.1⟩)]
      have sb := sb i
      have is3 : (vi M (v + 2) i = 3) ↔ (isM S i ∧ st i = 3) := by
        rw [hst i (by omega)]
        by_cases is : isM S i
        · rw [cif_T is, show (3 : Int32) = nI 3 from rfl, eq_I (by omega) (by omega)]
          exact ⟨fun z => ⟨is, z⟩, fun z => z.2⟩
        · rw [cif_F is]; exact ⟨fun z => absurd z (by decide), fun z => absurd z.1 is⟩
      refine c_X10_heaviestWaiting_4 O ⟨fun z => absurd z (nI_ge (a := i) (b := 64) (by omega) (by decide)), fun _ => ⟨vp_in_nI (by omega) (by omega), ?_⟩⟩
      rw [nI_1, nI_clamp (n := i) (by omega), is3]
      refine ⟨fun n => by rw [no n] at ih; exact ih, fun y => ?_⟩
      cases hb : hv S W st i with
      | none =>
        rw [h0, hb] at ih
        dsimp only at ih
        rw [cif_T y] at ih
        exact ⟨fun _ => ih, fun z => absurd (show (-1 : Int32) < 0 by decide) z⟩
      | some b =>
        have q := hs0 b hb
        have q6 := isM_lt V q.2.1
        rw [h0, hb] at ih
        dsimp only at ih
        have eb : hvI (some b) = nI b := rfl
        rw [eb, nI_clamp (n := b) (by omega), hw i y.1, hw b q.2.1, cmp_le]
        refine ⟨fun z => absurd z (nlt0 _ (by omega)), fun _ => ⟨vp_in_nI (by omega) (by omega), vp_in_nI (by omega) (by omega), fun z => ?_, fun z => ?_⟩⟩
        · rw [cif_F (fun y => by have := y.2.2; rw [← nle64] at this; exact this z)] at ih
          exact ih
        · rw [nle64] at z
          rw [cif_T ⟨y.1, y.2, z⟩] at ih
          exact ih
  exact key 64 0 rfl
/-- what waits and has the WEIGHT -/
def wai (S : ShT) (W : Nat → Int64) (st : Nat → Nat) (x : Int64) (s : Nat) : Prop := isM S s ∧ st s = 3 ∧ W s = x
noncomputable def s1 (S : ShT) (W : Nat → Int64) (st : Nat → Nat) (x : Int64) (s : Nat) : Nat := cif (wai S W st x s ∧ fel S st s) 0 (st s)
def exL (S : ShT) (W : Nat → Int64) (st : Nat → Nat) (x : Int64) (s : Nat) : Prop := ∃ o, lft S W st x o ∧ clS S s o
theorem stl_s1 {x : Int64} {s : Nat} : stl S W st x s = cif (lft S W st x s) (cif (exL S W st x s) 2 1) (s1 S W st x s) := by
  unfold stl s1
  by_cases c : isM S s ∧ st s = 3 ∧ W s = x
  · rw [cif_T c]
    by_cases f : fel S st s
    · rw [cif_T f, cif_F (fun z => z.2.2.2 f), cif_T ⟨c, f⟩]
    · rw [cif_F f, cif_T (show lft S W st x s from ⟨c.1, c.2.1, c.2.2, f⟩)]; rfl
  · rw [cif_F c, cif_F (fun z => c ⟨z.1, z.2.1, z.2.2.1⟩), cif_F (fun z => c z.1)]
theorem k_decide {x : Int64} {Q : Mem → Prop} (h : Js w M v a b S L) (hst : stC M v S st) (sb : ∀ s, st s ≤ 3) (hw : ∀ s, isM S s → vl M (v + 1) s = W s) (hb : ∀ o, o < 64 → (bit (vl M v 6) o ↔ isM S o ∧ st o = 1))
    (hq : ∀ M', FrV v a M M' → vl M' (v + 1) = vl M (v + 1) → stC M' v S (stl S W st x) → (∀ o, o < 64 → (bit (vl M' v 6) o ↔ isM S o ∧ stl S W st x o = 1)) → Q M') : CV G (d + 1) 101 [.ref v, .ref b, .long x] M Q := by
  have V := h.2.2.1.2.1
  -- the second loop
  have l2 : ∀ (j i : Nat) (l : Int64) (Mx : Mem), j + i = 64 → (∀ o, o < 64 → (bit l o ↔ lft S W st x o)) → FrV v a M Mx → vl Mx (v + 1) = vl M (v + 1) → stC Mx v S (fun o => cif (o < i ∧ lft S W st x o) (cif (exL S W st x o) 2 1) (s1 S W st x o)) → (∀ o, o < 64 → (bit (vl Mx v 6) o ↔ isM S o ∧ (st o = 1 ∨ (o < i ∧ lft S W st x o ∧ ¬ exL S W st x o)))) →
      At G (d + 1) 101 85 [(0, .ref v), (1, .ref b), (4, .long l), (6, .int (nI i))] [] Mx (qV Q) := by
    intro j
    induction j with
    | zero =>
      intro i l Mx e hl gx wx sx bx
      have hx := h.fr gx
      refine c_X10_decide_85 hx.1 hx.2.2.1.1 ⟨fun _ => hq Mx gx wx (sx.cg (fun o ho => ?_)) (fun o ho => ?_), fun z => absurd (show (64 : Int32) ≤ nI i from nI_le (a := 64) (by omega) (by omega)) z⟩
      · rw [stl_s1]
        by_cases c : lft S W st x o
        · rw [cif_T ⟨by omega, c⟩, cif_T c]
        · rw [cif_F (fun z => c z.2), cif_F c]
      · rw [bx o ho, stl_s1]
        by_cases c : lft S W st x o
        · rw [cif_T c]
          have c3 : st o = 3 := c.2.1
          by_cases y : exL S W st x o
          · rw [cif_T y]; exact ⟨fun z => by rcases z.2 with u | u; omega; exact absurd y u.2.2, fun z => by omega⟩
          · rw [cif_F y]; exact ⟨fun z => ⟨z.1, rfl⟩, fun z => ⟨z.1, Or.inr ⟨by omega, c, y⟩⟩⟩
        · rw [cif_F c]
          unfold s1
          by_cases y : wai S W st x o ∧ fel S st o
          · rw [cif_T y]
            have c3 : st o = 3 := y.1.2.1
            exact ⟨fun z => by rcases z.2 with u | u; omega; exact absurd u.2.1 c, fun z => by omega⟩
          · rw [cif_F y]; exact ⟨fun z => ⟨z.1, by rcases z.2 with u | u; exact u; exact absurd u.2.1 c⟩, fun z => ⟨z.1, Or.inl z.2⟩⟩
    | succ j ih =>
      intro i l Mx e hl gx wx sx bx
      have hx := h.fr gx
      have v6 : vp_in (nI i) 64 := vp_in_nI (by omega) (by omega)
      refine c_X10_decide_85 hx.1 hx.2.2.1.1 ⟨fun z => absurd z (nI_ge (a := i) (b := 64) (by omega) (by decide)), fun _ => ?_⟩
      rw [cmp_eq, bit_at (by omega), hl i (by omega), nI_1, nI_clamp (by omega), cmp_eq]
      have st' : ∀ o, o < 64 → o ≠ i → cif (o < i + 1 ∧ lft S W st x o) (cif (exL S W st x o) 2 1) (s1 S W st x o) = cif (o < i ∧ lft S W st x o) (cif (exL S W st x o) 2 1) (s1 S W st x o) := fun o ho y => by
        by_cases z : o < i ∧ lft S W st x o
        · rw [cif_T z, cif_T (show o < i + 1 ∧ lft S W st x o from ⟨by omega, z.2⟩)]
        · rw [cif_F z, cif_F (fun u => z ⟨by omega, u.2⟩)]
      refine ⟨fun n => ?_, fun n => ?_⟩
      · have lf : lft S W st x i := Classical.byContradiction n
        have ec : ¬ (vl Mx (b + 8) i &&& l) = 0 ↔ exL S W st x i := by
          rw [bit_nz]
          refine ⟨fun ⟨o, ho, h1, h2⟩ => ⟨o, (hl o ho).mp h2, ((hx.2.2.1.cl lf.1 ho).mp h1).2⟩, fun ⟨o, h1, h2⟩ => ?_⟩
          have ho := isM_lt V h1.1
          exact ⟨o, ho, (hx.2.2.1.cl lf.1 ho).mpr ⟨h1.1, h2⟩, (hl o ho).mpr h1⟩
        refine ⟨v6, fun z => ⟨v6, fun M2 e2 M3 e3 => ?_⟩, fun z => ⟨v6, fun M4 e4 => ?_⟩⟩
        · have ne : ¬ exL S W st x i := fun y => (ec.mpr y) z
          have e3' : M3 = setl M2 v 6 (vl Mx v 6 ||| (1 : Int64) <<< ((nI i).toInt64 &&& 63)) := by rw [e3, e2]; rfl
          refine ih (i + 1) l M3 (by omega) hl (gx.trans (by rw [e3', e2]; exact FrV.si.trans (FrV.sl (Or.inl rfl)))) (by rw [← wx, e3', e2]; funext k; rw [vl_setl, if_neg (fun y => by omega)]; rfl) ((sx.put (M1 := M2) (n := 1) lf.1 e2 (by rw [cif_T (show i < i + 1 ∧ lft S W st x i from ⟨by omega, lf⟩), cif_F ne]) st').fr (by rw [e3']; rfl)) (fun o ho => ?_)
          rw [e3', vl_setl, if_pos ⟨rfl, rfl⟩, bit_or, bit_shl (by omega), bx o ho]
          constructor
          · rintro (u | u)
            · exact ⟨u.1, u.2.elim Or.inl (fun y => Or.inr ⟨by omega, y.2⟩)⟩
            · rw [u]; exact ⟨lf.1, Or.inr ⟨by omega, lf, ne⟩⟩
          · rintro ⟨u1, u | u⟩
            · exact Or.inl ⟨u1, Or.inl u⟩
            · by_cases y : o = i
              · exact Or.inr y
              · exact Or.inl ⟨u1, Or.inr ⟨by omega, u.2⟩⟩
        · have ye : exL S W st x i := ec.mp z
          refine ih (i + 1) l M4 (by omega) hl (gx.trans (by rw [e4]; exact FrV.si)) (by rw [← wx, e4]; rfl) (sx.put (n := 2) lf.1 e4 (by rw [cif_T (show i < i + 1 ∧ lft S W st x i from ⟨by omega, lf⟩), cif_T ye]) st') (fun o ho => ?_)
          rw [e4, vl_seti, bx o ho]
          refine ⟨fun u => ⟨u.1, u.2.elim Or.inl (fun y => Or.inr ⟨by omega, y.2⟩)⟩, fun u => ⟨u.1, u.2.elim Or.inl (fun y => Or.inr ⟨?_, y.2⟩)⟩⟩
          rcases Nat.lt_or_ge o i with q | q
          · exact q
          · have eo : o = i := by omega
            rw [eo] at y; exact absurd ye y.2.2
      · refine ih (i + 1) l Mx (by omega) hl gx wx (sx.cg (fun o ho => ?_)) (fun o ho => ?_)
        · by_cases z : o < i ∧ lft S W st x o
          · rw [cif_T z, cif_T (show o < i + 1 ∧ lft S W st x o from ⟨by omega, z.2⟩)]
          · rw [cif_F z, cif_F (show ¬ (o < i + 1 ∧ lft S W st x o) from fun u => z ⟨by
              rcases Nat.lt_or_ge o i with q | q
              · exact q
              · have eo : o = i := by omega
                rw [eo] at u; exact absurd u.2 n, u.2⟩)]
        · rw [bx o ho]
          refine ⟨fun u => ⟨u.1, u.2.elim Or.inl (fun y => Or.inr ⟨by omega, y.2⟩)⟩, fun u => ⟨u.1, u.2.elim Or.inl (fun y => Or.inr ⟨?_, y.2⟩)⟩⟩
          rcases Nat.lt_or_ge o i with q | q
          · exact q
          · have eo : o = i := by omega
            rw [eo] at y; exact absurd y.2.1 n
  -- the first loop
  have l1 : ∀ (j i : Nat) (l : Int64) (Mx : Mem), j + i = 64 → (∀ o, o < 64 → (bit l o ↔ o < i ∧ lft S W st x o)) → FrV v a M Mx → vl Mx (v + 1) = vl M (v + 1) → vl Mx v 6 = vl M v 6 → stC Mx v S (fun o => cif (o < i) (s1 S W st x o) (st o)) →
      At G (d + 1) 101 6 [(0, .ref v), (1, .ref b), (2, .long x), (4, .long l), (6, .int (nI i))] [] Mx (qV Q) := by
    intro j
    induction j with
    | zero =>
      intro i l Mx e hl gx wx ux sx
      have hx := h.fr gx
      refine c_X10_decide_6 hx.1 hx.2.2.1.1 ⟨fun _ => l2 64 0 l Mx rfl (fun o ho => ?_) gx wx (sx.cg (fun o ho => ?_)) (fun o ho => ?_), fun z => absurd (show (64 : Int32) ≤ nI i from nI_le (a := 64) (by omega) (by omega)) z⟩
      · rw [hl o ho]; exact ⟨fun z => z.2, fun z => ⟨by omega, z⟩⟩
      · rw [cif_T (show o < i by omega), cif_F (fun z => by omega)]
      · rw [ux, hb o ho]
        exact ⟨fun z => ⟨z.1, Or.inl z.2⟩, fun z => ⟨z.1, z.2.elim id (fun y => by omega)⟩⟩
    | succ j ih =>
      intro i l Mx e hl gx wx ux sx
      have hx := h.fr gx
      have sbi := sb i
      have v6 : vp_in (nI i) 64 := vp_in_nI (by omega) (by omega)
      have is3 : (vi Mx (v + 2) i = 3) ↔ (isM S i ∧ st i = 3) := by
        rw [sx i (by omega)]
        dsimp only
        rw [cif_F (show ¬ i < i by omega)]
        by_cases is : isM S i
        · rw [cif_T is, show (3 : Int32) = nI 3 from rfl, eq_I (by omega) (by omega)]
          exact ⟨fun z => ⟨is, z⟩, fun z => z.2⟩
        · rw [cif_F is]; exact ⟨fun z => absurd z (by decide), fun z => absurd z.1 is⟩
      have sk : ¬ (wai S W st x i ∧ fel S st i) → stC Mx v S (fun o => cif (o < i + 1) (s1 S W st x o) (st o)) := fun n => sx.cg (fun o ho => by
        by_cases y : o = i
        · rw [y, cif_F (show ¬ i < i by omega), cif_T (show i < i + 1 by omega)]
          unfold s1; rw [cif_F n]
        · by_cases z : o < i
          · rw [cif_T z, cif_T (show o < i + 1 by omega)]
          · rw [cif_F z, cif_F (show ¬ o < i + 1 by omega)])
      have sl : ¬ lft S W st x i → ∀ o, o < 64 → (bit l o ↔ o < i + 1 ∧ lft S W st x o) := fun n o ho => by
        rw [hl o ho]
        refine ⟨fun z => ⟨by omega, z.2⟩, fun z => ⟨?_, z.2⟩⟩
        rcases Nat.lt_or_ge o i with q | q
        · exact q
        · have eo : o = i := by omega
          rw [eo] at z; exact absurd z.2 n
      have skip : ¬ wai S W st x i → At G (d + 1) 101 6 [(0, .ref v), (1, .ref b), (2, .long x), (4, .long l), (6, .int (nI (i + 1)))] [] Mx (qV Q) := fun n =>
        ih (i + 1) l Mx (by omega) (sl (fun z => n ⟨z.1, z.2.1, z.2.2.1⟩)) gx wx ux (sk (fun z => n z.1))
      refine c_X10_decide_6 hx.1 hx.2.2.1.1 ⟨fun z => absurd z (nI_ge (a := i) (b := 64) (by omega) (by decide)), fun _ => ⟨v6, ?_⟩⟩
      rw [nI_clamp (by omega), is3, nI_1, cmp_eq, cmp_eq]
      refine ⟨fun n => skip (fun z => n ⟨z.1, z.2.1⟩), fun y3 => ⟨v6, fun ev => ⟨v6, fun z => ?_, fun z => ⟨v6, fun M1 e1 => ?_⟩⟩, fun nv => skip (fun z => ?_)⟩⟩
      · have wi : wai S W st x i := ⟨y3.1, y3.2, by rw [← hw i y3.1, ← wx]; exact ev⟩
        have nf : ¬ fel S st i := fun ⟨o, h1, h2, h3⟩ => by
          have ho := isM_lt V h1
          exact (bit_nz.mpr ⟨o, ho, (hx.2.2.1.cl y3.1 ho).mpr ⟨h1, h3⟩, by rw [ux]; exact (hb o ho).mpr ⟨h1, h2⟩⟩) z
        have lf : lft S W st x i := ⟨wi.1, wi.2.1, wi.2.2, nf⟩
        refine ih (i + 1) _ Mx (by omega) (fun o ho => ?_) gx wx ux (sk (fun z => nf z.2))
        rw [bit_or, bit_shl (by omega), hl o ho]
        constructor
        · rintro (u | u)
          · exact ⟨by omega, u.2⟩
          · rw [u]; exact ⟨by omega, lf⟩
        · rintro ⟨u1, u2⟩
          by_cases y : o = i
          · exact Or.inr y
          · exact Or.inl ⟨by omega, u2⟩
      · have wi : wai S W st x i := ⟨y3.1, y3.2, by rw [← hw i y3.1, ← wx]; exact ev⟩
        obtain ⟨o, ho, h1, h2⟩ := bit_nz.mp z
        rw [ux] at h2
        have f : fel S st i := ⟨o, ((hb o ho).mp h2).1, ((hb o ho).mp h2).2, ((hx.2.2.1.cl y3.1 ho).mp h1).2⟩
        refine ih (i + 1) l M1 (by omega) (sl (fun z => z.2.2.2 f)) (gx.trans (by rw [e1]; exact FrV.si)) (by rw [← wx, e1]; rfl) (by rw [← ux, e1]; rfl) (sx.put (n := 0) y3.1 e1 ?_ (fun o ho y => ?_))
        · rw [cif_T (show i < i + 1 by omega)]
          unfold s1; rw [cif_T ⟨wi, f⟩]
        · by_cases z : o < i
          · rw [cif_T z, cif_T (show o < i + 1 by omega)]
          · rw [cif_F z, cif_F (show ¬ o < i + 1 by omega)]
      · rw [wx, hw i y3.1] at nv
        exact nv z.2.2
  refine c_X10_decide h.1 h.2.2.1.1 (l1 64 0 0 M rfl (fun o ho => ⟨fun z => absurd z (bit_0 o), fun z => by omega⟩) FrV.refl rfl rfl (hst.cg (fun o ho => ?_)))
  rw [cif_F (show ¬ o < 0 by omega)]
end
