/-! NEW CELLS: Arrays.copyOf, a new MARK -/
/-- M' is M and new cells; those at which E holds may have changed -/
def Grw (E : Nat → Prop) (M M' : Mem) : Prop := (∀ b, b < mN M → mK M' b = mK M b ∧ mA M' b = mA M b ∧ (¬ E b → same M M' b)) ∧ mN M ≤ mN M' ∧ mS M ≤ mS M' ∧ frM M'
section
variable {E E' : Nat → Prop} {M M' M'' : Mem}
theorem Grw.refl (F : frM M) : Grw E M M := ⟨fun _ _ => ⟨rfl, rfl, fun _ => same.refl⟩, Nat.le_refl _, Nat.le_refl _, F⟩
theorem Grw.trans (h : Grw E M M') (h2 : Grw E M' M'') : Grw E M M'' :=
  ⟨fun b hb => by
    have z := h.1 b hb
    have y := h2.1 b (Nat.lt_of_lt_of_le hb h.2.1)
    exact ⟨y.1.trans z.1, y.2.1.trans z.2.1, fun hE => (z.2.2 hE).trans (y.2.2 hE)⟩, Nat.le_trans h.2.1 h2.2.1, Nat.le_trans h.2.2.1 h2.2.2.1, h2.2.2.2⟩
theorem Grw.sub (h : Grw E M M') (hE : ∀ b, E b → E' b) : Grw E' M M' := ⟨fun b hb => ⟨(h.1 b hb).1, (h.1 b hb).2.1, fun n => (h.1 b hb).2.2 (fun z => n (hE b z))⟩, h.2⟩
theorem Grw.ob {q a : Nat} (h : Grw E M M') (F : frM M) (O : ObAt q M a) (e : vr M' a = vr M a) (hq : q < 13) : ObAt q M' a :=
  O.keep (fun b hb => ⟨(h.1 b (F.lt hb)).1, (h.1 b (F.lt hb)).2.1⟩) e hq
theorem Grw.ob2 {q a : Nat} (h : Grw E M M') (F : frM M) (O : ObAt q M a) (e : ¬ E a) (hq : q < 13) : ObAt q M' a :=
  h.ob F O ((h.1 a (F.lt (by rw [O.1]; omega))).2.2 e).2.2 hq
theorem Grw.mk {o : Nat} {y : MkT} {N : Nat} (h : Grw E M M') (F : frM M) (hm : mkAt M o y) (h1 : N ≤ o) (h2 : ∀ t, vr M o 5 = some t → N ≤ t) (hE : ∀ b, E b → b < N) : mkAt M' o y ∧ ∀ t, vr M' o 5 = some t → N ≤ t := by
  have so := h.1 o (F.lt (by rw [hm.k]; decide))
  have s0 := so.2.2 (fun z => by have := hE o z; omega)
  refine ⟨hm.same so.1 s0 (fun t e => ?_), fun t e => h2 t (by rw [← s0.2.2]; exact e)⟩
  have tl : t < mN M := F.lt (by
    rcases hm.f5 with ⟨_, z⟩ | ⟨_, t', e1, e2, _⟩
    · rw [e] at z; cases z
    · have : t = t' := some_inj e1 e
      subst this
      rw [e2]; decide)
  have st := h.1 t tl
  exact ⟨st.2.2 (fun z => by have := hE t z; have := h2 t e; omega), st.1, st.2.1⟩
theorem Grw.new (F : frM M) (K n : Nat) : Grw E M (mnew M K n) := by
  refine ⟨fun b hb => ?_, Nat.le_succ _, Nat.le_add_right _ _, fr_mnew F⟩
  have ne : b ≠ mN M := by omega
  exact ⟨by rw [mK_mnew, if_neg ne], by rw [mA_mnew, if_neg ne], fun _ => ⟨by rw [vi_mnew, if_neg ne], by rw [vl_mnew, if_neg ne], by rw [vr_mnew, if_neg ne]⟩⟩
/-- nothing new -/
theorem Grw.ofF {b : Nat} {G L : List Nat} (f : Frl b G L M M') (F : frM M) (h0 : E b) (hL : ∀ o ∈ L, E (b + o)) : Grw E M M' := by
  refine ⟨fun a ha => ⟨by rw [f.2.2.1], by rw [f.2.2.2.1], fun n => ?_⟩, by rw [f.1]; exact Nat.le_refl _, by rw [f.2.1]; exact Nat.le_refl _, fun a ha => ?_⟩
  · exact ⟨by funext k; exact (f.2.2.2.2.2 a k (fun e => absurd (e ▸ h0) n) (fun o ho e => n (e ▸ hL o ho))).1, by funext k; exact (f.2.2.2.2.2 a k (fun e => absurd (e ▸ h0) n) (fun o ho e => n (e ▸ hL o ho))).2, by rw [f.2.2.2.2.1]⟩
  · rw [f.2.2.1]; exact F a (by rw [← f.1]; exact ha)
theorem Grw.si {b k : Nat} {z : Int32} (F : frM M) (h0 : E b) : Grw E M (seti M b k z) :=
  ⟨fun a _ => ⟨rfl, rfl, fun n => ⟨by funext j; rw [vi_seti, if_neg (fun (e : a = b ∧ j = k) => n (e.1.symm ▸ h0))], rfl, rfl⟩⟩, Nat.le_refl _, Nat.le_refl _, F⟩
theorem Grw.sr {b k : Nat} {z : Option Nat} (F : frM M) (h0 : E b) : Grw E M (setr M b k z) :=
  ⟨fun a _ => ⟨rfl, rfl, fun n => ⟨rfl, rfl, by funext j; rw [vr_setr, if_neg (fun (e : a = b ∧ j = k) => n (e.1.symm ▸ h0))]⟩⟩, Nat.le_refl _, Nat.le_refl _, F⟩
end
section
variable {G : GT} {d : Nat} {M M' : Mem}
theorem k_copyOf {a n : Nat} {Q : Option Nat → Mem → Prop} (hk : mK M a = 15) (hl : mA M a = 20) (F : frM M) (n2 : n ≤ 20)
    (hq : ∀ M', Grw (fun _ => False) M M' → mN M' = mN M + 1 → mS M' = mS M + n → mK M' (mN M) = 15 → mA M' (mN M) = n → (∀ i, i < n → vi M' (mN M) i = vi M a i) → Q (some (mN M)) M') : CR G (d + 1) 273 [.ref a, .int (nI n)] M Q := by
  have al : a < mN M := F.lt (by rw [hk]; decide)
  refine Cl.ofM (Nat.le_of_ble_eq_true rfl) rfl ?_
  refine vcc ok273 0 [] ?_
  refine Or.inl ⟨⟨by rw [hk]; decide, by rw [hk]; decide⟩, ?_⟩
  refine And.intro (fun c => ?_) (fun c => ?_)
  · refine ⟨nlt0 _ (by omega), by rw [nI_clamp (by omega)]; omega, ?_⟩
    have ne : a ≠ mN M := by omega
    have ka : mK (mnew M 15 (nI n).toNatClampNeg) a = 15 := by rw [mK_mnew, if_neg ne]; exact hk
    have la : mA (mnew M 15 (nI n).toNatClampNeg) a = 20 := by rw [mA_mnew, if_neg ne]; exact hl
    refine Or.inl ⟨⟨by rw [ka]; decide, by rw [ka]; decide⟩, ?_⟩
    refine ⟨Nat.le_of_ble_eq_true rfl, ?_⟩
    have em : (if nI n < nI (mA (mnew M 15 (nI n).toNatClampNeg) a) then nI n else nI (mA (mnew M 15 (nI n).toNatClampNeg) a)) = nI n := by
      rw [la]
      by_cases y : n < 20
      · rw [if_pos (nI_lt y (by omega))]
      · rw [if_neg (nI_nlt (by omega) (by omega)), show n = 20 by omega]
    rw [em]
    refine ⟨Nat.le_of_ble_eq_true rfl, by decide, by decide, nlt0 _ (by omega), ?_, ?_, Or.inl ⟨ka, ?_, ?_⟩⟩
    · rw [la, nI_clamp (by omega)]; show 0 + n ≤ 20; omega
    · rw [mA_mnew, if_pos rfl, nI_clamp (by omega)]; show 0 + n ≤ n; omega
    · rw [mK_mnew, if_pos rfl]
    · refine ⟨some _, rfl, ?_⟩
      have g := Grw.new (E := fun _ => False) F 15 (nI n).toNatClampNeg
      rw [nI_clamp (by omega)] at g ⊢
      show Q (some (mN M)) (cpi (mnew M 15 n) a 0 (mN M) 0 n)
      refine hq _ ⟨fun b hb => ?_, g.2.1, g.2.2.1, g.2.2.2⟩ rfl rfl ?_ ?_ (fun i hi => ?_)
      · have z := g.1 b hb
        refine ⟨z.1, z.2.1, fun _ => ⟨?_, (z.2.2 id).2.1, (z.2.2 id).2.2⟩⟩
        rw [vi_cpi, if_neg (by omega)]; exact (z.2.2 id).1
      · show mK (mnew M 15 n) (mN M) = 15
        rw [mK_mnew, if_pos rfl]
      · show mA (mnew M 15 n) (mN M) = n
        rw [mA_mnew, if_pos rfl]
      · rw [vi_cpi, if_pos rfl, pk_cpy_in (by omega) (by omega), vi_mnew, if_neg ne]
        congr 1; omega
  · refine ⟨Nat.le_of_ble_eq_true rfl, hk, ?_⟩
    have e20 : n = 20 := by rw [hl] at c; exact (nI_eq (by omega) (by omega)).mp c
    have nk : mK (mcl M a) (mN M) = 15 := by show up1 (mK M) (mN M) 15 (mN M) = 15; unfold up1; rw [if_pos rfl]
    refine ⟨nk, some _, rfl, ?_⟩
    refine hq _ ⟨fun b hb => ?_, Nat.le_succ _, Nat.le_add_right _ _, fun b hb => ?_⟩ rfl (by show mS M + mA M a = _; rw [hl, e20]) nk ?_ (fun i hi => ?_)
    · have ne : b ≠ mN M := by omega
      refine ⟨?_, ?_, fun _ => ⟨?_, ?_, ?_⟩⟩
      · show up1 (mK M) (mN M) 15 b = _; unfold up1; rw [if_neg ne]
      · show up1 (mA M) (mN M) (mA M a) b = _; unfold up1; rw [if_neg ne]
      · show up1 (vi M) (mN M) (vi M a) b = _; unfold up1; rw [if_neg ne]
      · show up1 (vl M) (mN M) (fun _ => 0) b = _; unfold up1; rw [if_neg ne]
      · show up1 (vr M) (mN M) (fun _ => none) b = _; unfold up1; rw [if_neg ne]
    · have hb2 : mN M + 1 ≤ b := hb
      show up1 (mK M) (mN M) 15 b = 0; unfold up1; rw [if_neg (by omega)]; exact F b (by omega)
    · show up1 (mA M) (mN M) (mA M a) (mN M) = n; unfold up1; rw [if_pos rfl, hl, e20]
    · show up1 (vi M) (mN M) (vi M a) (mN M) i = _; unfold up1; rw [if_pos rfl]
/-- the object at o alone is another -/
def Ob1 (o : Nat) (M M' : Mem) : Prop := mN M' = mN M ∧ mS M' = mS M ∧ mK M' = mK M ∧ mA M' = mA M ∧ ∀ c, c ≠ o → same M M' c
theorem Ob1.trans {o : Nat} {M'' : Mem} (h : Ob1 o M M') (h2 : Ob1 o M' M'') : Ob1 o M M'' := ⟨h2.1.trans h.1, h2.2.1.trans h.2.1, h2.2.2.1.trans h.2.2.1, h2.2.2.2.1.trans h.2.2.2.1, fun c hc => (h.2.2.2.2 c hc).trans (h2.2.2.2.2 c hc)⟩
theorem Ob1.si {o k : Nat} {z : Int32} : Ob1 o M (seti M o k z) := ⟨rfl, rfl, rfl, rfl, fun c hc => ⟨by funext j; rw [vi_seti, if_neg (fun (e : c = o ∧ j = k) => hc e.1)], rfl, rfl⟩⟩
theorem Ob1.sr {o k : Nat} {z : Option Nat} : Ob1 o M (setr M o k z) := ⟨rfl, rfl, rfl, rfl, fun c hc => ⟨rfl, rfl, by funext j; rw [vr_setr, if_neg (fun (e : c = o ∧ j = k) => hc e.1)]⟩⟩
theorem Ob1.k {o q : Nat} (h : Ob1 o M M') (O : mK M o = q) : mK M' o = q := by rw [h.2.2.1]; exact O
theorem Ob1.fr {o : Nat} (h : Ob1 o M M') (F : frM M) : frM M' := fun a ha => by rw [h.2.2.1]; exact F a (by rw [← h.1]; exact ha)
/-- a new MARK -/
def mkF (M' : Mem) (o : Nat) (a b e g l : Int32) (t : Option Nat) : Prop :=
  vi M' o 0 = a ∧ vi M' o 1 = b ∧ vi M' o 2 = e ∧ vi M' o 3 = g ∧ vi M' o 4 = l ∧ vi M' o 6 = (if g = -1 then b else if g < b then g else b) ∧ vi M' o 7 = (if g = -1 then e else if e < g then g else e) ∧ vr M' o 5 = t
theorem k_mark0 {o : Nat} {a b e g l : Int32} {t : Option Nat} {Q : Mem → Prop} (O : mK M o = 6) (F : frM M) (h : vi M o 0 = a ∧ vi M o 1 = b ∧ vi M o 2 = e ∧ vi M o 3 = g ∧ vi M o 4 = l ∧ vr M o 5 = t) (hq : ∀ M', Ob1 o M M' → mkF M' o a b e g l t → Q M') : At G (d + 1) 47 49 [(0, .ref o), (2, .int b), (3, .int e), (4, .int g)] [] M (qV Q) := by
  have e69 : ∀ M1, M1 = seti M o 6 (if g = -1 then b else if g < b then g else b) → At G (d + 1) 47 69 [(0, .ref o), (3, .int e), (4, .int g)] [] M1 (qV Q) := by
    intro M1 e1
    have f1 : Ob1 o M M1 := by rw [e1]; exact Ob1.si
    have e89 : ∀ M2, M2 = seti M1 o 7 (if g = -1 then e else if e < g then g else e) → At G (d + 1) 47 89 [] [] M2 (qV Q) := by
      intro M2 e2
      have f2 : Ob1 o M M2 := f1.trans (by rw [e2]; exact Ob1.si)
      have r : ∀ k, k ≠ 6 → k ≠ 7 → vi M2 o k = vi M o k := fun k h1 h2 => by rw [e2, vi_seti, if_neg (fun z => h2 z.2), e1, vi_seti, if_neg (fun z => h1 z.2)]
      refine i_X5_89 (o := o) (a5 := 0) (f2.k O) (f2.fr F) (hq M2 f2 ⟨?_, ?_, ?_, ?_, ?_, ?_, ?_, ?_⟩)
      · rw [r 0 (by decide) (by decide)]; exact h.1
      · rw [r 1 (by decide) (by decide)]; exact h.2.1
      · rw [r 2 (by decide) (by decide)]; exact h.2.2.1
      · rw [r 3 (by decide) (by decide)]; exact h.2.2.2.1
      · rw [r 4 (by decide) (by decide)]; exact h.2.2.2.2.1
      · rw [e2, vi_seti, if_neg (by omega), e1, vi_seti, if_pos ⟨rfl, rfl⟩]
      · rw [e2, vi_seti, if_pos ⟨rfl, rfl⟩]
      · rw [e2, vr_seti, e1, vr_seti]; exact h.2.2.2.2.2
    refine i_X5_69 (a5 := 0) (f1.k O) (f1.fr F) ⟨fun c M2 e2 => e89 M2 ?_, fun c M2 e2 => e89 M2 ?_⟩
    · rw [e2, if_neg c]
    · rw [e2, if_pos c]
  refine i_X5_49 (a5 := 0) O F ⟨fun c M2 e2 => e69 M2 ?_, fun c M2 e2 => e69 M2 ?_⟩
  · rw [e2, if_neg c]
  · rw [e2, if_pos c]
theorem k_markN {o : Nat} {a b e g : Int32} {Q : Mem → Prop} (O : mK M o = 6) (F : frM M) (hq : ∀ M', Ob1 o M M' → mkF M' o a b e g (e - b) none → Q M') : CV G (d + 1) 47 [.ref o, .int a, .int b, .int e, .int g, .null] M Q := by
  refine i_X5n (a5 := 0) O F (i_X5n_4n5 (a5 := 0) O F (fun M1 e1 => ?_))
  have f1 : Ob1 o M M1 := by rw [e1]; exact Ob1.si
  refine i_X5n_9n5 (a5 := 0) (f1.k O) (f1.fr F) (fun M2 e2 => ?_)
  have f2 : Ob1 o M M2 := f1.trans (by rw [e2]; exact Ob1.si)
  refine i_X5n_14n5 (a5 := 0) (f2.k O) (f2.fr F) (fun M3 e3 => ?_)
  have f3 : Ob1 o M M3 := f2.trans (by rw [e3]; exact Ob1.si)
  refine i_X5n_19n5 (a5 := 0) (f3.k O) (f3.fr F) (fun M4 e4 => ?_)
  have f4 : Ob1 o M M4 := f3.trans (by rw [e4]; exact Ob1.si)
  refine i_X5n_25n5 (a5 := 0) (f4.k O) (f4.fr F) (fun M5 e5 => ?_)
  have f5 : Ob1 o M M5 := f4.trans (by rw [e5]; exact Ob1.sr)
  refine i_X5n_31n5 (a5 := 0) (f5.k O) (f5.fr F) (fun M6 e6 => ?_)
  have f6 : Ob1 o M M6 := f5.trans (by rw [e6]; exact Ob1.si)
  refine k_mark0 (a := a) (l := e - b) (t := none) (f6.k O) (f6.fr F) ⟨?_, ?_, ?_, ?_, ?_, ?_⟩ (fun M7 f7 h7 => hq M7 (f6.trans f7) h7)
  · rw [e6, vi_seti, if_neg (by omega), e5, vi_setr, e4, vi_seti, if_neg (by omega), e3, vi_seti, if_neg (by omega), e2, vi_seti, if_neg (by omega), e1, vi_seti, if_pos ⟨rfl, rfl⟩]
  · rw [e6, vi_seti, if_neg (by omega), e5, vi_setr, e4, vi_seti, if_neg (by omega), e3, vi_seti, if_neg (by omega), e2, vi_seti, if_pos ⟨rfl, rfl⟩]
  · rw [e6, vi_seti, if_neg (by omega), e5, vi_setr, e4, vi_seti, if_neg (by omega), e3, vi_seti, if_pos ⟨rfl, rfl⟩]
  · rw [e6, vi_seti, if_neg (by omega), e5, vi_setr, e4, vi_seti, if_pos ⟨rfl, rfl⟩]
  · rw [e6, vi_seti, if_pos ⟨rfl, rfl⟩]
  · rw [e6, vr_seti, e5, vr_setr, if_pos ⟨rfl, rfl⟩]
theorem k_markT {o t : Nat} {a b e g : Int32} {Q : Mem → Prop} (O : mK M o = 6) (F : frM M) (ht : mK M t = 15) (hq : ∀ M', Ob1 o M M' → mkF M' o a b e g (nI (mA M t)) (some t) → Q M') : CV G (d + 1) 47 [.ref o, .int a, .int b, .int e, .int g, .ref t] M Q := by
  refine i_X5 O F (i_X5_4 O F (fun M1 e1 => ?_))
  have f1 : Ob1 o M M1 := by rw [e1]; exact Ob1.si
  refine i_X5_9 (f1.k O) (f1.fr F) (fun M2 e2 => ?_)
  have f2 : Ob1 o M M2 := f1.trans (by rw [e2]; exact Ob1.si)
  refine i_X5_14 (f2.k O) (f2.fr F) (fun M3 e3 => ?_)
  have f3 : Ob1 o M M3 := f2.trans (by rw [e3]; exact Ob1.si)
  refine i_X5_19 (f3.k O) (f3.fr F) (fun M4 e4 => ?_)
  have f4 : Ob1 o M M4 := f3.trans (by rw [e4]; exact Ob1.si)
  refine i_X5_25 (f4.k O) (f4.fr F) (fun M5 e5 => ?_)
  have f5 : Ob1 o M M5 := f4.trans (by rw [e5]; exact Ob1.sr)
  refine i_X5_31 (f5.k O) (f5.fr F) ⟨by rw [f5.2.2.1, ht]; decide, fun M6 e6 => ?_⟩
  rw [f5.2.2.2.1] at e6
  have f6 : Ob1 o M M6 := f5.trans (by rw [e6]; exact Ob1.si)
  refine k_mark0 (a := a) (l := nI (mA M t)) (t := some t) (f6.k O) (f6.fr F) ⟨?_, ?_, ?_, ?_, ?_, ?_⟩ (fun M7 f7 h7 => hq M7 (f6.trans f7) h7)
  · rw [e6, vi_seti, if_neg (by omega), e5, vi_setr, e4, vi_seti, if_neg (by omega), e3, vi_seti, if_neg (by omega), e2, vi_seti, if_neg (by omega), e1, vi_seti, if_pos ⟨rfl, rfl⟩]
  · rw [e6, vi_seti, if_neg (by omega), e5, vi_setr, e4, vi_seti, if_neg (by omega), e3, vi_seti, if_neg (by omega), e2, vi_seti, if_pos ⟨rfl, rfl⟩]
  · rw [e6, vi_seti, if_neg (by omega), e5, vi_setr, e4, vi_seti, if_neg (by omega), e3, vi_seti, if_pos ⟨rfl, rfl⟩]
  · rw [e6, vi_seti, if_neg (by omega), e5, vi_setr, e4, vi_seti, if_pos ⟨rfl, rfl⟩]
  · rw [e6, vi_seti, if_pos ⟨rfl, rfl⟩]
  · rw [e6, vr_seti, e5, vr_setr, if_pos ⟨rfl, rfl⟩]
/-- what is behind mnew and the constructor: a MARK -/
theorem k_newN {a b e g : Int32} {y : MkT} {Q : Mem → Prop} (F : frM M) (ey : y = (a, b, e, g, [])) (ne : a ≠ 0) (hq : ∀ M', Grw (fun _ => False) M M' → mN M' = mN M + 1 → mS M' = mS M + 8 → mkAt M' (mN M) y → (∀ t, vr M' (mN M) 5 = some t → mN M ≤ t) → Q M') : CV G (d + 1) 47 [.ref (mN M), .int a, .int b, .int e, .int g, .null] (mnew M 6 8) Q := by
  have g0 := Grw.new (E := fun _ => False) F 6 8
  have O : mK (mnew M 6 8) (mN M) = 6 := by rw [mK_mnew, if_pos rfl]
  refine k_markN O g0.2.2.2 (fun M' f h => hq M' ⟨fun c hc => ?_, by rw [f.1]; exact g0.2.1, by rw [f.2.1]; exact g0.2.2.1, f.fr g0.2.2.2⟩ (by rw [f.1]; rfl) (by rw [f.2.1]; rfl) ?_ (fun t et => ?_))
  · have z := g0.1 c hc
    exact ⟨by rw [f.2.2.1]; exact z.1, by rw [f.2.2.2.1]; exact z.2.1, fun n => (z.2.2 n).trans (f.2.2.2.2 c (by omega))⟩
  · subst ey
    refine ⟨f.k O, h.1, h.2.1, h.2.2.1, h.2.2.2.1, ?_, h.2.2.2.2.2.1, h.2.2.2.2.2.2.1, Or.inl ⟨ne, h.2.2.2.2.2.2.2⟩⟩
    rw [h.2.2.2.2.1]
    show e - b = if a = 0 then _ else e - b
    rw [if_neg ne]
  · rw [h.2.2.2.2.2.2.2] at et; cases et
end
