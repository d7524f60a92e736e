/-! MARKS: the reference's call -/
theorem cif_el {α : Type} {φ : α → Prop} {P : Prop} {a b : α} (h1 : P → φ a) (h2 : ¬ P → φ b) : φ (cif P a b) := by
  by_cases c : P
  · rw [cif_T c]; exact h1 c
  · rw [cif_F c]; exact h2 c
theorem flt_lt {p c : Nat} (hp : p ≤ 1000) (hc : c < 8) : flt p c < 100000 := by unfold flt; omega
theorem nuF_lt {t : TpT} {p lo hi : Nat} (hp : p ≤ 1000) : nuF t p lo hi < 100000 :=
  cif_el (φ := fun r => r < 100000) (fun _ => flt_lt hp (by omega)) (fun _ => cif_el (φ := fun r => r < 100000) (fun _ => flt_lt hp (by omega)) (fun _ => by omega))
theorem pTx_lt {t : TpT} (f : Nat) : ∀ (p : Nat) (acc : List Int32), f + p ≤ 1000 → (pTx t f p acc).1 < 100000 := by
  induction f with
  | zero => intro p acc h; exact flt_lt (by omega) (by omega)
  | succ f ih =>
    intro p acc h
    unfold pTx
    refine cif_el (φ := fun (r : Nat × List Int32 × Nat) => r.1 < 100000) (fun _ => ?_) (fun _ => flt_lt (by omega) (by omega))
    refine cif_el (φ := fun (r : Nat × List Int32 × Nat) => r.1 < 100000) (fun _ => ?_) (fun _ => ?_)
    · exact cif_el (φ := fun (r : Nat × List Int32 × Nat) => r.1 < 100000) (fun _ => flt_lt (by omega) (by omega)) (fun _ => by show 0 < _; omega)
    · exact cif_el (φ := fun (r : Nat × List Int32 × Nat) => r.1 < 100000) (fun _ => flt_lt (by omega) (by omega)) (fun _ => ih _ _ (by omega))
theorem pC_lt {t : TpT} {S : ShT} {n q : Nat} (t4 : t.1 ≤ 400) (hq : q ≤ t.1) : (pC t S n q).1 < 100000 := by
  have z0 : (0 : Nat) < 100000 := by omega
  unfold pC
  refine cif_el (φ := fun (r : RdT) => r.1 < 100000) (fun _ => flt_lt (by omega) (by omega)) (fun _ => ?_)
  refine cif_el (φ := fun (r : RdT) => r.1 < 100000) (fun _ => flt_lt (by omega) (by omega)) (fun _ => ?_)
  have hk := (skB_le (wl_le hq)).2
  generalize skB t (q + wl t q) = u at hk ⊢
  generalize vIx t q = k
  have h1 := nX_le hk
  have h2 := (skB_le h1).2
  have h2' : q2 t u ≤ t.1 := h2
  have h3 : q3 t u ≤ t.1 := (skB_le (nX_le h2)).2
  unfold pM
  refine cif_el (φ := fun (r : RdT) => r.1 < 100000) (fun _ => ?_) (fun _ => ?_)
  · unfold pIns
    refine cif_el (φ := fun (r : RdT) => r.1 < 100000) (fun _ => ?_) (fun _ => nuF_lt (by omega))
    refine cif_el (φ := fun (r : RdT) => r.1 < 100000) (fun _ => ?_) (fun _ => flt_lt (by omega) (by omega))
    exact cif_el (φ := fun (r : RdT) => r.1 < 100000) (fun _ => z0) (fun _ => pTx_lt 21 _ _ (by omega))
  refine cif_el (φ := fun (r : RdT) => r.1 < 100000) (fun _ => ?_) (fun _ => ?_)
  · unfold pClo
    refine cif_el (φ := fun (r : RdT) => r.1 < 100000) (fun _ => ?_) (fun _ => nuF_lt (by omega))
    exact cif_el (φ := fun (r : RdT) => r.1 < 100000) (fun _ => flt_lt (by omega) (by omega)) (fun _ => z0)
  refine cif_el (φ := fun (r : RdT) => r.1 < 100000) (fun _ => ?_) (fun _ => ?_)
  · refine cif_el (φ := fun (r : RdT) => r.1 < 100000) (fun _ => ?_) (fun _ => ?_)
    · refine cif_el (φ := fun (r : RdT) => r.1 < 100000) (fun _ => ?_) (fun _ => nuF_lt (by omega))
      exact cif_el (φ := fun (r : RdT) => r.1 < 100000) (fun _ => flt_lt (by omega) (by omega)) (fun _ => z0)
    · refine cif_el (φ := fun (r : RdT) => r.1 < 100000) (fun _ => ?_) (fun _ => z0)
      exact cif_el (φ := fun (r : RdT) => r.1 < 100000) (fun _ => z0) (fun _ => nuF_lt (by omega))
  · exact cif_el (φ := fun r => r < 100000) (fun _ => nuF_lt (by omega)) (fun _ => nuF_lt (by omega))
theorem gA_l {α : Type} {l : List α} {x d : α} {i : Nat} (h : i < l.length) : (l ++ [x]).getD i d = l.getD i d := by
  rw [List.getD_eq_getElem?_getD, List.getD_eq_getElem?_getD, List.getElem?_append_left h]
theorem gA_r {α : Type} {l : List α} {x d : α} : (l ++ [x]).getD l.length d = x := by
  rw [List.getD_eq_getElem?_getD, List.getElem?_append_right (Nat.le_refl _), Nat.sub_self]; rfl
def dMk : MkT := (0, 0, 0, 0, [])
/-- MARKS l behind those of HAND h -/
def addM (S : ShT) (h : Nat) (l : List MkT) : ShT :=
  (S.1, S.2.1, (hN S, hR S, fun i => if i = h then hC S h + l.length else hC S i), (fun s => if s / 16 = h ∧ hC S h ≤ s % 16 ∧ s % 16 < hC S h + l.length then l.getD (s % 16 - hC S h) dMk else kM S s), cC S)
theorem addM_is {S : ShT} {h : Nat} {l : List MkT} (V : okS S) (hh : h < hN S) (hl : hC S h + l.length ≤ 16) (s : Nat) : isM (addM S h l) s ↔ isM S s ∨ (s / 16 = h ∧ hC S h ≤ s % 16 ∧ s % 16 < hC S h + l.length) := by
  show s / 16 < hN S ∧ s % 16 < (if s / 16 = h then hC S h + l.length else hC S (s / 16)) ↔ _
  unfold isM
  by_cases z : s / 16 = h
  · rw [if_pos z, z]
    constructor
    · intro y
      rcases Nat.lt_or_ge (s % 16) (hC S h) with u | u
      · exact Or.inl ⟨hh, u⟩
      · exact Or.inr ⟨rfl, u, y.2⟩
    · intro y
      rcases y with y | y
      · exact ⟨hh, by omega⟩
      · exact ⟨hh, y.2.2⟩
  · rw [if_neg z]
    constructor
    · intro y; exact Or.inl y
    · intro y
      rcases y with y | y
      · exact y
      · exact absurd y.1 z
theorem addM_old {S : ShT} {h : Nat} {l : List MkT} {s : Nat} (hs : isM S s) : kM (addM S h l) s = kM S s := by
  show (if s / 16 = h ∧ hC S h ≤ s % 16 ∧ s % 16 < hC S h + l.length then l.getD (s % 16 - hC S h) dMk else kM S s) = _
  rw [if_neg (fun z => by have := hs.2; rw [z.1] at this; omega)]
theorem addM_new {S : ShT} {h i : Nat} {l : List MkT} (hl : hC S h + l.length ≤ 16) (hi : i < l.length) : kM (addM S h l) (16 * h + hC S h + i) = l.getD i dMk := by
  have e1 : (16 * h + hC S h + i) / 16 = h := by omega
  have e2 : (16 * h + hC S h + i) % 16 = hC S h + i := by omega
  show (if (16 * h + hC S h + i) / 16 = h ∧ hC S h ≤ (16 * h + hC S h + i) % 16 ∧ (16 * h + hC S h + i) % 16 < hC S h + l.length then l.getD ((16 * h + hC S h + i) % 16 - hC S h) dMk else _) = _
  rw [e1, e2, if_pos (by omega), show hC S h + i - hC S h = i by omega]
theorem addM_ok {S : ShT} {h : Nat} {l : List MkT} (V : okS S) (hh : h < hN S) (hl : hC S h + l.length ≤ 16) (ho : ∀ i, i < l.length → okM (gN S) (l.getD i dMk)) : okS (addM S h l) := by
  refine ⟨V.1, V.2.1, V.2.2.1, V.2.2.2.1, V.2.2.2.2.1, V.2.2.2.2.2.1, fun i => ?_, fun i hi => ?_, fun s hs => ?_, V.2.2.2.2.2.2.2.2.2⟩
  · show (if i = h then hC S h + l.length else hC S i) ≤ 16
    by_cases z : i = h
    · rw [if_pos z]; exact hl
    · rw [if_neg z]; exact V.c i
  · have hi2 : hN S ≤ i := hi
    show (if i = h then hC S h + l.length else hC S i) = 0
    rw [if_neg (by omega)]; exact V.c0 hi2
  · rcases (addM_is V hh hl s).mp hs with z | z
    · rw [addM_old z]; exact V.m z
    · have e : s = 16 * h + hC S h + (s % 16 - hC S h) := by omega
      rw [e, addM_new hl (by omega)]
      exact ho _ (by omega)
theorem kX_len {g : Nat} {x : MkT} (h : okM g x) : (kX x).length ≤ 20 := by
  by_cases z : kK x = 0
  · exact (h.2.2.1 z).2.2.2.1
  · rw [(h.2.2.2.1 z).1]; exact Nat.zero_le _
theorem slM.keep {M M' : Mem} {m s s' : Nat} {x : MkT} {L : List Nat} (h : slM M m s x) (f : FrS m s' L M M') (ne : s ≠ s') (hl : (kX x).length ≤ 20) (h0 : 0 ∉ L) : slM M' m s x := by
  have e : ∀ o, 7 ≤ o → o ≤ 11 → vi M' (m + o) s = vi M (m + o) s := fun o h1 h2 => by
    by_cases z : o ∈ L
    · exact f.2.1 o z (by omega) s ne
    · exact f.1.i z (by omega) s
  refine ⟨by rw [e 7 (by omega) (by omega)]; exact h.1, by rw [e 8 (by omega) (by omega)]; exact h.2.1, by rw [e 9 (by omega) (by omega)]; exact h.2.2.1, by rw [e 10 (by omega) (by omega)]; exact h.2.2.2.1, by rw [e 11 (by omega) (by omega)]; exact h.2.2.2.2.1, fun i hi => ?_⟩
  rw [f.2.2 _ (by omega)]
  exact h.2.2.2.2.2 i hi
theorem slM.fr {M M' : Mem} {m s : Nat} {x : MkT} {F L : List Nat} (h : slM M m s x) (f : Frl m F L M M') (hL : ∀ o, 7 ≤ o → o ≤ 12 → o ∉ L) : slM M' m s x := by
  have e : ∀ o, 7 ≤ o → o ≤ 12 → ∀ k, vi M' (m + o) k = vi M (m + o) k := fun o h1 h2 k => f.i (hL o h1 h2) (by omega) k
  exact ⟨by rw [e 7 (by omega) (by omega)]; exact h.1, by rw [e 8 (by omega) (by omega)]; exact h.2.1, by rw [e 9 (by omega) (by omega)]; exact h.2.2.1, by rw [e 10 (by omega) (by omega)]; exact h.2.2.2.1, by rw [e 11 (by omega) (by omega)]; exact h.2.2.2.2.1, fun i hi => by rw [e 12 (by omega) (by omega)]; exact h.2.2.2.2.2 i hi⟩
abbrev mrOk (S : ShT) (a : Int32) : Prop := 0 ≤ a.toInt ∧ a.toInt < hN S
noncomputable def pAll (T : StT) (h : Nat) : Nat × List MkT := pL T.1 (sh T) 17 (hC (sh T) h) 0 []
def v_marks (T : StT) (h : Nat) (l : List MkT) : StT := ((0, tB T), addM (sh T) h l, T.2.2)
noncomputable def f_marks (T : StT) (a : Int32) : Int32 := cif (mrOk (sh T) a) (cif ((pAll T a.toNatClampNeg).1 = 0) (nI (hC (sh T) a.toNatClampNeg + (pAll T a.toNatClampNeg).2.length)) (-2 - nI (pAll T a.toNatClampNeg).1)) (-1)
noncomputable def u_marks (T : StT) (a : Int32) : StT := cif (mrOk (sh T) a) (cif ((pAll T a.toNatClampNeg).1 = 0) (v_marks T a.toNatClampNeg (pAll T a.toNatClampNeg).2) (v_end T 0)) T
section
variable {G : GT} {d : Nat} {M M' : Mem} {m p : Nat} {T : StT}
theorem FrS.ou {s : Nat} (f : FrS m s mkLs M M') : Ou m M M' := f.1.ou (by decide)
theorem m_marks {a : Int32} {Q : Int32 → Mem → Prop} (W : RX M m T) (hq : ∀ M', RX M' m (u_marks T a) → Ou m M M' → Q (f_marks T a) M') : CI G (d + 7) 196 [.ref m, .int a] M Q := by
  have V := W.rs.2.1
  have hn4 := V.h
  have t4 : T.1.1 ≤ 400 := W.t4
  have g4 := V.g
  unfold u_marks f_marks at hq
  refine r_marks W.1 (s_isHand W.rs ⟨W.1, bnz (fun c => ?_) (fun c => by rw [cif_F c, cif_F c] at hq; exact hq M W Ou.refl)⟩)
  rw [cif_T c, cif_T c] at hq
  obtain ⟨h, hh, ea⟩ := asN c.1 c.2
  subst ea
  rw [nI_clamp (by omega)] at hq
  intro M3 e3 M4 e4
  have f4 : Frl m [14, 15] [] M M4 := by rw [e4, e3]; exact (Frl.sf (by decide)).trans (Frl.sf (by decide))
  have W4 := W.fr f4 (fun o ho => by simp <;> omega) (by decide)
  have c16 := V.c h
  refine ⟨vp_in_nI (by omega) (by omega), ?_⟩
  rw [nI_clamp (by omega), W4.rs.2.2.c hh]
  -- the end
  have e0 : ∀ (Mx : Mem) (n : Nat), RX Mx m T → Ou m M Mx → n ≤ 17 → (vi Mx m 15 = nI 0 → ∃ l : List MkT, pAll T h = (0, l) ∧ n = hC (sh T) h + l.length ∧ n ≤ 16 ∧ (∀ i, i < l.length → okM (gN (sh T)) (l.getD i dMk)) ∧ ∀ i, i < l.length → slM Mx m (16 * h + hC (sh T) h + i) (l.getD i dMk)) → (∀ f, ¬ f = 0 → f < 100000 → vi Mx m 15 = nI f → (pAll T h).1 = f) → (∃ f, f < 100000 ∧ vi Mx m 15 = nI f) →
      At G (d + 7) 196 29 [(0, .ref m), (1, .int (nI h)), (2, .int (nI n)), (3, .int 0)] [] Mx (qI Q) := by
    intro Mx n Wx ox n17 hy hn hf
    obtain ⟨f, f4', ef⟩ := hf
    refine r_marks_29 Wx.1 ⟨fun _ => ?_, fun c => absurd rfl c⟩
    intro M5 e5
    have f5 : Frl m [13] [] Mx M5 := by rw [e5]; exact Frl.sf (by decide)
    have ef5 : vi M5 m 15 = nI f := by rw [f5.f (by decide) (by decide)]; exact ef
    have k5 : mK M5 (m + 5) = 15 ∧ mA M5 (m + 5) = 4 := ⟨ra_k5 (f5.ra Wx.1), ra_l5 (f5.ra Wx.1)⟩
    rw [ef5]
    refine ⟨fun z => ⟨vp_in_nI (by omega) (by omega), ?_⟩, fun z => ?_⟩
    · rw [il_0, eq_I (by omega) (by omega)] at z
      have pf := hn f z f4' ef
      rw [cif_F (by rw [pf]; exact z), cif_F (by rw [pf]; exact z), pf] at hq
      refine r_marks_158 (f5.ra Wx.1) ⟨k5.1, by rw [k5.2]; exact vp_in_nI (by omega) (by omega), ?_⟩
      rw [nI_clamp (by omega)]
      intro M10 e10
      have e15 : vi M10 m 15 = nI f := by rw [e10, vi_seti, if_neg (by omega)]; exact ef5
      rw [e15, il_0, le_I (by omega) (by omega)]
      have sameM : M10 = M5 := by
        rw [e10]
        show (mN M5, mS M5, mK M5, mA M5, up2 (vi M5) (m + 5) h (vi M5 (m + 5) h), vl M5, vr M5) = M5
        have : up2 (vi M5) (m + 5) h (vi M5 (m + 5) h) = vi M5 := by
          funext b j
          unfold up2
          by_cases y : b = m + 5 ∧ j = h
          · rw [if_pos y, y.1, y.2]
          · rw [if_neg y]
        rw [this]
        rfl
      refine ⟨fun y => absurd y (by omega), fun _ => ?_⟩
      rw [sameM]
      refine r_marks_177 (f5.ra Wx.1) (hq M5 ?_ (ox.trans (f5.ou (by decide))))
      rw [e5]; exact Wx.tape0 (Nat.zero_le _)
    · rw [il_0, eq_I (by omega) (by omega)] at z
      subst z
      obtain ⟨l, pl, en, n16, okl, sl⟩ := hy ef
      have p1 : (pAll T h).1 = 0 := by rw [pl]
      have p2 : (pAll T h).2 = l := by rw [pl]
      rw [cif_T p1, cif_T p1, p2, ← en] at hq
      refine r_marks_158 (f5.ra Wx.1) ⟨k5.1, by rw [k5.2]; exact vp_in_nI (by omega) (by omega), ?_⟩
      rw [nI_clamp (by omega)]
      intro M10 e10
      have e15 : vi M10 m 15 = nI 0 := by rw [e10, vi_seti, if_neg (by omega)]; exact ef5
      rw [e15]
      refine ⟨fun _ => ?_, fun y => absurd (show nI 0 ≤ (0 : Int32) by decide) y⟩
      have f10 : Frl m [13] [5] Mx M10 := (f5.sub (by decide) (by decide)).trans (by rw [e10]; exact Frl.si (by decide))
      refine r_marks_177 (f10.ra Wx.1) (hq M10 ?_ (ox.trans (f10.ou (by decide))))
      have V2 := addM_ok V hh (by omega) okl
      have r := Wx.rs.2.2
      have ex : ∀ o, o ≠ 5 → 0 < o → ∀ k, vi M10 (m + o) k = vi Mx (m + o) k := fun o h1 h2 k => f10.i (by simp; exact h1) h2 k
      refine Wx.upd (T' := v_marks T h l) f10 (fun o ho => by simp <;> omega) ⟨by decide, by decide⟩ rfl V2 ?_ (Nat.zero_le _) (fun k hk => absurd hk (Nat.not_lt_zero k)) ?_ (fun k hk => absurd hk (Nat.not_lt_zero k))
      · refine ⟨⟨?_, ?_, ?_⟩, fun k hk => ?_, fun k hk => ?_, fun k hk => ?_, fun k hk => ?_, fun k hk => ?_, fun s hs => ?_⟩
        · show vi M10 (m + 1) 0 = _
          rw [ex 1 (by decide) (by decide)]; exact r.g
        · show vi M10 (m + 1) 1 = _
          rw [ex 1 (by decide) (by decide)]; exact r.w
        · show vi M10 (m + 1) 2 = _
          rw [ex 1 (by decide) (by decide)]; exact r.h
        · show vi M10 (m + 2) k = _
          rw [ex 2 (by decide) (by decide)]; exact r.gb hk
        · show vi M10 (m + 3) k = _
          rw [ex 3 (by decide) (by decide)]; exact r.wb hk
        · show vi M10 (m + 4) k = _
          rw [ex 4 (by decide) (by decide)]; exact r.r hk
        · show vi M10 (m + 5) k = nI (if k = h then hC (sh T) h + l.length else hC (sh T) k)
          have hk2 : k < hN (sh T) := hk
          rw [e10, vi_seti]
          by_cases y : k = h
          · rw [if_pos ⟨rfl, y⟩, if_pos y, en]
          · rw [if_neg (fun u => y u.2), if_neg y, f5.i (by decide) (by decide)]; exact r.c hk2
        · show vi M10 (m + 6) k = _
          rw [ex 6 (by decide) (by decide)]; exact r.k hk
        · show vi M10 (m + 7) s = _ ∧ vi M10 (m + 8) s = _ ∧ vi M10 (m + 9) s = _ ∧ vi M10 (m + 10) s = _ ∧ vi M10 (m + 11) s = _ ∧ ∀ i, i < _ → vi M10 (m + 12) (20 * s + i) = _
          rw [ex 7 (by decide) (by decide), ex 8 (by decide) (by decide), ex 9 (by decide) (by decide), ex 10 (by decide) (by decide), ex 11 (by decide) (by decide)]
          have hs2 : isM (addM (sh T) h l) s := hs
          show vi Mx (m + 7) s = kK (kM (addM (sh T) h l) s) ∧ vi Mx (m + 8) s = kF (kM (addM (sh T) h l) s) ∧ vi Mx (m + 9) s = kS (kM (addM (sh T) h l) s) ∧ vi Mx (m + 10) s = kT (kM (addM (sh T) h l) s) ∧ vi Mx (m + 11) s = kL (kM (addM (sh T) h l) s) ∧ ∀ i, i < (kX (kM (addM (sh T) h l) s)).length → vi M10 (m + 12) (20 * s + i) = (kX (kM (addM (sh T) h l) s)).getD i 0
          rcases (addM_is V hh (by omega) s).mp hs2 with y | y
          · rw [addM_old y]
            exact ⟨r.m7 y, r.m8 y, r.m9 y, r.m10 y, r.m11 y, fun i hi => by rw [ex 12 (by decide) (by decide)]; exact r.m12 y hi⟩
          · have es : s = 16 * h + hC (sh T) h + (s % 16 - hC (sh T) h) := by omega
            have q := sl (s % 16 - hC (sh T) h) (by omega)
            rw [← es] at q
            have ek : kM (addM (sh T) h l) s = l.getD (s % 16 - hC (sh T) h) dMk := by
              rw [es, addM_new (by omega) (by omega)]
              congr 1; omega
            rw [ek]
            exact ⟨q.1, q.2.1, q.2.2.1, q.2.2.2.1, q.2.2.2.2.1, fun i hi => by rw [ex 12 (by decide) (by decide)]; exact q.2.2.2.2.2 i hi⟩
      · rw [e10, vi_seti, if_neg (by omega), e5, vi_seti, if_pos ⟨rfl, rfl⟩]; rfl
  -- the loop
  have key : ∀ (f p : Nat) (acc : List MkT) (Mx : Mem), f + acc.length = 17 → hC (sh T) h + acc.length ≤ 16 → p ≤ T.1.1 → pAll T h = pL T.1 (sh T) f (hC (sh T) h + acc.length) p acc → RX Mx m T → Ou m M Mx →
      (∀ i, i < acc.length → okM (gN (sh T)) (acc.getD i dMk) ∧ slM Mx m (16 * h + hC (sh T) h + i) (acc.getD i dMk)) → vi Mx m 14 = nI p → vi Mx m 15 = nI 0 →
      At G (d + 7) 196 29 [(0, .ref m), (1, .int (nI h)), (2, .int (nI (hC (sh T) h + acc.length))), (3, .int 1)] [] Mx (qI Q) := by
    intro f
    induction f with
    | zero => intro p acc Mx h1 h2; omega
    | succ f ih =>
      intro p acc Mx h1 h2 p4 pe Wx ox sl hp hf
      have sk := skB_le p4
      have ns : ¬ isM (sh T) (16 * h + (hC (sh T) h + acc.length)) ∨ hC (sh T) h + acc.length = 16 := by
        rcases Nat.lt_or_ge (hC (sh T) h + acc.length) 16 with u | u
        · left
          intro z
          have z2 := z.2
          rw [show (16 * h + (hC (sh T) h + acc.length)) / 16 = h by omega, show (16 * h + (hC (sh T) h + acc.length)) % 16 = hC (sh T) h + acc.length by omega] at z2
          omega
        · right; omega
      -- what the loop does at a FAULT
      have bad : ∀ (M6 : Mem) (e : Nat), ¬ e = 0 → e < 100000 → (pAll T h).1 = e → RX M6 m T → Ou m M M6 → vi M6 m 15 = nI e → At G (d + 7) 196 94 [(0, .ref m), (1, .int (nI h)), (2, .int (nI (hC (sh T) h + acc.length + 1)))] [] M6 (qI Q) := by
        intro M6 e e0' e4 epf W6 o6 h6
        have ne : ¬ vi M6 m 15 = 0 := by rw [h6]; exact nI_ne0 (by omega) (by omega)
        refine r_marks_94 W6.1 ⟨fun _ => r_marks_116 W6.1 (r_marks_117 W6.1 (fun M9 e9 => ?_)), fun c => absurd c ne⟩
        have f9 : Frl m [14] [] M6 M9 := by rw [e9]; exact Frl.sf (by decide)
        have h9 : vi M9 m 15 = nI e := by rw [f9.f (by decide) (by decide)]; exact h6
        refine e0 M9 _ (W6.fr f9 (fun o ho => by simp <;> omega) (by decide)) (o6.trans (f9.ou (by decide))) (by omega) (fun z => absurd z ?_) (fun f f0 f4' hfz => ?_) ⟨e, e4, h9⟩
        · rw [h9]; intro z; have := (eq_I (by omega) (by omega)).mp z; exact e0' this
        · rw [h9] at hfz
          have := (eq_I (by omega) (by omega)).mp hfz
          rw [epf, this]
      unfold pL at pe
      have lt := pC_lt (S := sh T) (n := hC (sh T) h + acc.length) t4 sk.2
      refine r_marks_29 Wx.1 ⟨fun c => absurd c (by decide), fun _ => s_markClause Wx (by omega) h2 (fun u => ns.elim id (fun y => absurd y (by omega))) hp p4 hf (fun z M6 f6 s6 h14 h15 => ?_) (fun z M6 f6 W6 h15 => ?_)⟩
      · have ok := pC_ok g4 sk.2 z
        have nsM := ns.elim id (fun y => absurd y ok.1)
        have W6 := Wx.slot f6 nsM (fun _ y => y)
        rw [cif_T z] at pe
        generalize pC T.1 (sh T) (hC (sh T) h + acc.length) (skB T.1 p) = r at *
        obtain ⟨r1, rm, rq⟩ := r
        dsimp only at ok s6 h14 pe
        have z6 : vi M6 m 15 = 0 := h15
        refine ⟨W6.1, fun c => absurd z6 c, fun _ => s_blanks W6 h14 (by omega) (fun M7 f7 h7 => ⟨f7.ra W6.1, ?_⟩)⟩
        have W7 := W6.fr f7 (fun o ho => by simp <;> omega) (by decide)
        have skq := skB_le ok.2.2
        have h715 : vi M7 m 15 = nI 0 := by rw [f7.f (by decide) (by decide)]; exact h15
        have z7 : vi M7 m 15 = 0 := h715
        have o7 : Ou m M M7 := (ox.trans f6.ou).trans (f7.ou (by decide))
        have sl7 : ∀ i, i < (acc ++ [rm]).length → okM (gN (sh T)) ((acc ++ [rm]).getD i dMk) ∧ slM M7 m (16 * h + hC (sh T) h + i) ((acc ++ [rm]).getD i dMk) := by
          intro i hi
          rw [List.length_append] at hi
          have hi2 : i < acc.length + 1 := hi
          rcases Nat.lt_or_ge i acc.length with u | u
          · have s := sl i u
            rw [gA_l u]
            exact ⟨s.1, (s.2.keep f6 (by omega) (kX_len s.1) (by decide)).fr f7 (fun o ho => by simp <;> omega)⟩
          · have e : i = acc.length := by omega
            rw [e, gA_r]
            exact ⟨ok.2.1, by rw [Nat.add_assoc]; exact s6.fr f7 (fun o ho => by simp <;> omega)⟩
        rw [nI_1]
        have e13 : vi M7 m 13 = nI T.1.1 := W7.t
        refine r_marks_53 W7.1 ⟨fun c => absurd z7 c, fun _ => ?_⟩
        rw [e13, h7, le_I (by omega) (by omega)]
        refine ⟨fun c => ?_, fun c => ⟨vp_in_nI (by omega) (by omega), ?_⟩⟩
        · rw [cif_F (by omega)] at pe
          refine r_marks_94 W7.1 ⟨fun c => absurd z7 c, fun _ => ?_⟩
          rw [e13, h7, le_I (by omega) (by omega)]
          refine ⟨fun _ => r_marks_116 W7.1 (r_marks_117 W7.1 (fun M9 e9 => ?_)), fun y => absurd c y⟩
          have f9 : Frl m [14] [] M7 M9 := by rw [e9]; exact Frl.sf (by decide)
          have h9 : vi M9 m 15 = nI 0 := by rw [f9.f (by decide) (by decide)]; exact h715
          refine e0 M9 _ (W7.fr f9 (fun o ho => by simp <;> omega) (by decide)) (o7.trans (f9.ou (by decide))) (by omega) (fun _ => ⟨acc ++ [rm], pe, by rw [List.length_append]; rfl, by have := ok.1; omega, fun i hi => (sl7 i hi).1, fun i hi => (sl7 i hi).2.fr f9 (fun o ho => by simp <;> omega)⟩) (fun f f0 f4' hfz => ?_) ⟨0, by omega, h9⟩
          rw [h9] at hfz
          exact absurd ((eq_I (by omega) (by omega)).mp hfz).symm f0
        · rw [nI_clamp (by omega), W7.tb (show skB T.1 rq < T.1.1 by omega)]
          rw [cif_T (by omega)] at pe
          rw [show (tB T (skB T.1 rq)).toInt8.toInt32 = 59 ↔ T.1.2 (skB T.1 rq) = 59 from sb_inj (W7.tk (show skB T.1 rq < T.1.1 by omega)) (by decide)]
          refine ⟨fun c59 => ?_, fun c59 => ?_⟩
          · rw [cif_T c59] at pe
            refine r_marks_94 W7.1 ⟨fun c => absurd z7 c, fun _ => ?_⟩
            rw [e13, h7, le_I (by omega) (by omega)]
            refine ⟨fun y => absurd y c, fun _ => r_marks_117 W7.1 (fun M9 e9 => ?_)⟩
            rw [h7, nI_1] at e9
            have f9 : Frl m [14] [] M7 M9 := by rw [e9]; exact Frl.sf (by decide)
            have h9 : vi M9 m 15 = nI 0 := by rw [f9.f (by decide) (by decide)]; exact h715
            have el : (acc ++ [rm]).length = acc.length + 1 := by rw [List.length_append]; rfl
            have := ih (skB T.1 rq + 1) (acc ++ [rm]) M9 (by omega) (by have := ok.1; omega) (by omega) (by rw [el]; exact pe) (W7.fr f9 (fun o ho => by simp <;> omega) (by decide)) (o7.trans (f9.ou (by decide))) (fun i hi => ⟨(sl7 i hi).1, (sl7 i hi).2.fr f9 (fun o ho => by simp <;> omega)⟩) (by rw [e9, vi_seti, if_pos ⟨rfl, rfl⟩]) h9
            rw [el] at this
            exact this
          · rw [cif_F c59] at pe
            refine s_fails (c := 0) W7.1 h715 (by omega) (by omega) (by omega) (fun M8 f8 h8 => ⟨f8.ra W7.1, ?_⟩)
            rw [if_pos rfl] at h8
            exact bad M8 _ (by unfold flt; omega) (flt_lt (by omega) (by omega)) (by rw [pe]) (W7.fr f8 (fun o ho => by simp <;> omega) (by decide)) (o7.trans (f8.ou (by decide))) h8
      · rw [cif_F z] at pe
        have ne : ¬ vi M6 m 15 = 0 := by rw [h15]; exact nI_ne0 (by omega) (by omega)
        refine ⟨W6.1, fun _ => ?_, fun c => absurd c ne⟩
        rw [nI_1]
        exact r_marks_53 W6.1 ⟨fun _ => bad M6 _ z lt (by rw [pe]) W6 (ox.trans f6.ou) h15, fun c => absurd c ne⟩
  have := key 17 0 [] M4 rfl c16 (Nat.zero_le _) rfl W4 (f4.ou (by decide)) (fun i hi => absurd hi (Nat.not_lt_zero i)) ?_ ?_
  · exact this
  · rw [e4, vi_seti, if_neg (by omega), e3, vi_seti, if_pos ⟨rfl, rfl⟩]; rfl
  · rw [e4, vi_seti, if_pos ⟨rfl, rfl⟩]; rfl
end
