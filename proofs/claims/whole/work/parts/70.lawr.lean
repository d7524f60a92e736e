/-! READING LAWS: what is read; the reference -/
abbrev LxT : Type := Nat × List Nat × Nat
def lWs : List (List Int32) := [strB.getD 16 [], strB.getD 17 [], strB.getD 18 [], strB.getD 19 [], strB.getD 20 [], strB.getD 21 [], strB.getD 22 []]
theorem lWs_s : ∀ k, k < 7 → lWs.getD k [] = strB.getD (16 + k) [] := by decide +kernel
noncomputable def lIx (t : TpT) (p : Nat) : Nat := fst (fun k => wAt t p = lWs.getD k []) 7
/-- a VALUE at p -/
noncomputable def pVal (t : TpT) (p : Nat) (cd : List Nat) (n : Nat) : Nat × LxT :=
  cif (0 < dl t p) (cif (5 < dl t p) (flt p 1, p, cd, n) (cif (n = 60) (flt p 3, p, cd, n) (0, p + dl t p, cd ++ [vlF t p (dl t p)], n + 1)))
  (cif (lIx t p = 7) (flt p 0, p, cd, n) (cif (n = 60) (flt p 3, p, cd, n) (0, p + wl t p, cd ++ [100000 + lIx t p], n + 1)))
/-- * and / behind p -/
noncomputable def pTmL (t : TpT) : Nat → Nat → List Nat → Nat → Nat × LxT
  | 0, p, cd, n => (0, p, cd, n)
  | f + 1, p, cd, n => cif (pk t (skB t p) = 42 ∨ pk t (skB t p) = 47) (cif ((pVal t (skB t (skB t p + 1)) cd n).1 = 0)
      (pTmL t f (pVal t (skB t (skB t p + 1)) cd n).2.1 ((pVal t (skB t (skB t p + 1)) cd n).2.2.1 ++ [cif (pk t (skB t p) = 42) 200002 200003]) (pVal t (skB t (skB t p + 1)) cd n).2.2.2)
      (pVal t (skB t (skB t p + 1)) cd n)) (0, skB t p, cd, n)
noncomputable def pTm (t : TpT) (p : Nat) (cd : List Nat) (n : Nat) : Nat × LxT :=
  cif ((pVal t p cd n).1 = 0) (pTmL t 401 (pVal t p cd n).2.1 (pVal t p cd n).2.2.1 (pVal t p cd n).2.2.2) (pVal t p cd n)
noncomputable def pSmL (t : TpT) : Nat → Nat → List Nat → Nat → Nat × LxT
  | 0, p, cd, n => (0, p, cd, n)
  | f + 1, p, cd, n => cif (pk t p = 43 ∨ pk t p = 45) (cif ((pTm t (skB t (p + 1)) cd n).1 = 0)
      (pSmL t f (pTm t (skB t (p + 1)) cd n).2.1 ((pTm t (skB t (p + 1)) cd n).2.2.1 ++ [cif (pk t p = 43) 200000 200001]) (pTm t (skB t (p + 1)) cd n).2.2.2)
      (pTm t (skB t (p + 1)) cd n)) (0, p, cd, n)
noncomputable def pSm (t : TpT) (p : Nat) (cd : List Nat) (n : Nat) : Nat × LxT :=
  cif ((pTm t p cd n).1 = 0) (pSmL t 401 (pTm t p cd n).2.1 (pTm t p cd n).2.2.1 (pTm t p cd n).2.2.2) (pTm t p cd n)
/-- what a reader does: behind a FAULT nothing is said of the rest -/
def lStp (F : Nat × LxT) (f f' p' : Nat) (cd' : List Nat) (n' : Nat) : Prop := (¬ f = 0 → f' = f) ∧ (f = 0 → f' = F.1 ∧ (f' = 0 → F.2 = (p', cd', n')))
/-- room: codes against what is counted and read -/
def rom (t : TpT) (p : Nat) (cd : List Nat) (n k : Nat) (F : Nat × LxT) : Prop :=
  F.1 < 100000 ∧ (F.1 = 0 → p ≤ F.2.1 ∧ F.2.1 ≤ t.1 ∧ F.2.2.2 ≤ 60 ∧ 6 * n + p + 3 * F.2.2.1.length + k ≤ 6 * F.2.2.2 + F.2.1 + 3 * cd.length)
theorem pVal_rom {t : TpT} {p n : Nat} {cd : List Nat} (t4 : t.1 ≤ 400) (p4 : p ≤ t.1) (n6 : n ≤ 60) : rom t p cd n 3 (pVal t p cd n) := by
  have h1 := dl_le p4
  have h2 := wl_le p4
  have fl : ∀ c, c < 8 → rom t p cd n 3 (flt p c, p, cd, n) := fun c hc => ⟨flt_lt (by omega) hc, fun z => absurd z (by show ¬ flt p c = 0; unfold flt; omega)⟩
  unfold pVal
  refine cif_el (φ := rom t p cd n 3) (fun _ => ?_) (fun _ => ?_)
  · refine cif_el (φ := rom t p cd n 3) (fun _ => fl 1 (by omega)) (fun _ => cif_el (φ := rom t p cd n 3) (fun _ => fl 3 (by omega)) (fun z => ⟨by show 0 < _; omega, fun _ => ?_⟩))
    show p ≤ p + dl t p ∧ p + dl t p ≤ t.1 ∧ n + 1 ≤ 60 ∧ 6 * n + p + 3 * (cd ++ [vlF t p (dl t p)]).length + 3 ≤ 6 * (n + 1) + (p + dl t p) + 3 * cd.length
    rw [List.length_append, List.length_singleton]
    omega
  · refine cif_el (φ := rom t p cd n 3) (fun _ => fl 0 (by omega)) (fun _ => cif_el (φ := rom t p cd n 3) (fun _ => fl 3 (by omega)) (fun z => ⟨by show 0 < _; omega, fun _ => ?_⟩))
    show p ≤ p + wl t p ∧ p + wl t p ≤ t.1 ∧ n + 1 ≤ 60 ∧ 6 * n + p + 3 * (cd ++ [100000 + lIx t p]).length + 3 ≤ 6 * (n + 1) + (p + wl t p) + 3 * cd.length
    rw [List.length_append, List.length_singleton]
    omega
theorem pk_at {t : TpT} {p : Nat} {c : Int32} (h : pk t p = c) (hc : c ≠ -1) : p < t.1 ∧ t.2 p = c := by
  unfold pk at h
  by_cases z : p < t.1
  · rw [cif_T z] at h; exact ⟨z, h⟩
  · rw [cif_F z] at h; exact absurd h.symm hc
theorem pTmL_rom {t : TpT} (t4 : t.1 ≤ 400) : ∀ (f p : Nat) (cd : List Nat) (n : Nat), p ≤ t.1 → n ≤ 60 → rom t p cd n 0 (pTmL t f p cd n)
  | 0, p, cd, n, p4, n6 => ⟨by show 0 < _; omega, fun _ => ⟨Nat.le_refl _, p4, n6, by show 6 * n + p + 3 * cd.length + 0 ≤ 6 * n + p + 3 * cd.length; omega⟩⟩
  | f + 1, p, cd, n, p4, n6 => by
    have sk := skB_le p4
    unfold pTmL
    refine cif_el (φ := rom t p cd n 0) (fun c => ?_) (fun _ => ⟨by show 0 < _; omega, fun _ => ⟨sk.1, sk.2, n6, by show 6 * n + p + 3 * cd.length + 0 ≤ 6 * n + skB t p + 3 * cd.length; omega⟩⟩)
    have q := (pk_at (c := pk t (skB t p)) rfl (by rcases c with c | c <;> rw [c] <;> decide)).1
    have sk2 := skB_le (t := t) (p := skB t p + 1) (by omega)
    have v := pVal_rom (cd := cd) t4 sk2.2 n6
    refine cif_el (φ := rom t p cd n 0) (fun z => ?_) (fun z => ⟨v.1, fun y => absurd y z⟩)
    have v2 := v.2 z
    have r := pTmL_rom t4 f (pVal t (skB t (skB t p + 1)) cd n).2.1 ((pVal t (skB t (skB t p + 1)) cd n).2.2.1 ++ [cif (pk t (skB t p) = 42) 200002 200003]) (pVal t (skB t (skB t p + 1)) cd n).2.2.2 v2.2.1 v2.2.2.1
    refine ⟨r.1, fun y => ?_⟩
    have r2 := r.2 y
    rw [List.length_append, List.length_singleton] at r2
    omega
theorem pTm_rom {t : TpT} {p n : Nat} {cd : List Nat} (t4 : t.1 ≤ 400) (p4 : p ≤ t.1) (n6 : n ≤ 60) : rom t p cd n 3 (pTm t p cd n) := by
  have v := pVal_rom (cd := cd) t4 p4 n6
  unfold pTm
  refine cif_el (φ := rom t p cd n 3) (fun z => ?_) (fun z => v)
  have v2 := v.2 z
  have r := pTmL_rom t4 401 (pVal t p cd n).2.1 (pVal t p cd n).2.2.1 (pVal t p cd n).2.2.2 v2.2.1 v2.2.2.1
  exact ⟨r.1, fun y => by have r2 := r.2 y; omega⟩
theorem pSmL_rom {t : TpT} (t4 : t.1 ≤ 400) : ∀ (f p : Nat) (cd : List Nat) (n : Nat), p ≤ t.1 → n ≤ 60 → rom t p cd n 0 (pSmL t f p cd n)
  | 0, p, cd, n, p4, n6 => ⟨by show 0 < _; omega, fun _ => ⟨Nat.le_refl _, p4, n6, by show 6 * n + p + 3 * cd.length + 0 ≤ 6 * n + p + 3 * cd.length; omega⟩⟩
  | f + 1, p, cd, n, p4, n6 => by
    unfold pSmL
    refine cif_el (φ := rom t p cd n 0) (fun c => ?_) (fun _ => ⟨by show 0 < _; omega, fun _ => ⟨Nat.le_refl _, p4, n6, by show 6 * n + p + 3 * cd.length + 0 ≤ 6 * n + p + 3 * cd.length; omega⟩⟩)
    have q := (pk_at (c := pk t p) rfl (by rcases c with c | c <;> rw [c] <;> decide)).1
    have sk2 := skB_le (t := t) (p := p + 1) (by omega)
    have v := pTm_rom (cd := cd) t4 sk2.2 n6
    refine cif_el (φ := rom t p cd n 0) (fun z => ?_) (fun z => ⟨v.1, fun y => absurd y z⟩)
    have v2 := v.2 z
    have r := pSmL_rom t4 f (pTm t (skB t (p + 1)) cd n).2.1 ((pTm t (skB t (p + 1)) cd n).2.2.1 ++ [cif (pk t p = 43) 200000 200001]) (pTm t (skB t (p + 1)) cd n).2.2.2 v2.2.1 v2.2.2.1
    refine ⟨r.1, fun y => ?_⟩
    have r2 := r.2 y
    rw [List.length_append, List.length_singleton] at r2
    omega
theorem pSm_rom {t : TpT} {p n : Nat} {cd : List Nat} (t4 : t.1 ≤ 400) (p4 : p ≤ t.1) (n6 : n ≤ 60) : rom t p cd n 3 (pSm t p cd n) := by
  have v := pTm_rom (cd := cd) t4 p4 n6
  unfold pSm
  refine cif_el (φ := rom t p cd n 3) (fun z => ?_) (fun z => v)
  have v2 := v.2 z
  have r := pSmL_rom t4 401 (pTm t p cd n).2.1 (pTm t p cd n).2.2.1 (pTm t p cd n).2.2.2 v2.2.1 v2.2.2.1
  exact ⟨r.1, fun y => by have r2 := r.2 y; omega⟩
/-! the reference's cells while it reads a LAW into the slot s -/
def FrT (m s : Nat) (M M' : Mem) : Prop := Frl m [14, 15, 18, 19, 20, 21] [14, 15, 20] M M' ∧ ∀ j, j < 300 * s → vi M' (m + 14) j = vi M (m + 14) j ∧ vi M' (m + 15) j = vi M (m + 15) j
/-- the same, its stack untouched -/
def FrW (m s : Nat) (M M' : Mem) : Prop := Frl m [14, 15, 18, 20] [14, 15] M M' ∧ ∀ j, j < 300 * s → vi M' (m + 14) j = vi M (m + 14) j ∧ vi M' (m + 15) j = vi M (m + 15) j
section
variable {M M' M'' : Mem} {m s p n f : Nat} {T : StT} {cd : List Nat}
theorem FrW.refl : FrW m s M M := ⟨Frl.refl, fun _ _ => ⟨rfl, rfl⟩⟩
theorem FrW.trans (h : FrW m s M M') (h2 : FrW m s M' M'') : FrW m s M M'' := ⟨h.1.trans h2.1, fun j hj => ⟨(h2.2 j hj).1.trans (h.2 j hj).1, (h2.2 j hj).2.trans (h.2 j hj).2⟩⟩
theorem FrW.ofF {F : List Nat} (g : Frl m F [] M M') (hF : ∀ o ∈ F, o ∈ [14, 15, 18, 20]) : FrW m s M M' := ⟨g.sub hF (fun o ho => by cases ho), fun j _ => ⟨g.i (by decide) (by decide) j, g.i (by decide) (by decide) j⟩⟩
theorem FrT.refl : FrT m s M M := ⟨Frl.refl, fun _ _ => ⟨rfl, rfl⟩⟩
theorem FrT.trans (h : FrT m s M M') (h2 : FrT m s M' M'') : FrT m s M M'' := ⟨h.1.trans h2.1, fun j hj => ⟨(h2.2 j hj).1.trans (h.2 j hj).1, (h2.2 j hj).2.trans (h.2 j hj).2⟩⟩
theorem FrT.ofF {F : List Nat} (g : Frl m F [] M M') (hF : ∀ o ∈ F, o ∈ [14, 15, 18, 19, 20, 21]) : FrT m s M M' := ⟨g.sub hF (fun o ho => by cases ho), fun j _ => ⟨g.i (by decide) (by decide) j, g.i (by decide) (by decide) j⟩⟩
theorem FrW.t (h : FrW m s M M') : FrT m s M M' := ⟨h.1.sub (by decide) (by decide), h.2⟩
theorem RX.lawF (h : RX M m T) (f : FrT m s M M') (hs : qN T ≤ s) : RX M' m T := by
  have e : ∀ o, o ≠ 14 → o ≠ 15 → o ≠ 20 → 0 < o → ∀ k, vi M' (m + o) k = vi M (m + o) k := fun o h1 h2 h3 h4 k => f.1.i (by simp; omega) h4 k
  refine ⟨f.1.ra h.1, h.2.1, h.2.2.1.fr h.2.1.2.2.1 f.1 (fun o ho => by simp; omega), ⟨?_, fun k hk => ?_⟩, ?_, ⟨?_, fun l hl => ?_⟩, fun i hi => ?_⟩
  · rw [f.1.f (by decide) (by decide)]; exact h.t
  · rw [e 13 (by omega) (by omega) (by omega) (by omega)]; exact h.tb hk
  · rw [f.1.f (by decide) (by decide)]; exact h.2.2.2.2.1
  · rw [f.1.f (by decide) (by decide)]; exact h.q
  · have z := h.2.2.2.2.2.1.2 l hl
    have l3 := (h.2.1.2.2.2.2.1 l hl).1
    refine ⟨fun k hk => ?_, ?_, fun i hi => ?_⟩
    · have y := f.2 (300 * l + k) (by omega)
      rw [y.1, y.2]; exact z.1 k hk
    · rw [e 16 (by omega) (by omega) (by omega) (by omega)]; exact z.2.1
    · rw [e 17 (by omega) (by omega) (by omega) (by omega), e 18 (by omega) (by omega) (by omega) (by omega), e 19 (by omega) (by omega) (by omega) (by omega)]; exact z.2.2 i hi
  · refine ⟨fun z => ?_, fun S hS => ?_⟩
    · rw [e 45 (by omega) (by omega) (by omega) (by omega)]; exact (h.2.2.2.2.2.2 i hi).1 z
    · rw [e 45 (by omega) (by omega) (by omega) (by omega)]
      have z := (h.2.2.2.2.2.2 i hi).2 S hS
      refine ⟨z.1, ?_⟩
      have eq : (fun o k => vi M' (m + 44) (2100 * i + rOff o + k)) = (fun o k => vi M (m + 44) (2100 * i + rOff o + k)) := by
        funext o k
        exact e 44 (by omega) (by omega) (by omega) (by omega) _
      unfold rImg
      rw [eq]
      exact z.2
def LwA (M : Mem) (m : Nat) (T : StT) (s p : Nat) (cd : List Nat) (n f : Nat) : Prop :=
  RX M m T ∧ qN T ≤ s ∧ s < 4 ∧ vi M m 14 = nI p ∧ vi M m 15 = nI f ∧ vi M m 16 = nI s ∧ vi M m 18 = nI cd.length ∧ vi M m 20 = nI n ∧ p ≤ T.1.1 ∧ f < 100000 ∧ (f = 0 → n ≤ 60 ∧ 3 * cd.length ≤ 6 * n + p) ∧
  ∀ k, k < cd.length → vi M (m + 14) (300 * s + k) = nI (rSort (cd.getD k 0)) ∧ vi M (m + 15) (300 * s + k) = nI (rNum (cd.getD k 0))
/-- the fields 14, 15, 20 are others -/
theorem LwA.up {p' n' f' : Nat} {F : List Nat} (h : LwA M m T s p cd n f) (g : Frl m F [] M M') (hF : ∀ o ∈ F, o ∈ [14, 15, 19, 20, 21]) (e1 : vi M' m 14 = nI p') (e2 : vi M' m 15 = nI f') (e3 : vi M' m 20 = nI n') (p4 : p' ≤ T.1.1) (f4 : f' < 100000) (hb : f' = 0 → n' ≤ 60 ∧ 3 * cd.length ≤ 6 * n' + p') : LwA M' m T s p' cd n' f' :=
  ⟨h.1.lawF (FrT.ofF g (fun o ho => by have := hF o ho; simp at this ⊢; omega)) h.2.1, h.2.1, h.2.2.1, e1, e2, by rw [g.f (fun z => by have := hF _ z; simp at this) (by decide)]; exact h.2.2.2.2.2.1, by rw [g.f (fun z => by have := hF _ z; simp at this) (by decide)]; exact h.2.2.2.2.2.2.1, e3, p4, f4, hb,
    fun k hk => by rw [g.i (by decide) (by decide), g.i (by decide) (by decide)]; exact h.2.2.2.2.2.2.2.2.2.2.2 k hk⟩
theorem LwA.x (h : LwA M m T s p cd n f) : RX M m T := h.1
theorem LwA.pp (h : LwA M m T s p cd n f) : vi M m 14 = nI p := h.2.2.2.1
theorem LwA.ff (h : LwA M m T s p cd n f) : vi M m 15 = nI f := h.2.2.2.2.1
theorem LwA.cc (h : LwA M m T s p cd n f) : vi M m 20 = nI n := h.2.2.2.2.2.2.2.1
theorem LwA.p4 (h : LwA M m T s p cd n f) : p ≤ T.1.1 := h.2.2.2.2.2.2.2.2.1
theorem LwA.f4 (h : LwA M m T s p cd n f) : f < 100000 := h.2.2.2.2.2.2.2.2.2.1
theorem LwA.b (h : LwA M m T s p cd n f) (z : f = 0) : n ≤ 60 ∧ 3 * cd.length ≤ 6 * n + p := h.2.2.2.2.2.2.2.2.2.2.1 z
theorem LwA.mv {q : Nat} (h : LwA M m T s p cd n f) (g : Frl m [14] [] M M') (e : vi M' m 14 = nI q) (hq : q ≤ T.1.1) (le : p ≤ q) : LwA M' m T s q cd n f :=
  h.up g (by decide) e (by rw [g.f (by decide) (by decide)]; exact h.ff) (by rw [g.f (by decide) (by decide)]; exact h.cc) hq h.f4 (fun z => by have := h.b z; omega)
theorem LwA.ft {f' : Nat} (h : LwA M m T s p cd n f) (g : Frl m [15] [] M M') (e : vi M' m 15 = nI f') (f0 : ¬ f' = 0) (f4 : f' < 100000) : LwA M' m T s p cd n f' :=
  h.up g (by decide) (by rw [g.f (by decide) (by decide)]; exact h.pp) e (by rw [g.f (by decide) (by decide)]; exact h.cc) h.p4 f4 (fun z => absurd z f0)
end
