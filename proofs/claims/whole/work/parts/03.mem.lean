/-! THE MEMORY: all cells made since the law began (addresses b0 and on), typed.
kinds: 0 none, c + 1 an object of class c (vwCl), 14 byte[], 15 int[], 16 long[], 17 boolean[], 18 Law[], 19 Mark[], 20 Sheet[], 21 Verdict[] -/
abbrev Mem : Type := Nat × Nat × (Nat → Nat) × (Nat → Nat) × (Nat → Nat → Int32) × (Nat → Nat → Int64) × (Nat → Nat → Option Nat)
/-- the heap's size; the slots made; kind and length of a cell; its ints, longs, references -/
def mN (M : Mem) : Nat := M.1
def mS (M : Mem) : Nat := M.2.1
def mK (M : Mem) : Nat → Nat := M.2.2.1
def mA (M : Mem) : Nat → Nat := M.2.2.2.1
def vi (M : Mem) : Nat → Nat → Int32 := M.2.2.2.2.1
def vl (M : Mem) : Nat → Nat → Int64 := M.2.2.2.2.2.1
def vr (M : Mem) : Nat → Nat → Option Nat := M.2.2.2.2.2.2
def up2 {α : Type} (f : Nat → Nat → α) (a k : Nat) (x : α) : Nat → Nat → α := fun b j => if b = a ∧ j = k then x else f b j
def up1 {α : Type} (f : Nat → α) (a : Nat) (x : α) : Nat → α := fun b => if b = a then x else f b
def seti (M : Mem) (a k : Nat) (x : Int32) : Mem := (mN M, mS M, mK M, mA M, up2 (vi M) a k x, vl M, vr M)
def setl (M : Mem) (a k : Nat) (x : Int64) : Mem := (mN M, mS M, mK M, mA M, vi M, up2 (vl M) a k x, vr M)
def setr (M : Mem) (a k : Nat) (x : Option Nat) : Mem := (mN M, mS M, mK M, mA M, vi M, vl M, up2 (vr M) a k x)
/-- a new cell of kind K, of length n (an object's: how many fields), all zero -/
def mnew (M : Mem) (K n : Nat) : Mem := (mN M + 1, mS M + n, up1 (mK M) (mN M) K, up1 (mA M) (mN M) n, up1 (vi M) (mN M) (fun _ => 0), up1 (vl M) (mN M) (fun _ => 0), up1 (vr M) (mN M) (fun _ => none))
/-- a row of an array copied -/
def cpi (M : Mem) (a sp b dp n : Nat) : Mem := (mN M, mS M, mK M, mA M, up1 (vi M) b (va_cpy (vi M a) (vi M b) sp dp n), vl M, vr M)
def cpl (M : Mem) (a sp b dp n : Nat) : Mem := (mN M, mS M, mK M, mA M, vi M, up1 (vl M) b (va_cpy (vl M a) (vl M b) sp dp n), vr M)
def cpr (M : Mem) (a sp b dp n : Nat) : Mem := (mN M, mS M, mK M, mA M, vi M, vl M, up1 (vr M) b (va_cpy (vr M a) (vr M b) sp dp n))
/-- the fields' types: class c, field k -/
def tyT (c : Nat) : Nat → FieldType := match c with
  | 0 => tyX0 | 1 => tyX1 | 2 => tyX2 | 3 => tyX3 | 4 => tyX4 | 5 => tyX5 | 6 => tyX6 | 7 => tyX7 | 8 => tyX8 | 9 => tyX9 | 10 => tyX10 | 11 => tyX11 | _ => tyX12
def nF (c : Nat) : Nat := match c with
  | 0 => 11 | 1 => 6 | 2 => 7 | 3 => 3 | 4 => 6 | 5 => 8 | 6 => 4 | 7 => 9 | 8 => 11 | 9 => 4 | 10 => 8 | 11 => 16 | _ => 68
def fval (t : FieldType) (M : Mem) (a k : Nat) : Value := match t with
  | .int => .int (vi M a k) | .boolean => .int (vi M a k) | .long => .long (vl M a k) | _ => va_rf (vr M a k)
def fvs (c : Nat) (M : Mem) (a : Nat) : List Value := (List.range (nF c)).map (fun k => fval (tyT c k) M a k)
/-- what everything is read at: launch, class numbers and slots, array classes, the first address, String constants' cells and rows, the script's cell, length, values -/
abbrev GT : Type := Launch × va_G × (Nat → ClassId) × Nat × (Nat → Nat) × (Nat → Nat) × Nat × Nat × (Nat → Int32)
def gl (G : GT) : Launch := G.1
def gD (G : GT) : va_G := G.2.1
def gy (G : GT) : Nat → ClassId := G.2.2.1
def g0 (G : GT) : Nat := G.2.2.2.1
def gk (G : GT) : Nat → Nat := G.2.2.2.2.1
def gv (G : GT) : Nat → Nat := G.2.2.2.2.2.1
def gb (G : GT) : Nat := G.2.2.2.2.2.2.1
def gL (G : GT) : Nat := G.2.2.2.2.2.2.2.1
def gx (G : GT) : Nat → Int32 := G.2.2.2.2.2.2.2.2
def cellOf (G : GT) (M : Mem) (a : Nat) : va_E :=
  if mK M a ≤ 13 then .inr (mK M a - 1, fvs (mK M a - 1) M a)
  else if mK M a = 16 then .inl (gy G 16, mA M a, .inr (.inl (vl M a)))
  else if mK M a ≤ 17 then .inl (gy G (mK M a), mA M a, .inl (vi M a))
  else .inl (gy G (mK M a), mA M a, .inr (.inr (.inr (.inr (vr M a)))))
def tysG (G : GT) : List (ClassId × FieldType) := [(gy G 14, .byte), (gy G 15, .int), (gy G 16, .long), (gy G 17, .boolean), (gy G 18, .object RX2), (gy G 19, .object RX5), (gy G 20, .object RX8), (gy G 21, .object RX10)]
def pool (G : GT) (M : Mem) : va_W := va_pl (List.range' (g0 G) (mN M - g0 G)) (cellOf G M)
def wfM (G : GT) (M : Mem) : Prop := g0 G ≤ mN M ∧ ∀ a, (mK M a ≠ 0 ↔ g0 G ≤ a ∧ a < mN M)
def gA (G : GT) : Nat → Prop := fun q => g0 G ≤ q
def Pool (G : GT) (M : Mem) (H : Heap) : Prop := va_P (gD G) vwCl (pool G M) H ∧ va_D (gA G) (pool G M) ∧ H.size = mN M ∧ wfM G M
section
variable {G : GT} {M : Mem}
theorem mem_pool {a : Nat} (hw : wfM G M) (h : mK M a ≠ 0) : a ∈ List.range' (g0 G) (mN M - g0 G) := by
  have h1 := (hw.2 a).mp h
  rw [List.mem_range'_1]
  omega
theorem pool_get {a : Nat} (hw : wfM G M) (h : mK M a ≠ 0) : ∃ k : Nat, (pool G M)[k]? = some (a, cellOf G M a) := va_pl_get (X := []) (mem_pool hw h)
theorem cellOf_obj {a c : Nat} (hc : c < 13) (h : mK M a = c + 1) : cellOf G M a = .inr (c, fvs c M a) := by
  unfold cellOf
  rw [h, if_pos (by omega)]
  rfl
theorem cellOf_int {a : Nat} (h : mK M a = 14 ∨ mK M a = 15 ∨ mK M a = 17) : cellOf G M a = .inl (gy G (mK M a), mA M a, .inl (vi M a)) := by
  unfold cellOf
  rw [if_neg (by omega), if_neg (by omega), if_pos (by omega)]
theorem cellOf_long {a : Nat} (h : mK M a = 16) : cellOf G M a = .inl (gy G 16, mA M a, .inr (.inl (vl M a))) := by
  unfold cellOf
  rw [if_neg (by omega), if_pos (by omega)]
theorem cellOf_ref {a : Nat} (h : 18 ≤ mK M a) : cellOf G M a = .inl (gy G (mK M a), mA M a, .inr (.inr (.inr (.inr (vr M a))))) := by
  unfold cellOf
  rw [if_neg (by omega), if_neg (by omega), if_neg (by omega)]
theorem obj_get {a c : Nat} (hw : wfM G M) (hc : c < 13) (h : mK M a = c + 1) : ∃ k : Nat, (pool G M)[k]? = some (a, .inr (c, fvs c M a)) := by
  obtain ⟨k, hk⟩ := pool_get (G := G) hw (a := a) (by omega)
  exact ⟨k, by rw [hk, cellOf_obj hc h]⟩
theorem fvs_len (c : Nat) (a : Nat) : (fvs c M a).length = nF c := by simp [fvs]
theorem fvs_at {c a k : Nat} (h : k < nF c) : (fvs c M a)[k]? = some (fval (tyT c k) M a k) := by simp [fvs, h]
/-- a cell is written: the pool of the new memory -/
theorem pool_put {M' : Mem} {A : Nat → Prop} {a k : Nat} {e : va_E} (hw : wfM G M) (ha : mK M a ≠ 0) (hD : va_D A (pool G M)) (hk : (pool G M)[k]? = some (a, cellOf G M a)) (hn : mN M' = mN M) (hc : ∀ b, va_up (cellOf G M) a e b = cellOf G M' b) : (pool G M).set k (a, e) = pool G M' := by
  have h1 := va_pl_set (X := []) (e := e) hD (mem_pool hw ha) hk
  have h2 : pool G M' = va_pl (List.range' (g0 G) (mN M - g0 G)) (cellOf G M') := by unfold pool; rw [hn]
  rw [h2, ← va_pl_congr hc]
  exact h1
theorem up2_same {α : Type} (f : Nat → Nat → α) (a k : Nat) (x : α) : up2 f a k x a k = x := by simp [up2]
theorem up2_ne {α : Type} {f : Nat → Nat → α} {a k b j : Nat} {x : α} (h : ¬ (b = a ∧ j = k)) : up2 f a k x b j = f b j := by simp only [up2, if_neg h]
theorem up2_nea {α : Type} {f : Nat → Nat → α} {a k b : Nat} {x : α} (h : b ≠ a) : up2 f a k x b = f b := by funext j; simp [up2, h]
theorem up1_same {α : Type} (f : Nat → α) (a : Nat) (x : α) : up1 f a x a = x := by simp [up1]
theorem up1_ne {α : Type} {f : Nat → α} {a b : Nat} {x : α} (h : b ≠ a) : up1 f a x b = f b := by simp [up1, h]
theorem fvs_congr {c a : Nat} {M' : Mem} (h1 : vi M' a = vi M a) (h2 : vl M' a = vl M a) (h3 : vr M' a = vr M a) : fvs c M' a = fvs c M a := by
  unfold fvs
  apply List.map_congr_left
  intro k _
  unfold fval
  rw [h1, h2, h3]
theorem cellOf_congr {a : Nat} {M' : Mem} (h0 : mK M' a = mK M a) (h4 : mA M' a = mA M a) (h1 : vi M' a = vi M a) (h2 : vl M' a = vl M a) (h3 : vr M' a = vr M a) : cellOf G M' a = cellOf G M a := by
  unfold cellOf
  rw [h0, h4, h1, h2, h3, fvs_congr h1 h2 h3]
theorem fvs_set {c a k : Nat} {M' : Mem} {v : Value} (hk : k < nF c) (hv : fval (tyT c k) M' a k = v) (ho : ∀ j, j ≠ k → fval (tyT c j) M' a j = fval (tyT c j) M a j) : (fvs c M a).set k v = fvs c M' a := by
  apply List.ext_getElem?
  intro j
  by_cases hj : j = k
  · subst hj
    rw [List.getElem?_set_self (by rw [fvs_len]; exact hk), fvs_at hk, hv]
  · rw [List.getElem?_set_ne (Ne.symm hj)]
    by_cases hl : j < nF c
    · rw [fvs_at hl, fvs_at hl, ho j hj]
    · rw [List.getElem?_eq_none (by rw [fvs_len]; omega), List.getElem?_eq_none (by rw [fvs_len]; omega)]
end
section
variable {G : GT} {M : Mem} {H H1 : Heap}
/-- a cell of the pool is written -/
theorem Pool.put {M' : Mem} {a k : Nat} {e : va_E} (hp : Pool G M H) (ha : mK M a ≠ 0) (hk : (pool G M)[k]? = some (a, cellOf G M a)) (hn : mN M' = mN M) (hK : mK M' = mK M) (hc : ∀ b, va_up (cellOf G M) a e b = cellOf G M' b) (hP : va_P (gD G) vwCl ((pool G M).set k (a, e)) H1) (hD : va_D (gA G) ((pool G M).set k (a, e))) (hz : H1.size = H.size) : Pool G M' H1 := by
  have e1 := pool_put hp.2.2.2 ha hp.2.1 hk hn hc
  rw [e1] at hP hD
  refine ⟨hP, hD, by rw [hz, hn]; exact hp.2.2.1, ?_⟩
  unfold wfM
  rw [hn, hK]
  exact hp.2.2.2
theorem Pool.push {M' : Mem} {e : va_E} (hp : Pool G M H) (hn : mN M' = mN M + 1) (hK : ∀ b, mK M' b = if b = mN M then mK M' (mN M) else mK M b) (hnz : mK M' (mN M) ≠ 0) (hc : ∀ b, b ≠ mN M → cellOf G M' b = cellOf G M b) (he : cellOf G M' (mN M) = e) (hat : va_at (gD G) vwCl (mN M, e) H1) (ho : ∀ q, q < H.size → H1[q]? = H[q]?) (hz : H1.size = H.size + 1) : Pool G M' H1 := by
  obtain ⟨hP, hD, hs, hw⟩ := hp
  have hmem : ∀ b, mK M b ≠ 0 → b < H.size := fun b hb => by rw [hs]; exact ((hw.2 b).mp hb).2
  have e1 : pool G M' = pool G M ++ [(mN M, e)] := by
    unfold pool
    have r1 : mN M' - g0 G = (mN M - g0 G) + 1 := by rw [hn]; have := hw.1; omega
    rw [r1, List.range'_concat]
    unfold va_pl
    rw [List.map_append]
    have r2 : g0 G + 1 * (mN M - g0 G) = mN M := by have := hw.1; omega
    rw [r2]
    congr 1
    · apply List.map_congr_left
      intro b hb
      rw [List.mem_range'_1] at hb
      rw [hc b (by omega)]
    · simp [he]
  have hk : ∀ (k : Nat) (x : Nat × va_E), (pool G M)[k]? = some x → H1[x.1]? = H[x.1]? := fun k x hx => ho x.1 ((hP k x hx).lt)
  refine ⟨?_, ?_, by rw [hz, hs, hn], ?_⟩
  · rw [e1]
    refine (hP.kept hk).app (fun k x hx => ?_)
    have hz : k < 1 := (List.getElem?_eq_some_iff.mp hx).1
    rw [show k = 0 by omega] at hx
    cases hx
    exact hat
  · rw [e1]
    exact hD.push hP hs.symm hw.1
  · refine ⟨by rw [hn]; have := hw.1; omega, fun b => ?_⟩
    rw [hK b]
    by_cases hb : b = mN M
    · rw [if_pos hb]
      have := hw.1
      exact ⟨fun _ => ⟨by omega, by rw [hn]; omega⟩, fun _ => hnz⟩
    · rw [if_neg hb, hw.2 b, hn]
      omega
end
