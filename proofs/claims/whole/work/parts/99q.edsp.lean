/-! EDIT: the recursion, step by step -/
def omin : Option Nat → Option Nat → Option Nat
  | none, y => y
  | some x, none => some x
  | some x, some y => some (if y < x then y else x)
noncomputable def scL (S : ShT) (s : Nat) (b v : List Int32) : Option Nat := match b, v with
  | [], [] => none
  | [], _ :: _ => if s = 2 then some (kc S 0) else none
  | _ :: _, [] => if s = 1 then some (kc S 1) else none
  | c :: _, u :: _ => if s = 0 then cif (c = u) (some 0) none else if s = 1 then some (kc S 1) else if s = 2 then some (kc S 0) else if s = 3 then cif (isS c ∧ c - 32 = u) (some (kc S 2)) none else cif (isU c ∧ c + 32 = u) (some (kc S 3)) none
noncomputable def enL (S : ShT) (s : Nat) (b v : List Int32) : Nat := edL S (if s = 2 then b else b.tail) (if s = 1 then v else v.tail)
noncomputable def bsL (S : ShT) (b v : List Int32) : Nat → Option Nat
  | 0 => if b = [] ∧ v = [] then some 0 else none
  | s + 1 => omin (bsL S b v s) ((scL S s b v).map (fun t => t + enL S s b v))
section
variable {S : ShT} {b v : List Int32} {c u : Int32}
theorem sm_ne (h : isS c) : ¬ c = c - 32 := by
  obtain ⟨n, hn, e⟩ := asN (a := c) (N := 123) (by have := h.1; omega) (by have := h.2; omega)
  subst e
  have h1 := h.1
  rw [nI_toIntN (by omega)] at h1
  rw [show (32 : Int32) = nI 32 from rfl, pk_sub (by omega), eq_I (by omega) (by omega)]; omega
theorem cp_ne (h : isU c) : ¬ c = c + 32 := by
  obtain ⟨n, hn, e⟩ := asN (a := c) (N := 91) (by have := h.1; omega) (by have := h.2; omega)
  subst e
  rw [show (32 : Int32) = nI 32 from rfl, nI_add, eq_I (by omega) (by omega)]; omega
theorem sm_cp (h : isS c) : ¬ isU c := fun z => by have := h.1; have := z.2; omega
theorem edL_nn : edL S [] [] = 0 := by show 0 * _ = _; rw [Nat.zero_mul]
theorem edL_nc : edL S [] (u :: v) = kc S 0 + edL S [] v := by
  show (v.length + 1) * _ = _ + v.length * _
  rw [Nat.add_mul, Nat.one_mul, Nat.add_comm]
theorem edL_cn : edL S (c :: b) [] = kc S 1 + edL S b [] := rfl
theorem edL_cc : edL S (c :: b) (u :: v) = (match tuC S c u with | none => min (kc S 1 + edL S b (u :: v)) (kc S 0 + edL S (c :: b) v) | some t => min (min (kc S 1 + edL S b (u :: v)) (kc S 0 + edL S (c :: b) v)) (t + edL S b v)) := rfl
theorem tuC_k (h : c = u) : tuC S c u = some 0 := by unfold tuC; rw [cif_T h]
theorem tuC_r (h : isS c ∧ c - 32 = u) : tuC S c u = some (kc S 2) := by unfold tuC; rw [cif_F (fun e => sm_ne h.1 (e.trans h.2.symm)), cif_T h]
theorem tuC_l (h : isU c ∧ c + 32 = u) : tuC S c u = some (kc S 3) := by
  unfold tuC; rw [cif_F (fun e => cp_ne h.1 (e.trans h.2.symm)), cif_F (fun z => sm_cp z.1 h.1), cif_T h]
theorem tuC_n (h1 : ¬ c = u) (h2 : ¬ (isS c ∧ c - 32 = u)) (h3 : ¬ (isU c ∧ c + 32 = u)) : tuC S c u = none := by unfold tuC; rw [cif_F h1, cif_F h2, cif_F h3]
/-- the four ways of two letters -/
theorem cu4 (c u : Int32) : (c = u ∧ ¬ (isS c ∧ c - 32 = u) ∧ ¬ (isU c ∧ c + 32 = u)) ∨ (¬ c = u ∧ (isS c ∧ c - 32 = u) ∧ ¬ (isU c ∧ c + 32 = u)) ∨ (¬ c = u ∧ ¬ (isS c ∧ c - 32 = u) ∧ (isU c ∧ c + 32 = u)) ∨ (¬ c = u ∧ ¬ (isS c ∧ c - 32 = u) ∧ ¬ (isU c ∧ c + 32 = u)) := by
  by_cases h1 : c = u
  · exact Or.inl ⟨h1, fun z => sm_ne z.1 (h1.trans z.2.symm), fun z => cp_ne z.1 (h1.trans z.2.symm)⟩
  · by_cases h2 : isS c ∧ c - 32 = u
    · exact Or.inr (Or.inl ⟨h1, h2, fun z => sm_cp h2.1 z.1⟩)
    · by_cases h3 : isU c ∧ c + 32 = u
      · exact Or.inr (Or.inr (Or.inl ⟨h1, h2, h3⟩))
      · exact Or.inr (Or.inr (Or.inr ⟨h1, h2, h3⟩))
theorem sc0 : scL S 0 (c :: b) (u :: v) = cif (c = u) (some 0) none := rfl
theorem sc1 : scL S 1 (c :: b) (u :: v) = some (kc S 1) := rfl
theorem sc2 : scL S 2 (c :: b) (u :: v) = some (kc S 0) := rfl
theorem sc3 : scL S 3 (c :: b) (u :: v) = cif (isS c ∧ c - 32 = u) (some (kc S 2)) none := rfl
theorem sc4 : scL S 4 (c :: b) (u :: v) = cif (isU c ∧ c + 32 = u) (some (kc S 3)) none := rfl
theorem bs5 : bsL S b v 5 = omin (omin (omin (omin (omin (if b = [] ∧ v = [] then some 0 else none) ((scL S 0 b v).map (fun t => t + enL S 0 b v))) ((scL S 1 b v).map (fun t => t + enL S 1 b v))) ((scL S 2 b v).map (fun t => t + enL S 2 b v))) ((scL S 3 b v).map (fun t => t + enL S 3 b v))) ((scL S 4 b v).map (fun t => t + enL S 4 b v)) := rfl
theorem omin_s {x y : Nat} : omin (some x) (some y) = some (min x y) := by
  show some (if y < x then y else x) = _
  congr 1
  by_cases h : y < x
  · rw [if_pos h]; omega
  · rw [if_neg h]; omega
theorem bsL_5 : bsL S b v 5 = some (edL S b v) := by
  rw [bs5]
  match b, v with
  | [], [] => rw [edL_nn]; rfl
  | [], u :: v => rw [edL_nc]; rfl
  | c :: b, [] => rw [edL_cn]; rfl
  | c :: b, u :: v =>
    rw [if_neg (fun z => by cases z.1), sc0, sc1, sc2, sc3, sc4, edL_cc]
    have e0 : enL S 0 (c :: b) (u :: v) = edL S b v := rfl
    have e1 : enL S 1 (c :: b) (u :: v) = edL S b (u :: v) := rfl
    have e2 : enL S 2 (c :: b) (u :: v) = edL S (c :: b) v := rfl
    have e3 : enL S 3 (c :: b) (u :: v) = edL S b v := rfl
    have e4 : enL S 4 (c :: b) (u :: v) = edL S b v := rfl
    rw [e0, e1, e2, e3, e4]
    rcases cu4 c u with ⟨h1, h2, h3⟩ | ⟨h1, h2, h3⟩ | ⟨h1, h2, h3⟩ | ⟨h1, h2, h3⟩
    · rw [tuC_k h1, cif_T h1, cif_F h2, cif_F h3]
      show omin (omin (omin (omin (some (0 + edL S b v)) (some (kc S 1 + edL S b (u :: v)))) (some (kc S 0 + edL S (c :: b) v))) none) none = _
      rw [omin_s, omin_s]
      show some _ = some (min (min _ _) _)
      congr 1; omega
    · rw [tuC_r h2, cif_F h1, cif_T h2, cif_F h3]
      show omin (omin (omin (some (kc S 1 + edL S b (u :: v))) (some (kc S 0 + edL S (c :: b) v))) (some (kc S 2 + edL S b v))) none = _
      rw [omin_s, omin_s]; rfl
    · rw [tuC_l h3, cif_F h1, cif_F h2, cif_T h3]
      show omin (omin (omin (some (kc S 1 + edL S b (u :: v))) (some (kc S 0 + edL S (c :: b) v))) none) (some (kc S 3 + edL S b v)) = _
      rw [omin_s]
      show omin (some _) (some _) = _
      rw [omin_s]
    · rw [tuC_n h1 h2 h3, cif_F h1, cif_F h2, cif_F h3]
      show omin (omin (omin (some (kc S 1 + edL S b (u :: v))) (some (kc S 0 + edL S (c :: b) v))) none) none = _
      rw [omin_s]; rfl
/-- the step that is told -/
theorem stp_lt : ∀ {s : Nat}, s < stp S b v → ∀ t, scL S s b v = some t → ¬ t + enL S s b v = edL S b v := by
  intro s hs t ht
  match b, v with
  | [], [] =>
    cases ht
  | [], u :: v =>
    have hs : s < 2 := hs
    have ht : (if s = 2 then some (kc S 0) else none) = some t := ht
    rw [if_neg (by omega)] at ht; cases ht
  | c :: b, [] =>
    have hs : s < 1 := hs
    have ht : (if s = 1 then some (kc S 1) else none) = some t := ht
    rw [if_neg (by omega)] at ht; cases ht
  | c :: b, u :: v =>
    have e0 : enL S 0 (c :: b) (u :: v) = edL S b v := rfl
    have e1 : enL S 1 (c :: b) (u :: v) = edL S b (u :: v) := rfl
    have e2 : enL S 2 (c :: b) (u :: v) = edL S (c :: b) v := rfl
    have e3 : enL S 3 (c :: b) (u :: v) = edL S b v := rfl
    have hs : s < cif (c = u ∧ edL S b v = edL S (c :: b) (u :: v)) 0 (cif (kc S 1 + edL S b (u :: v) = edL S (c :: b) (u :: v)) 1 (cif (kc S 0 + edL S (c :: b) v = edL S (c :: b) (u :: v)) 2 (cif (isS c) 3 4))) := hs
    by_cases k0 : c = u ∧ edL S b v = edL S (c :: b) (u :: v)
    · rw [cif_T k0] at hs; omega
    · rw [cif_F k0] at hs
      have z0 : s = 0 → ¬ t + enL S s (c :: b) (u :: v) = edL S (c :: b) (u :: v) := fun e h => by
        subst e
        rw [sc0] at ht
        by_cases q : c = u
        · rw [cif_T q] at ht
          cases ht
          rw [e0, Nat.zero_add] at h
          exact k0 ⟨q, h⟩
        · rw [cif_F q] at ht; cases ht
      by_cases k1 : kc S 1 + edL S b (u :: v) = edL S (c :: b) (u :: v)
      · rw [cif_T k1] at hs; exact z0 (by omega)
      · rw [cif_F k1] at hs
        have z1 : s = 1 → ¬ t + enL S s (c :: b) (u :: v) = edL S (c :: b) (u :: v) := fun e h => by
          subst e
          rw [sc1] at ht
          cases ht
          rw [e1] at h
          exact k1 h
        by_cases k2 : kc S 0 + edL S (c :: b) v = edL S (c :: b) (u :: v)
        · rw [cif_T k2] at hs
          rcases (show s = 0 ∨ s = 1 by omega) with z | z
          · exact z0 z
          · exact z1 z
        · rw [cif_F k2] at hs
          have z2 : s = 2 → ¬ t + enL S s (c :: b) (u :: v) = edL S (c :: b) (u :: v) := fun e h => by
            subst e
            rw [sc2] at ht
            cases ht
            rw [e2] at h
            exact k2 h
          by_cases k3 : isS c
          · rw [cif_T k3] at hs
            rcases (show s = 0 ∨ s = 1 ∨ s = 2 by omega) with z | z | z
            · exact z0 z
            · exact z1 z
            · exact z2 z
          · rw [cif_F k3] at hs
            rcases (show s = 0 ∨ s = 1 ∨ s = 2 ∨ s = 3 by omega) with z | z | z | z
            · exact z0 z
            · exact z1 z
            · exact z2 z
            · subst z
              rw [sc3, cif_F (fun q => k3 q.1)] at ht; cases ht
theorem stp_eq (h : ¬ (b = [] ∧ v = [])) : ∃ t, scL S (stp S b v) b v = some t ∧ t + enL S (stp S b v) b v = edL S b v := by
  match b, v with
  | [], [] => exact absurd ⟨rfl, rfl⟩ h
  | [], u :: v => exact ⟨kc S 0, rfl, by rw [edL_nc]; rfl⟩
  | c :: b, [] => exact ⟨kc S 1, rfl, rfl⟩
  | c :: b, u :: v =>
    have e0 : enL S 0 (c :: b) (u :: v) = edL S b v := rfl
    have e1 : enL S 1 (c :: b) (u :: v) = edL S b (u :: v) := rfl
    have e2 : enL S 2 (c :: b) (u :: v) = edL S (c :: b) v := rfl
    have e3 : enL S 3 (c :: b) (u :: v) = edL S b v := rfl
    have e4 : enL S 4 (c :: b) (u :: v) = edL S b v := rfl
    have es : stp S (c :: b) (u :: v) = cif (c = u ∧ edL S b v = edL S (c :: b) (u :: v)) 0 (cif (kc S 1 + edL S b (u :: v) = edL S (c :: b) (u :: v)) 1 (cif (kc S 0 + edL S (c :: b) v = edL S (c :: b) (u :: v)) 2 (cif (isS c) 3 4))) := rfl
    rw [es]
    by_cases k0 : c = u ∧ edL S b v = edL S (c :: b) (u :: v)
    · rw [cif_T k0, sc0, cif_T k0.1, e0]; exact ⟨0, rfl, by rw [Nat.zero_add]; exact k0.2⟩
    · rw [cif_F k0]
      by_cases k1 : kc S 1 + edL S b (u :: v) = edL S (c :: b) (u :: v)
      · rw [cif_T k1, sc1, e1]; exact ⟨_, rfl, k1⟩
      · rw [cif_F k1]
        by_cases k2 : kc S 0 + edL S (c :: b) v = edL S (c :: b) (u :: v)
        · rw [cif_T k2, sc2, e2]; exact ⟨_, rfl, k2⟩
        · rw [cif_F k2]
          have ec := edL_cc (S := S) (b := b) (v := v) (c := c) (u := u)
          rcases cu4 c u with ⟨h1, h2, h3⟩ | ⟨h1, h2, h3⟩ | ⟨h1, h2, h3⟩ | ⟨h1, h2, h3⟩
          · rw [tuC_k h1] at ec
            have ec : edL S (c :: b) (u :: v) = min (min (kc S 1 + edL S b (u :: v)) (kc S 0 + edL S (c :: b) v)) (0 + edL S b v) := ec
            exact absurd ⟨h1, by omega⟩ k0
          · rw [tuC_r h2] at ec
            have ec : edL S (c :: b) (u :: v) = min (min (kc S 1 + edL S b (u :: v)) (kc S 0 + edL S (c :: b) v)) (kc S 2 + edL S b v) := ec
            rw [cif_T h2.1, sc3, cif_T h2, e3]
            exact ⟨_, rfl, by omega⟩
          · rw [tuC_l h3] at ec
            have ec : edL S (c :: b) (u :: v) = min (min (kc S 1 + edL S b (u :: v)) (kc S 0 + edL S (c :: b) v)) (kc S 3 + edL S b v) := ec
            rw [cif_F (fun z => sm_cp z h3.1), sc4, cif_T h3, e4]
            exact ⟨_, rfl, by omega⟩
          · rw [tuC_n h1 h2 h3] at ec
            have ec : edL S (c :: b) (u :: v) = min (kc S 1 + edL S b (u :: v)) (kc S 0 + edL S (c :: b) v) := ec
            omega
theorem stp_4 : stp S b v ≤ 4 := by
  match b, v with
  | [], _ => exact (by decide : 2 ≤ 4)
  | _ :: _, [] => exact (by decide : 1 ≤ 4)
  | c :: b, u :: v =>
    show cif _ _ _ ≤ 4
    refine cif_el (φ := fun n => n ≤ 4) (fun _ => by decide) (fun _ => ?_)
    refine cif_el (φ := fun n => n ≤ 4) (fun _ => by decide) (fun _ => ?_)
    refine cif_el (φ := fun n => n ≤ 4) (fun _ => by decide) (fun _ => ?_)
    exact cif_el (φ := fun n => n ≤ 4) (fun _ => by decide) (fun _ => by decide)
theorem kc_9 (V : okS S) {k : Nat} (hk : k < 7) : kc S k ≤ 99 ∧ cC S k = nI (kc S k) := by
  have := V.2.2.2.2.2.2.2.2.2 k hk
  obtain ⟨n, hn, e⟩ := asN (a := cC S k) (N := 100) this.1 (by have := this.2; omega)
  unfold kc
  rw [e, nI_clamp (by omega)]
  exact ⟨by omega, rfl⟩
theorem edL_le (V : okS S) : ∀ (b v : List Int32), edL S b v ≤ 99 * (b.length + v.length)
  | [], v => by
    have := (kc_9 V (k := 0) (by decide)).1
    show v.length * kc S 0 ≤ 99 * (0 + v.length)
    have := Nat.mul_le_mul_left v.length this
    omega
  | c :: b, [] => by
    have := (kc_9 V (k := 1) (by decide)).1
    have ih := edL_le V b []
    rw [edL_cn, List.length_cons]
    omega
  | c :: b, u :: v => by
    have k1 := (kc_9 V (k := 1) (by decide)).1
    have ih := edL_le V b (u :: v)
    rw [edL_cc, List.length_cons]
    have bd : kc S 1 + edL S b (u :: v) ≤ 99 * (b.length + 1 + (u :: v).length) := by omega
    split
    · exact Nat.le_trans (Nat.min_le_left _ _) bd
    · exact Nat.le_trans (Nat.le_trans (Nat.min_le_left _ _) (Nat.min_le_left _ _)) bd
end
