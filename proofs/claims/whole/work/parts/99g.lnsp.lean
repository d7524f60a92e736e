/-! LINES -/
abbrev LnT : Type := Nat × List Int32
noncomputable def wr (t : List Int32) (k : Nat) : Nat := run (fun i => ¬ t.getD i 0 = 32) k t.length
def sg (t : List Int32) (k n : Nat) : List Int32 := (t.drop k).take n
def lnC (w : Nat) : Nat → List LnT → Nat → List Int32 → List LnT
  | 0, acc, _, _ => acc
  | f + 1, acc, a, u => if w < u.length then lnC w f (acc ++ [(a, u.take w)]) (a + w) (u.drop w) else acc ++ [(a, u)]
def lnJ (w : Nat) (acc : List LnT) (a : Nat) (u : List Int32) : List LnT := match acc.getLast? with
  | none => acc ++ [(a, u)]
  | some x => if x.2.length + 1 + u.length ≤ w then acc.dropLast ++ [(x.1, x.2 ++ 32 :: u)] else acc ++ [(a, u)]
def lnW (w : Nat) (acc : List LnT) (a : Nat) (u : List Int32) : List LnT := if w < u.length then lnC w 401 acc a u else lnJ w acc a u
noncomputable def lnS (t : List Int32) (w : Nat) : Nat → List LnT → Nat → List LnT
  | 0, acc, _ => acc
  | f + 1, acc, k => cif (k < t.length) (lnS t w f (cif (wr t k = 0) acc (lnW w acc k (sg t k (wr t k)))) (k + wr t k + 1)) acc
noncomputable def lnL (t : List Int32) (w : Nat) : List LnT := lnS t w 402 [] 0
/-- the text of a number -/
noncomputable def txW (T : StT) (a : Nat) : List Int32 := if a = 0 then gL' (sh T) else if a = 1 then wL' (sh T) else ouT (sh T) (qL T (a - 2))
def wOk (w : Int32) : Prop := 5 ≤ w.toInt ∧ w.toInt ≤ 60
def tOk (T : StT) (a : Int32) : Prop := 0 ≤ a.toInt ∧ a.toInt ≤ 1 + qN T
noncomputable def f_lines (T : StT) (a w : Int32) : Int32 := cif (wOk w ∧ tOk T a) (nI (lnL (txW T a.toNatClampNeg) w.toNatClampNeg).length) (-1)
noncomputable def f_line (T : StT) (a w k h : Int32) : Int32 := cif (wOk w ∧ tOk T a ∧ (0 ≤ h.toInt ∧ h.toInt ≤ 1) ∧ (0 ≤ k.toInt ∧ k.toInt < (lnL (txW T a.toNatClampNeg) w.toNatClampNeg).length))
  (cif (h = 0) (nI ((lnL (txW T a.toNatClampNeg) w.toNatClampNeg).getD k.toNatClampNeg (0, [])).1) (nI ((lnL (txW T a.toNatClampNeg) w.toNatClampNeg).getD k.toNatClampNeg (0, [])).2.length)) (-1)
section
variable {T : StT} {t : List Int32} {w : Nat} {acc : List LnT} {a k : Nat} {u : List Int32}
theorem sg_len (h : k + a ≤ t.length) : (sg t k a).length = a := by unfold sg; rw [List.length_take, List.length_drop]; omega
theorem txW_4 (V : okS (sh T)) : (txW T a).length ≤ 400 := by
  unfold txW
  by_cases c : a = 0
  · rw [if_pos c]; unfold gL'; rw [List.length_map, List.length_range]; have := V.g; omega
  · rw [if_neg c]
    by_cases d : a = 1
    · rw [if_pos d]; unfold wL'; rw [List.length_map, List.length_range]; have := V.w; omega
    · rw [if_neg d]; exact ouT_4
theorem wr_le (h : k ≤ t.length) : k + wr t k ≤ t.length := run_le' h
theorem lnC_len (w1 : 1 ≤ w) : ∀ (f : Nat) (acc : List LnT) (a : Nat) (u : List Int32), u ≠ [] → (lnC w f acc a u).length ≤ acc.length + u.length
  | 0, acc, a, u, _ => by show acc.length ≤ _; omega
  | f + 1, acc, a, u, hu => by
    have u1 : 0 < u.length := List.length_pos_iff.mpr hu
    unfold lnC
    by_cases c : w < u.length
    · rw [if_pos c]
      have ih := lnC_len w1 f (acc ++ [(a, u.take w)]) (a + w) (u.drop w) (by intro z; have := List.drop_eq_nil_iff.mp z; omega)
      rw [List.length_append, List.length_drop] at ih
      have : ([(a, u.take w)] : List LnT).length = 1 := rfl
      omega
    · rw [if_neg c, List.length_append]
      show acc.length + 1 ≤ _
      omega
theorem lnJ_len : (lnJ w acc a u).length ≤ acc.length + 1 := by
  unfold lnJ
  split
  · rw [List.length_append]; exact Nat.le_refl _
  · split
    · rw [List.length_append, List.length_dropLast]; show acc.length - 1 + 1 ≤ _; omega
    · rw [List.length_append]; exact Nat.le_refl _
theorem lnW_len (w1 : 1 ≤ w) (hu : u ≠ []) : (lnW w acc a u).length ≤ acc.length + u.length := by
  have u1 : 0 < u.length := List.length_pos_iff.mpr hu
  unfold lnW
  split
  · exact lnC_len w1 _ _ _ _ hu
  · have := lnJ_len (w := w) (acc := acc) (a := a) (u := u); omega
end
/-- the reference's lines -/
def lnR (M : Mem) (m : Nat) (acc : List LnT) : Prop := vi M m 52 = nI acc.length ∧ ∀ i, i < acc.length → vi M (m + 34) i = nI (acc.getD i (0, [])).1 ∧ vi M (m + 35) i = nI (acc.getD i (0, [])).2.length
/-- the text that is set -/
def stX (M : Mem) (m : Nat) (t : List Int32) : Prop := vi M m 51 = nI t.length ∧ ∀ i, i < t.length → vi M (m + 33) i = t.getD i 0
section
variable {G : GT} {d : Nat} {M M' : Mem} {m w : Nat} {T : StT} {t : List Int32} {acc : List LnT}
theorem lnR.put {a : Nat} {u : List Int32} (h : lnR M m acc) (e1 : vi M' m 52 = nI (acc.length + 1)) (e2 : ∀ i, vi M' (m + 34) i = if i = acc.length then nI a else vi M (m + 34) i) (e3 : ∀ i, vi M' (m + 35) i = if i = acc.length then nI u.length else vi M (m + 35) i) : lnR M' m (acc ++ [(a, u)]) := by
  refine ⟨by rw [e1, List.length_append]; rfl, fun i hi => ?_⟩
  rw [List.length_append] at hi
  have hi : i < acc.length + 1 := hi
  rw [e2, e3]
  by_cases y : i = acc.length
  · rw [if_pos y, if_pos y, y, gA_r]; exact ⟨rfl, rfl⟩
  · rw [if_neg y, if_neg y, gA_l (by omega)]; exact h.2 i (by omega)
theorem last_of (h : acc ≠ []) : ∃ A x, acc = A ++ [x] := ⟨acc.dropLast, acc.getLast h, (List.dropLast_concat_getLast h).symm⟩
theorem s_setsWord {a n : Nat} {b : Int32} {u : List Int32} {Q : Mem → Prop} (R : RefAt M m) (h : lnR M m acc) (l4 : acc.length ≤ 400) (eu : u.length = n) (n4 : n ≤ 400) (w4 : w ≤ 400) (lb : ∀ x ∈ acc, x.2.length ≤ 400) (hb : b = 0 ∨ b = 1) (hq : ∀ M', Frl m [52] [34, 35] M M' → lnR M' m (if b = 1 then acc ++ [(a, u)] else lnJ w acc a u) → Q M') : CV G (d + 1) 242 [.ref m, .int (nI a), .int (nI n), .int (nI w), .int b] M Q := by
  have new : (if b = 1 then acc ++ [(a, u)] else lnJ w acc a u) = acc ++ [(a, u)] → vp_in (vi M m 52) 401 ∧ (∀ M1, M1 = seti M (m + 34) ((vi M m 52)).toNatClampNeg (nI a) → vp_in (vi M1 m 52) 401 ∧ (∀ M2, M2 = seti M1 (m + 35) ((vi M1 m 52)).toNatClampNeg (nI n) → ∀ M3, M3 = seti M2 m 52 ((vi M2 m 52) + (1 : Int32)) → Q M3)) := fun e => by
    rw [e] at hq
    rw [h.1, nI_clamp (by omega)]
    refine ⟨vp_in_nI (by omega) (by omega), fun M1 e1 => ?_⟩
    have v1 : vi M1 m 52 = nI acc.length := by rw [e1, vi_seti, if_neg (by omega)]; exact h.1
    rw [v1, nI_clamp (by omega)]
    refine ⟨vp_in_nI (by omega) (by omega), fun M2 e2 M3 e3 => ?_⟩
    rw [show vi M2 m 52 = nI acc.length by rw [e2, vi_seti, if_neg (by omega)]; exact v1, nI_1] at e3
    refine hq M3 (by rw [e3, e2, e1]; exact (Frl.si (by decide)).trans ((Frl.si (by decide)).trans (Frl.sf (by decide)))) (h.put (by rw [e3, vi_seti, if_pos ⟨rfl, rfl⟩]) (fun i => ?_) (fun i => ?_))
    · rw [e3, vi_seti, if_neg (by omega), e2, vi_seti, if_neg (by omega), e1, vi_seti]
      by_cases y : i = acc.length
      · rw [if_pos ⟨rfl, y⟩, if_pos y]
      · rw [if_neg (fun z => y z.2), if_neg y]
    · rw [e3, vi_seti, if_neg (by omega), e2, vi_seti, eu]
      by_cases y : i = acc.length
      · rw [if_pos ⟨rfl, y⟩, if_pos y]
      · rw [if_neg (fun z => y z.2), if_neg y, e1, vi_seti, if_neg (by omega)]
  refine r_setsWord R ⟨fun b0 => ⟨fun _ => new ?_, fun z => absurd rfl z⟩, fun b0 => ?_⟩
  · rw [if_pos (hb.resolve_left b0)]
  · have b1 : ¬ b = 1 := by rw [b0]; decide
    rw [if_neg b1] at hq new
    match acc, last_of (acc := acc), h, l4, lb, hq, new with
    | [], _, h, l4, lb, hq, new =>
      exact ⟨fun _ => ⟨fun _ => new rfl, fun z => absurd rfl z⟩, fun z => absurd (by rw [h.1]; decide) z⟩
    | y :: acc', la, h, l4, lb, hq, new =>
      obtain ⟨A, x, eA⟩ := la (by simp)
      rw [eA] at h l4 lb hq new
      have lA : (A ++ [x]).length = A.length + 1 := List.length_append
      rw [lA] at l4
      have xl := lb x (by simp)
      have hx := h.2 A.length (by rw [lA]; omega)
      rw [gA_r] at hx
      have ej : lnJ w (A ++ [x]) a u = if x.2.length + 1 + u.length ≤ w then A ++ [(x.1, x.2 ++ 32 :: u)] else A ++ [x] ++ [(a, u)] := by
        unfold lnJ
        rw [List.getLast?_concat]
        dsimp only
        rw [List.dropLast_concat]
      rw [ej] at hq new
      have e52 : vi M m 52 = nI (A.length + 1) := by rw [h.1, lA]
      have ix : vi M m 52 - 1 = nI A.length := by rw [e52, show (1 : Int32) = nI 1 from rfl, pk_sub (by omega)]; congr 1
      have ilt : (nI w < vi M (m + 35) (vi M m 52 - 1).toNatClampNeg + 1 + nI n) = (w < x.2.length + 1 + u.length) := by
        rw [ix, nI_clamp (by omega), hx.2, nI_1, nI_add, lt_I (by omega) (by omega), eu]
      have vx : vp_in (vi M m 52 - 1) 401 := by rw [ix]; exact vp_in_nI (by omega) (by omega)
      rw [ilt]
      refine ⟨fun z => absurd z (by rw [e52, il_0, le_I (by omega) (by omega)]; omega), fun _ => ⟨vx, fun lt => ⟨fun _ => new (by rw [if_neg (by omega)]), fun z => absurd rfl z⟩, fun lt => ⟨fun z => absurd z (by decide), fun _ => ⟨vx, vx, fun M4 e4 => ?_⟩⟩⟩⟩
      rw [if_pos (by omega)] at hq
      rw [ix, nI_clamp (by omega), hx.2, show (1 : Int32) = nI 1 from rfl, nI_add, nI_add] at e4
      refine hq M4 (by rw [e4]; exact Frl.si (by decide)) ⟨by rw [e4, vi_seti, if_neg (by omega), e52, List.length_append]; rfl, fun i hi => ?_⟩
      rw [List.length_append] at hi
      have hi : i < A.length + 1 := hi
      rw [e4, vi_seti, if_neg (by omega), vi_seti]
      by_cases yy : i = A.length
      · rw [if_pos ⟨rfl, yy⟩, yy, gA_r]
        refine ⟨hx.1, ?_⟩
        rw [List.length_append, List.length_cons]
        congr 1; omega
      · rw [if_neg (fun z => yy z.2), gA_l (by omega)]
        have := h.2 i (by rw [lA]; omega)
        rw [gA_l (by omega)] at this
        exact this
end
