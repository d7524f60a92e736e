/-! WHAT A CONSTRUCTOR BUILDS: entries (field, kind, length) of arrays made one behind the other; kind 0: an int -1, kind 1: an int -/
def bst (o : Nat) (e : Nat × Nat × Nat) (M : Mem) : Mem := if e.2.1 = 0 then seti M o e.1 (-1) else if e.2.1 = 1 then seti M o e.1 (nI e.2.2) else setr (mnew M e.2.1 e.2.2) o e.1 (some (mN M))
def bld (o : Nat) : List (Nat × Nat × Nat) → Mem → Mem
  | [], M => M
  | e :: l, M => bld o l (bst o e M)
def arrs (l : List (Nat × Nat × Nat)) : List (Nat × Nat × Nat) := l.filter (fun e => decide (2 ≤ e.2.1))
def sumN : List (Nat × Nat × Nat) → Nat
  | [] => 0
  | e :: l => (if 2 ≤ e.2.1 then e.2.2 else 0) + sumN l
/-- what there is behind it: M' out of M -/
def BS (o : Nat) (l : List (Nat × Nat × Nat)) (M M' : Mem) : Prop :=
  mN M' = mN M + (arrs l).length ∧ mS M' = mS M + sumN l ∧ (∀ a, a < mN M → a ≠ o → same M M' a ∧ mK M' a = mK M a ∧ mA M' a = mA M a) ∧ (mK M' o = mK M o ∧ mA M' o = mA M o ∧ vl M' o = vl M o) ∧
  (∀ a, mN M ≤ a → a < mN M' → vi M' a = (fun _ => 0) ∧ vl M' a = (fun _ => 0) ∧ vr M' a = (fun _ => none)) ∧ (∀ i e, (arrs l)[i]? = some e → vr M' o e.1 = some (mN M + i) ∧ mK M' (mN M + i) = e.2.1 ∧ mA M' (mN M + i) = e.2.2) ∧
  (∀ k, k ∉ l.map (fun e => e.1) → vr M' o k = vr M o k ∧ vi M' o k = vi M o k) ∧ (∀ e ∈ l, (e.2.1 = 0 → vi M' o e.1 = -1) ∧ (e.2.1 = 1 → vi M' o e.1 = nI e.2.2)) ∧ frM M'
section
variable {o : Nat} {M M' : Mem}
theorem vi_mnew (M : Mem) (K n a : Nat) : vi (mnew M K n) a = if a = mN M then (fun _ => 0) else vi M a := rfl
theorem vl_mnew (M : Mem) (K n a : Nat) : vl (mnew M K n) a = if a = mN M then (fun _ => 0) else vl M a := rfl
theorem vr_mnew (M : Mem) (K n a : Nat) : vr (mnew M K n) a = if a = mN M then (fun _ => none) else vr M a := rfl
theorem mK_mnew (M : Mem) (K n a : Nat) : mK (mnew M K n) a = if a = mN M then K else mK M a := rfl
theorem mA_mnew (M : Mem) (K n a : Nat) : mA (mnew M K n) a = if a = mN M then n else mA M a := rfl
theorem mN_mnew (M : Mem) (K n : Nat) : mN (mnew M K n) = mN M + 1 := rfl
theorem mS_mnew (M : Mem) (K n : Nat) : mS (mnew M K n) = mS M + n := rfl
theorem bst_ok {e : Nat × Nat × Nat} {c : Nat} (O : mK M o = c) (F : frM M) (ho : o < mN M) (hM : M' = bst o e M) : mK M' o = c ∧ frM M' ∧ o < mN M' := by
  subst hM
  unfold bst
  by_cases h0 : e.2.1 = 0
  · rw [if_pos h0]; exact ⟨O, F, ho⟩
  · rw [if_neg h0]
    by_cases h1 : e.2.1 = 1
    · rw [if_pos h1]; exact ⟨O, F, ho⟩
    · rw [if_neg h1]
      refine ⟨?_, fr_mnew (K := e.2.1) (n := e.2.2) F, ?_⟩
      · rw [mK_setr, mK_mnew, if_neg (by omega)]; exact O
      · rw [mN_setr, mN_mnew]; omega
theorem bld_spec : ∀ (l : List (Nat × Nat × Nat)) (M : Mem), o < mN M → frM M → (l.map (fun e => e.1)).Nodup → BS o l M (bld o l M)
  | [], M, ho, F, _ => ⟨rfl, rfl, fun _ _ _ => ⟨same.refl, rfl, rfl⟩, ⟨rfl, rfl, rfl⟩, fun a h1 h2 => (by have : a < mN M := h2; omega), fun i e h => (by simp [arrs] at h), fun _ _ => ⟨rfl, rfl⟩, fun e he => (by cases he), F⟩
  | e :: l, M, ho, F, hd => by
    have hd2 : e.1 ∉ l.map (fun e => e.1) ∧ (l.map (fun e => e.1)).Nodup := List.nodup_cons.mp hd
    have ok := bst_ok (e := e) (c := mK M o) rfl F ho rfl
    obtain ⟨b1, b2, b3, b4, b5, b6, b7, b8, b9⟩ := bld_spec l (bst o e M) ok.2.2 ok.2.1 hd2.2
    show BS o (e :: l) M (bld o l (bst o e M))
    by_cases ha : 2 ≤ e.2.1
    · have eb : bst o e M = setr (mnew M e.2.1 e.2.2) o e.1 (some (mN M)) := by unfold bst; rw [if_neg (by omega), if_neg (by omega)]
      have hN : mN (bst o e M) = mN M + 1 := by rw [eb]; rfl
      have ea : arrs (e :: l) = e :: arrs l := by unfold arrs; rw [List.filter_cons_of_pos (by simpa using ha)]
      have ci : ∀ a, a ≠ mN M → vi (bst o e M) a = vi M a ∧ vl (bst o e M) a = vl M a ∧ mK (bst o e M) a = mK M a ∧ mA (bst o e M) a = mA M a := fun a h => by
        rw [eb]
        exact ⟨by rw [vi_setr, vi_mnew, if_neg h], by rw [vl_setr, vl_mnew, if_neg h], by rw [mK_setr, mK_mnew, if_neg h], by rw [mA_setr, mA_mnew, if_neg h]⟩
      have cr : ∀ a, a ≠ mN M → a ≠ o → vr (bst o e M) a = vr M a := fun a h h2 => by
        rw [eb]; funext j; rw [vr_setr, if_neg (fun z => h2 z.1), vr_mnew, if_neg h]
      have new : vi (bst o e M) (mN M) = (fun _ => 0) ∧ vl (bst o e M) (mN M) = (fun _ => 0) ∧ vr (bst o e M) (mN M) = (fun _ => none) ∧ mK (bst o e M) (mN M) = e.2.1 ∧ mA (bst o e M) (mN M) = e.2.2 := by
        rw [eb]
        exact ⟨by rw [vi_setr, vi_mnew, if_pos rfl], by rw [vl_setr, vl_mnew, if_pos rfl], by funext j; rw [vr_setr, if_neg (by omega), vr_mnew, if_pos rfl], by rw [mK_setr, mK_mnew, if_pos rfl], by rw [mA_setr, mA_mnew, if_pos rfl]⟩
      have old := b3 (mN M) (by omega) (by omega)
      refine ⟨?_, ?_, fun a h1 h2 => ?_, ⟨?_, ?_, ?_⟩, fun a h1 h2 => ?_, fun i q hq => ?_, fun k hk => ?_, fun q hq => ?_, b9⟩
      · rw [b1, hN, ea, List.length_cons]; omega
      · rw [b2, eb]; show mS M + e.2.2 + sumN l = mS M + ((if 2 ≤ e.2.1 then e.2.2 else 0) + sumN l); rw [if_pos ha]; omega
      · have z := b3 a (by omega) h2
        have y := ci a (by omega)
        exact ⟨⟨z.1.1.trans y.1, z.1.2.1.trans y.2.1, z.1.2.2.trans (cr a (by omega) h2)⟩, z.2.1.trans y.2.2.1, z.2.2.trans y.2.2.2⟩
      · rw [b4.1]; exact (ci o (by omega)).2.2.1
      · rw [b4.2.1]; exact (ci o (by omega)).2.2.2
      · rw [b4.2.2]; exact (ci o (by omega)).2.1
      · rcases Nat.lt_or_ge (mN M) a with z | z
        · exact b5 a (by omega) h2
        · rw [show a = mN M by omega]
          exact ⟨old.1.1.trans new.1, old.1.2.1.trans new.2.1, old.1.2.2.trans new.2.2.1⟩
      · rw [ea] at hq
        rcases i with _ | i
        · have hq2 : e = q := by simpa using hq
          subst hq2
          rw [Nat.add_zero]
          refine ⟨?_, old.2.1.trans new.2.2.2.1, old.2.2.trans new.2.2.2.2⟩
          rw [(b7 e.1 hd2.1).1, eb, vr_setr, if_pos ⟨rfl, rfl⟩]
        · have := b6 i q (by simpa using hq)
          rw [hN] at this
          rw [show mN M + (i + 1) = mN M + 1 + i by omega]
          exact this
      · have hk2 : k ≠ e.1 ∧ k ∉ l.map (fun e => e.1) := by simpa using hk
        have z := b7 k hk2.2
        refine ⟨z.1.trans ?_, z.2.trans (by rw [(ci o (by omega)).1])⟩
        rw [eb, vr_setr, if_neg (fun y => hk2.1 y.2), vr_mnew, if_neg (by omega)]
      · rcases List.mem_cons.mp hq with z | z
        · subst z; exact ⟨fun y => by omega, fun y => by omega⟩
        · exact b8 q z
    · obtain ⟨v, eb, ev⟩ : ∃ v, bst o e M = seti M o e.1 v ∧ ((e.2.1 = 0 → v = -1) ∧ (e.2.1 = 1 → v = nI e.2.2)) := by
        unfold bst
        by_cases h0 : e.2.1 = 0
        · exact ⟨-1, by rw [if_pos h0], fun _ => rfl, fun h => by omega⟩
        · exact ⟨nI e.2.2, by rw [if_neg h0, if_pos (by omega)], fun h => by omega, fun _ => rfl⟩
      have hN : mN (bst o e M) = mN M := by rw [eb]; rfl
      have ea : arrs (e :: l) = arrs l := by unfold arrs; rw [List.filter_cons_of_neg (by simpa using ha)]
      have sm : ∀ a, a ≠ o → same M (bst o e M) a := fun a h => by rw [eb]; exact ⟨by funext j; rw [vi_seti, if_neg (fun z => h z.1)], rfl, rfl⟩
      have kk : mK (bst o e M) = mK M ∧ mA (bst o e M) = mA M ∧ vl (bst o e M) = vl M ∧ vr (bst o e M) = vr M := by rw [eb]; exact ⟨rfl, rfl, rfl, rfl⟩
      refine ⟨?_, ?_, fun a h1 h2 => ?_, ⟨?_, ?_, ?_⟩, fun a h1 h2 => ?_, fun i q hq => ?_, fun k hk => ?_, fun q hq => ?_, b9⟩
      · rw [b1, hN, ea]
      · rw [b2, eb]; show mS M + sumN l = mS M + ((if 2 ≤ e.2.1 then e.2.2 else 0) + sumN l); rw [if_neg ha]; omega
      · have z := b3 a (by omega) h2
        exact ⟨(sm a h2).trans z.1, by rw [z.2.1, kk.1], by rw [z.2.2, kk.2.1]⟩
      · rw [b4.1, kk.1]
      · rw [b4.2.1, kk.2.1]
      · rw [b4.2.2, kk.2.2.1]
      · exact b5 a (by omega) h2
      · rw [ea] at hq
        have := b6 i q hq
        rw [hN] at this
        exact this
      · have hk2 : k ≠ e.1 ∧ k ∉ l.map (fun e => e.1) := by simpa using hk
        have z := b7 k hk2.2
        refine ⟨by rw [z.1, kk.2.2.2], z.2.trans ?_⟩
        rw [eb, vi_seti, if_neg (fun y => hk2.1 y.2)]
      · rcases List.mem_cons.mp hq with z | z
        · subst z
          have y := (b7 q.1 hd2.1).2
          have w : vi (bst o q M) o q.1 = v := by rw [eb, vi_seti, if_pos ⟨rfl, rfl⟩]
          exact ⟨fun h => by rw [y, w]; exact ev.1 h, fun h => by rw [y, w]; exact ev.2 h⟩
        · exact b8 q z
/-- the object's cells stand -/
theorem BS.ob {l : List (Nat × Nat × Nat)} {c : Nat} (h : BS o l M M') (O : mK M o = c + 1) (ho : mN M = o + 1) (e : obTab c = (arrs l).mapIdx (fun i e => (e.1, i + 1, e.2.1, e.2.2))) : ObAt c M' o := by
  obtain ⟨b1, b2, b3, b4, b5, b6, b7, b8, b9⟩ := h
  refine ⟨by rw [b4.1]; exact O, fun q hq => ?_⟩
  rw [e, List.mem_mapIdx] at hq
  obtain ⟨i, hi, hq⟩ := hq
  subst hq
  have z := b6 i (arrs l)[i] (List.getElem?_eq_getElem hi)
  rw [ho, show o + 1 + i = o + (i + 1) by omega] at z
  exact ⟨z.1, z.2.1, fun _ => z.2.2⟩
end
