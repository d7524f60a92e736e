/-! EDIT: the class keeps its steps in three bits each -/
theorem bit_sr {x : Int64} {i : Nat} (hi : i < 64) (k : Nat) : bit ((x.toUInt64 >>> ((nI i).toInt64.toUInt64 &&& Int64.toUInt64 63)).toInt64) k ↔ bit x (i + k) := by
  have key : ∀ i, i < 64 → ((nI i).toInt64.toUInt64 &&& Int64.toUInt64 63) = UInt64.ofNat i := by decide +kernel
  have key2 : ∀ i, i < 64 → ((UInt64.ofNat i).toBitVec % 64#64).toNat = i := by decide +kernel
  rw [key i hi]
  unfold bit
  show ((x.toUInt64 >>> UInt64.ofNat i).toBitVec).getLsbD k = true ↔ _
  rw [UInt64.toBitVec_shiftRight]
  show (x.toBitVec >>> ((UInt64.ofNat i).toBitVec % 64#64).toNat).getLsbD k = true ↔ _
  rw [key2 i hi, BitVec.getLsbD_ushiftRight]
theorem bit_hi {x : Int64} {o : Nat} (h : bit x o) : o < 64 := by
  rcases Nat.lt_or_ge o 64 with z | z
  · exact z
  · unfold bit at h
    rw [BitVec.getLsbD_of_ge _ _ z] at h
    exact absurd h (by decide)
theorem bit_ext {x y : Int64} (h : ∀ o, o < 64 → (bit x o ↔ bit y o)) : x = y := by
  apply Int64.toBitVec_inj.mp
  apply BitVec.eq_of_getLsbD_eq
  intro i hi
  have := h i hi
  unfold bit at this
  by_cases c : x.toBitVec.getLsbD i = true
  · rw [c, this.mp c]
  · have d : ¬ y.toBitVec.getLsbD i = true := fun z => c (this.mpr z)
    rw [Bool.not_eq_true] at c d
    rw [c, d]
theorem bit_7 {o : Nat} (ho : o < 64) : bit 7 o ↔ o < 3 := by
  have key : ∀ o, o < 64 → ((7 : Int64).toBitVec.getLsbD o = true ↔ o < 3) := by decide +kernel
  exact key o ho
theorem bit_msk {r o : Nat} (hr : r < 20) (ho : o < 64) : bit (((7 : Int64) <<< ((nI (3 * r)).toInt64 &&& 63)) ^^^ (-1 : Int64)) o ↔ ¬ (3 * r ≤ o ∧ o < 3 * r + 3) := by
  have key : ∀ r, r < 20 → ∀ o, o < 64 → ((((7 : Int64) <<< ((nI (3 * r)).toInt64 &&& 63)) ^^^ (-1 : Int64)).toBitVec.getLsbD o = true ↔ ¬ (3 * r ≤ o ∧ o < 3 * r + 3)) := by decide +kernel
  exact key r hr o ho
theorem bit_put {s r o : Nat} (hs : s < 5) (hr : r < 20) (ho : o < 64) : bit ((nI s).toInt64 <<< ((nI (3 * r)).toInt64 &&& 63)) o ↔ (3 * r ≤ o ∧ o < 3 * r + 3) ∧ s.testBit (o - 3 * r) = true := by
  have key : ∀ s, s < 5 → ∀ r, r < 20 → ∀ o, o < 64 → (((nI s).toInt64 <<< ((nI (3 * r)).toInt64 &&& 63)).toBitVec.getLsbD o = true ↔ (3 * r ≤ o ∧ o < 3 * r + 3) ∧ s.testBit (o - 3 * r) = true) := by decide +kernel
  exact key s hs r hr o ho
theorem bit_nI {s o : Nat} (hs : s < 5) (ho : o < 64) : bit ((nI s).toInt64) o ↔ o < 3 ∧ s.testBit o = true := by
  have key : ∀ s, s < 5 → ∀ o, o < 64 → ((nI s).toInt64.toBitVec.getLsbD o = true ↔ o < 3 ∧ s.testBit o = true) := by decide +kernel
  exact key s hs o ho
/-- the step that is kept for two places -/
def tbl (M : Mem) (o i j s : Nat) : Prop := ∀ k, k < 3 → (bit (vl M (o + 2) (10 * i + j / 20)) (3 * (j % 20) + k) ↔ s.testBit k = true)
section
variable {G : GT} {d : Nat} {M M' : Mem} {o i j s : Nat}
theorem k_keep {Q : Mem → Prop} (O : ObAt 1 M o) (hi : i < 200) (hj : j < 200) (hs : s < 5) (hq : ∀ M', Frl o [] [2] M M' → tbl M' o i j s → (∀ i' j' s', j' < 200 → (i' ≠ i ∨ j' ≠ j) → tbl M o i' j' s' → tbl M' o i' j' s') → Q M') : CV G (d + 1) 17 [.ref o, .int (nI i), .int (nI j), .int (nI s)] M Q := by
  refine c_X1_keep O ?_
  rw [show (10 : Int32) = nI 10 from rfl, show (20 : Int32) = nI 20 from rfl, show (3 : Int32) = nI 3 from rfl, pk_rem (by omega) (by omega) (by omega), pk_div (by omega) (by omega) (by omega), pk_mul, nI_add, pk_mul, nI_clamp (by omega), ob1_k4 O, ob1_l4 O]
  have vc : vp_in (nI (i * 10 + j / 20)) 2000 := v_i (by omega) (by decide)
  refine ⟨by decide, fun z => absurd z (nlt0 _ (by omega)), fun _ => ⟨by decide, fun z => absurd z (by rw [le_I (by omega) (by omega)]; omega), fun _ => ⟨by decide, vc, vc, fun M1 e1 => ?_⟩⟩⟩
  have r2 : j % 20 < 20 := Nat.mod_lt _ (by decide)
  have ev : ∀ c, vl M1 (o + 2) c = if c = i * 10 + j / 20 then ((vl M (o + 2) (i * 10 + j / 20)) &&& (((7 : Int64) <<< ((nI (3 * (j % 20))).toInt64 &&& 63)) ^^^ (-1 : Int64))) ||| ((nI s).toInt64 <<< ((nI (3 * (j % 20))).toInt64 &&& 63)) else vl M (o + 2) c := fun c => by
    rw [e1, vl_setl]
    by_cases y : c = i * 10 + j / 20
    · rw [if_pos ⟨rfl, y⟩, if_pos y]
    · rw [if_neg (fun z => y z.2), if_neg y]
  have nb : ∀ p, p < 64 → (bit (((vl M (o + 2) (i * 10 + j / 20)) &&& (((7 : Int64) <<< ((nI (3 * (j % 20))).toInt64 &&& 63)) ^^^ (-1 : Int64))) ||| ((nI s).toInt64 <<< ((nI (3 * (j % 20))).toInt64 &&& 63))) p ↔ (bit (vl M (o + 2) (i * 10 + j / 20)) p ∧ ¬ (3 * (j % 20) ≤ p ∧ p < 3 * (j % 20) + 3)) ∨ ((3 * (j % 20) ≤ p ∧ p < 3 * (j % 20) + 3) ∧ s.testBit (p - 3 * (j % 20)) = true)) := fun p hp => by
    rw [bit_or, bit_and, bit_msk r2 hp, bit_put hs r2 hp]
  refine hq M1 (by rw [e1]; exact Frl.sl (by decide)) (fun k hk => ?_) (fun i' j' s' hj' ne h' k hk => ?_)
  · rw [ev, if_pos (by omega), nb _ (by omega), show 3 * (j % 20) + k - 3 * (j % 20) = k by omega]
    exact ⟨fun z => z.elim (fun y => absurd ⟨by omega, by omega⟩ y.2) (fun y => y.2), fun z => Or.inr ⟨⟨by omega, by omega⟩, z⟩⟩
  · have h' := h' k hk
    rw [ev]
    by_cases y : 10 * i' + j' / 20 = i * 10 + j / 20
    · have r3 : j' % 20 < 20 := Nat.mod_lt _ (by decide)
      rw [y] at h'
      rw [if_pos y, nb _ (by omega), ← h']
      have out : ¬ (3 * (j % 20) ≤ 3 * (j' % 20) + k ∧ 3 * (j' % 20) + k < 3 * (j % 20) + 3) := by omega
      exact ⟨fun z => z.elim (fun q => q.1) (fun q => absurd q.1 out), fun z => Or.inl ⟨z, out⟩⟩
    · rw [if_neg y]; exact h'
theorem k_kept {Q : Int32 → Mem → Prop} (O : ObAt 1 M o) (hi : i < 200) (hj : j < 200) (hs : s < 5) (ht : tbl M o i j s) (hq : Q (nI s) M) : CI G (d + 1) 18 [.ref o, .int (nI i), .int (nI j)] M Q := by
  refine c_X1_kept O ?_
  rw [show (10 : Int32) = nI 10 from rfl, show (20 : Int32) = nI 20 from rfl, show (3 : Int32) = nI 3 from rfl, pk_rem (by omega) (by omega) (by omega), pk_div (by omega) (by omega) (by omega), pk_mul, nI_add, pk_mul, nI_clamp (by omega), ob1_k4 O, ob1_l4 O]
  have r2 : j % 20 < 20 := Nat.mod_lt _ (by decide)
  have e : ((((vl M (o + 2) (i * 10 + j / 20)).toUInt64 >>> ((nI (3 * (j % 20))).toInt64.toUInt64 &&& Int64.toUInt64 63)).toInt64) &&& (7 : Int64)) = (nI s).toInt64 := by
    refine bit_ext (fun p hp => ?_)
    rw [bit_and, bit_sr (by omega), bit_7 hp, bit_nI hs hp]
    refine ⟨fun z => ⟨z.2, ?_⟩, fun z => ⟨?_, z.1⟩⟩
    · have := (ht p z.2).mp
      rw [show 10 * i = i * 10 by omega] at this
      exact this z.1
    · have := (ht p z.1).mpr z.2
      rw [show 10 * i = i * 10 by omega] at this
      exact this
  have e3 : (nI s).toInt64.toInt32 = nI s := by
    have key : ∀ s, s < 5 → (nI s).toInt64.toInt32 = nI s := by decide +kernel
    exact key s hs
  refine ⟨by decide, fun z => absurd z (nlt0 _ (by omega)), fun _ => ⟨by decide, fun _ => ⟨v_i (by omega) (by decide), by decide, ?_⟩, fun z => absurd (by rw [lt_I (by omega) (by omega)]; omega) z⟩⟩
  rw [e, e3]; exact hq
end
