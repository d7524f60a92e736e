/-! FEWEST: numbers, spec -/
theorem lor_I (a b : Nat) : nI a ||| nI b = nI (a ||| b) := by
  apply Int32.toBitVec_inj.mp
  rw [Int32.toBitVec_or]
  show BitVec.ofNat 32 a ||| BitVec.ofNat 32 b = BitVec.ofNat 32 (a ||| b)
  apply BitVec.eq_of_getLsbD_eq
  intro i hi
  rw [BitVec.getLsbD_or, BitVec.getLsbD_ofNat, BitVec.getLsbD_ofNat, BitVec.getLsbD_ofNat, Nat.testBit_or, decide_eq_true hi]
  rfl
theorem land_I (a b : Nat) : nI a &&& nI b = nI (a &&& b) := by
  apply Int32.toBitVec_inj.mp
  rw [Int32.toBitVec_and]
  show BitVec.ofNat 32 a &&& BitVec.ofNat 32 b = BitVec.ofNat 32 (a &&& b)
  apply BitVec.eq_of_getLsbD_eq
  intro i hi
  rw [BitVec.getLsbD_and, BitVec.getLsbD_ofNat, BitVec.getLsbD_ofNat, BitVec.getLsbD_ofNat, Nat.testBit_and, decide_eq_true hi]
  rfl
theorem shl_I {j : Nat} (h : j < 31) : (1 : Int32) <<< (nI j &&& 31) = nI (2 ^ j) := by
  have key : ∀ j, j < 31 → (1 : Int32) <<< (nI j &&& 31) = nI (2 ^ j) := by decide +kernel
  exact key j h
theorem hasK : ∀ i, i < 12 → ∀ a, a < 64 → ∀ b, b < 64 → ((nI (64 * a + b) >>> (nI i &&& 31)) &&& (1 : Int32)) = if (64 * a + b).testBit i then 1 else 0 := by decide +kernel
theorem has_I {z i : Nat} (hz : z < 4096) (hi : i < 12) : ((nI z >>> (nI i &&& 31)) &&& (1 : Int32)) = if z.testBit i then 1 else 0 := by
  have := hasK i hi (z / 64) (by omega) (z % 64) (by omega)
  rw [show 64 * (z / 64) + z % 64 = z by omega] at this
  exact this
theorem bitK : ∀ a, a < 64 → ∀ b, b < 64 → ¬ 64 * a + b = 0 → pop 12 ((64 * a + b) &&& (64 * a + b - 1)) + 1 = pop 12 (64 * a + b) ∧ (64 * a + b) &&& (64 * a + b - 1) < 64 * a + b := by decide +kernel
theorem bit_k {z : Nat} (hz : z < 4096) (h : ¬ z = 0) : pop 12 (z &&& (z - 1)) + 1 = pop 12 z ∧ z &&& (z - 1) < z := by
  have := bitK (z / 64) (by omega) (z % 64) (by omega)
  rw [show 64 * (z / 64) + z % 64 = z by omega] at this
  exact this h
def ush (a b : Int32) : Int32 := (a.toUInt32 >>> (b.toUInt32 &&& Int32.toUInt32 31)).toInt32
def bc1 (a : Int32) : Int32 := a - (ush a 1 &&& 1431655765)
def bc2 (a : Int32) : Int32 := (a &&& 858993459) + (ush a 2 &&& 858993459)
def bc3 (a : Int32) : Int32 := (a + ush a 4) &&& 252645135
def bc4 (a : Int32) : Int32 := a + ush a 8
def bc5 (a : Int32) : Int32 := a + ush a 16
def bcF (a : Int32) : Int32 := bc5 (bc4 (bc3 (bc2 (bc1 a)))) &&& 63
theorem bcK : ∀ a, a < 64 → ∀ b, b < 64 → bcF (nI (64 * a + b)) = nI (pop 12 (64 * a + b)) := by decide +kernel
theorem bc_I {z : Nat} (hz : z < 4096) : bcF (nI z) = nI (pop 12 z) := by
  have := bcK (z / 64) (by omega) (z % 64) (by omega)
  rw [show 64 * (z / 64) + z % 64 = z by omega] at this
  exact this
section
variable {G : GT} {d : Nat} {M : Mem}
theorem s_has {z i : Nat} {Q : Int32 → Mem → Prop} (hz : z < 4096) (hi : i < 12) (hq : Q (bI (z.testBit i = true)) M) : CI G (d + 1) 156 [.int (nI z), .int (nI i)] M Q := by
  refine r_has ?_
  rw [has_I hz hi]
  by_cases c : z.testBit i = true
  · rw [if_pos c]; exact ⟨fun n => absurd rfl n, fun _ => qT2 hq c⟩
  · rw [if_neg c]; exact ⟨fun _ => qF2 hq c, fun z => absurd z (by decide)⟩
theorem s_bits {z : Nat} {Q : Int32 → Mem → Prop} (hz : z < 4096) (hq : Q (nI (pop 12 z)) M) : CI G (d + 1) 157 [.int (nI z)] M Q := by
  have key : ∀ (f n y : Nat), y ≤ f → y < 4096 → n + pop 12 y = pop 12 z → At G (d + 1) 157 4 [(1, .int (nI n)), (2, .int (nI y))] [] M (qI Q) := by
    intro f
    induction f with
    | zero =>
      intro n y hy _ e
      have hy : y = 0 := by omega
      subst hy
      refine r_bits_4 ⟨fun _ => ?_, fun n => absurd rfl n⟩
      rw [show pop 12 0 = 0 from rfl] at e
      rw [show n = pop 12 z by omega]; exact hq
    | succ f ih =>
      intro n y hy y4 e
      refine r_bits_4 ?_
      rw [il_0, eq_I (by omega) (by omega)]
      refine ⟨fun y0 => ?_, fun y0 => ?_⟩
      · subst y0
        rw [show pop 12 0 = 0 from rfl] at e
        rw [show n = pop 12 z by omega]; exact hq
      · have b := bit_k y4 y0
        rw [show (1 : Int32) = nI 1 from rfl, nI_add, pk_sub (by omega), land_I]
        exact ih (n + 1) _ (by omega) (by omega) (by omega)
  refine r_bits ?_
  exact key z 0 z (Nat.le_refl _) hz (by omega)
theorem j_bitCount {z : Nat} {Q : Int32 → Mem → Prop} (hz : z < 4096) (hq : Q (nI (pop 12 z)) M) : CI G (d + 1) 274 [.int (nI z)] M Q := by
  refine Cl.ofM (Nat.le_of_ble_eq_true rfl) rfl ?_
  refine vcc ok274 0 [] ?_
  refine ⟨fun h => absurd h (by decide), bcF (nI z), rfl, ?_⟩
  rw [bc_I hz]; exact hq
end
