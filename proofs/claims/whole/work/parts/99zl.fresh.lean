/-! THE REFERENCE IS MADE; BOTH HOLD THE FIRST STATE -/
def S0 : ShT := ((0, fun _ => 0), (0, fun _ => 0), (0, (fun _ => 0), (fun _ => 0)), (fun _ => (0, 0, 0, 0, [])), (fun _ => 0))
def T0 : StT := ((0, fun _ => 0), S0, (0, fun _ => ([], [])), fun _ => none)
theorem noM (s : Nat) : ¬ isM S0 s := fun h => Nat.not_lt_zero _ h.1
theorem okS0 : okS S0 :=
  ⟨Nat.zero_le _, fun k h => absurd h (Nat.not_lt_zero _), Nat.zero_le _, fun k h => absurd h (Nat.not_lt_zero _), Nat.zero_le _, fun k h => absurd h (Nat.not_lt_zero _), fun _ => Nat.zero_le _, fun _ _ => rfl, fun s h => absurd h (noM s), fun _ _ => ⟨show 0 ≤ (0 : Int32).toInt by decide, show (0 : Int32).toInt ≤ 99 by decide⟩⟩
theorem okT0 : okT T0 :=
  ⟨Nat.zero_le _, fun k h => absurd h (Nat.not_lt_zero _), okS0, Nat.zero_le _, fun k h => absurd h (Nat.not_lt_zero _), fun i S _ h => by cases h⟩
section
variable {x : Nat} {M M1 M2 : Mem}
theorem rx0 {nf : Nat} (F : frM M) (e1 : M1 = mnew M 13 nf) (e2 : M2 = bld (mN M) l_X12 M1) : RX M2 (mN M) T0 ∧ (∀ b, b < mN M → same M M2 b ∧ mK M2 b = mK M b ∧ mA M2 b = mA M b) ∧ frM M2 ∧ mN M2 = mN M + 46 ∧ mS M2 = mS M + nf + sumN l_X12 := by
  have F1 : frM M1 := by rw [e1]; exact fr_mnew F
  have n1 : mN M1 = mN M + 1 := by rw [e1]; rfl
  have bs : BS (mN M) l_X12 M1 M2 := by rw [e2]; exact bld_spec l_X12 M1 (by omega) F1 nd_X12
  obtain ⟨b1, b2, b3, b4, b5, b6, b7, b8, b9⟩ := bs
  have len : (arrs l_X12).length = 45 := by decide
  rw [len] at b1
  have z : ∀ o, 0 < o → o < 46 → vi M2 (mN M + o) = (fun _ => 0) := fun o h1 h2 => (b5 (mN M + o) (by omega) (by omega)).1
  have f0 : ∀ k, k ∉ l_X12.map (fun e => e.1) → vi M2 (mN M) k = 0 := fun k hk => by rw [(b7 k hk).2, e1, vi_mnew, if_pos rfl]
  refine ⟨⟨⟨?_, fun q hq => ?_⟩, okT0, ⟨⟨?_, ?_, ?_⟩, fun k h => absurd h (Nat.not_lt_zero _), fun k h => absurd h (Nat.not_lt_zero _), fun k h => absurd h (Nat.not_lt_zero _), fun k h => absurd h (Nat.not_lt_zero _), fun k hk => ?_, fun s h => absurd h (noM s)⟩, ⟨?_, fun k h => absurd h (Nat.not_lt_zero _)⟩, ?_, ⟨?_, fun k h => absurd h (Nat.not_lt_zero _)⟩, fun i hi => ⟨fun _ => ?_, fun S h => by cases h⟩⟩, fun b hb => ?_, b9, by omega, ?_⟩
  · rw [b4.1, e1, mK_mnew, if_pos rfl]
  · rw [tb_X12, List.mem_mapIdx] at hq
    obtain ⟨i, hi, hq⟩ := hq
    subst hq
    have z := b6 i (arrs l_X12)[i] (List.getElem?_eq_getElem hi)
    rw [n1, show mN M + 1 + i = mN M + (i + 1) by omega] at z
    exact z
  · show vi M2 (mN M + 1) 0 = 0
    rw [z 1 (by decide) (by decide)]
  · show vi M2 (mN M + 1) 1 = 0
    rw [z 1 (by decide) (by decide)]
  · show vi M2 (mN M + 1) 2 = 0
    rw [z 1 (by decide) (by decide)]
  · show vi M2 (mN M + 6) k = 0
    rw [z 6 (by decide) (by decide)]
  · exact f0 13 (by decide)
  · exact (b8 (22, 1, 7) (List.mem_of_getElem? (i := 12) rfl)).2 rfl
  · exact f0 17 (by decide)
  · rw [z 45 (by decide) (by decide)]
  · have y := b3 b (by omega) (by omega)
    have o1 : vi M1 b = vi M b ∧ vl M1 b = vl M b ∧ vr M1 b = vr M b ∧ mK M1 b = mK M b ∧ mA M1 b = mA M b := by
      have hb2 : b ≠ mN M := by omega
      rw [e1]
      exact ⟨by rw [vi_mnew, if_neg hb2], by rw [vl_mnew, if_neg hb2], by rw [vr_mnew, if_neg hb2], by rw [mK_mnew, if_neg hb2], by rw [mA_mnew, if_neg hb2]⟩
    exact ⟨⟨y.1.1.trans o1.1, y.1.2.1.trans o1.2.1, y.1.2.2.trans o1.2.2.1⟩, y.2.1.trans o1.2.2.2.1, y.2.2.trans o1.2.2.2.2⟩
  · rw [b2, e1, mS_mnew]
def w0 (x a : Nat) : Nat := if x + 55 ≤ a then 1 else if x + 19 ≤ a ∧ a < x + 25 then 40 else 0
theorem xc0 (h : Xn x M) (k : ∀ b, b < mN M → same M M2 b ∧ mK M2 b = mK M b ∧ mA M2 b = mA M b) (F : frM M2) (hN : mN M2 = mN M + 46) : XC (w0 x) M2 x T0 0 := by
  obtain ⟨X, F1, n, lr, t1, ⟨s1, s3, s6⟩, ⟨a7, a8, a9⟩, i12, ⟨x12, x13, x14⟩, e46, e50⟩ := h
  have ob : ∀ {c a : Nat}, ObAt c M a → c < 13 → ObAt c M2 a := fun {c a} h hc => by
    have la := F1.lt (a := a) (by rw [h.1]; omega)
    exact h.keep (fun b hb => (k b (F1.lt hb)).2) (k a la).1.2.2 hc
  have u : ∀ i, i < 55 → same M M2 (x + i) ∧ mK M2 (x + i) = mK M (x + i) ∧ mA M2 (x + i) = mA M (x + i) := fun i hi => k (x + i) (by omega)
  have u0 := u 0 (by decide)
  rw [Nat.add_zero] at u0
  refine ⟨⟨ob X.1 (by decide), ob X.2.1 (by decide), ob X.2.2.1 (by decide), ob X.2.2.2.1 (by decide), (u 18 (by decide)).2.1.trans X.2.2.2.2.1, ob X.2.2.2.2.2.1 (by decide), ob X.2.2.2.2.2.2.1 (by decide), ob X.2.2.2.2.2.2.2.1 (by decide), ob X.2.2.2.2.2.2.2.2.1 (by decide), ob X.2.2.2.2.2.2.2.2.2 (by decide)⟩, F, okT0, ⟨fun i hi h2 => ?_, fun i hi => ?_⟩, by omega, ⟨?_, fun k h => absurd h (Nat.not_lt_zero _)⟩, ⟨⟨?_, ?_, ?_⟩, fun k h => absurd h (Nat.not_lt_zero _), fun k h => absurd h (Nat.not_lt_zero _), fun k h => absurd h (Nat.not_lt_zero _), fun h hh => ?_, fun s hs => ⟨fun h => absurd h (noM s), fun _ => ?_⟩, fun k hk => ?_, fun s h => absurd h (noM s), fun s h => absurd h (noM s)⟩, ?_, ⟨by decide, ?_⟩, ⟨⟨x + 19, ⟨?_, ?_, ob lr.2.2.1 (by decide), ?_, ob lr.2.2.2.2 (by decide)⟩, fun i hi => ?_⟩, fun l h => absurd h (Nat.not_lt_zero _), fun l h => absurd h (Nat.not_lt_zero _), fun i hi => ⟨fun _ => ?_, fun S h => by cases h⟩⟩, ⟨?_, fun h => ?_⟩, ⟨?_, fun h => ?_⟩, ⟨?_, fun h => ?_⟩⟩
  · unfold w0; rw [if_neg (by omega), if_neg (by omega)]
  · unfold w0; rw [if_pos (by omega)]
  · rw [(u 1 (by decide)).1.1]; exact t1
  · rw [(u 3 (by decide)).1.1]; exact s1
  · rw [(u 3 (by decide)).1.1]; exact s3
  · rw [(u 3 (by decide)).1.1]; exact s6
  · show vi M2 (x + 7) h = 0
    rw [(u 7 (by decide)).1.1, a7]
  · show vr M2 (x + 8) s = none
    rw [(u 8 (by decide)).1.2.2, a8]
  · show vi M2 (x + 9) k = 0
    rw [(u 9 (by decide)).1.1, a9]
  · rw [u0.1.1]; exact x12
  · rw [u0.1.1]; exact x13
  · exact (u 18 (by decide)).2.1.trans lr.1
  · rw [(u 18 (by decide)).1.2.2]; exact lr.2.1
  · rw [(u 18 (by decide)).1.2.2]; exact lr.2.2.2.1
  · unfold w0; rw [if_neg (by omega), if_pos (by omega)]
  · rw [(u 12 (by decide)).1.2.2, i12]
  · rw [(u 46 (by decide)).1.1, e46]; decide
  · rw [(u 46 (by decide)).1.1, e46] at h; exact absurd h (by decide)
  · rw [(u 50 (by decide)).1.1, e50]; decide
  · rw [(u 50 (by decide)).1.1, e50] at h; exact absurd h (by decide)
  · rw [u0.1.1, x14]; decide
  · rw [u0.1.1, x14] at h; exact absurd h (by decide)
end
