/-! IMAGES: the reference -/
def rOfE (o : Nat) : Nat := if o = 13 then 2018 else rOff o
theorem rOfE_s : ∀ o, o < 13 → 0 < o → rOfE (o + 1) = rOfE o + rLen o := by decide
theorem rOfE_le : ∀ o, o < 14 → rOfE o ≤ 2018 := by decide
theorem rLen_pos : ∀ o, o < 13 → rLen o ≤ 1280 := by decide
theorem rOff_in : ∀ o, o < 13 → 0 < o → rOff o + rLen o ≤ 2018 := by decide
theorem rOfE_e : ∀ o, o < 13 → rOfE o = rOff o := by decide
theorem rOff_mono : ∀ o q, o < 14 → q < o → 0 < q → rOff q + rLen q ≤ rOfE o := by
  have key : ∀ o, o < 14 → ∀ q, q < o → 0 < q → rOff q + rLen q ≤ rOfE o := by decide
  exact fun o q h => key o h q
theorem ra_arr {M : Mem} {m : Nat} (R : RefAt M m) {o : Nat} (h1 : o < 13) (h0 : 0 < o) : mK M (m + o) = 15 ∧ mA M (m + o) = rLen o := by
  have h : o = 1 ∨ o = 2 ∨ o = 3 ∨ o = 4 ∨ o = 5 ∨ o = 6 ∨ o = 7 ∨ o = 8 ∨ o = 9 ∨ o = 10 ∨ o = 11 ∨ o = 12 := by omega
  rcases h with rfl | rfl | rfl | rfl | rfl | rfl | rfl | rfl | rfl | rfl | rfl | rfl
  · exact ⟨ra_k1 R, ra_l1 R⟩
  · exact ⟨ra_k2 R, ra_l2 R⟩
  · exact ⟨ra_k3 R, ra_l3 R⟩
  · exact ⟨ra_k4 R, ra_l4 R⟩
  · exact ⟨ra_k5 R, ra_l5 R⟩
  · exact ⟨ra_k6 R, ra_l6 R⟩
  · exact ⟨ra_k7 R, ra_l7 R⟩
  · exact ⟨ra_k8 R, ra_l8 R⟩
  · exact ⟨ra_k9 R, ra_l9 R⟩
  · exact ⟨ra_k10 R, ra_l10 R⟩
  · exact ⟨ra_k11 R, ra_l11 R⟩
  · exact ⟨ra_k12 R, ra_l12 R⟩
section
variable {G : GT} {d : Nat} {M M0 : Mem} {m : Nat} {T : StT}
def cOut (M0 M : Mem) (m i o : Nat) : Prop :=
  Frl m [66, 67] [44] M0 M ∧ vi M m 66 = nI (2100 * i + rOfE o) ∧ vi M m 67 = 0 ∧ (∀ q, 0 < q → q < o → ∀ k, k < rLen q → vi M (m + 44) (2100 * i + rOff q + k) = vi M0 (m + q) k) ∧ ∀ j, (j < 2100 * i ∨ 2100 * (i + 1) ≤ j) → vi M (m + 44) j = vi M0 (m + 44) j
theorem s_carryOut {i o : Nat} {Q : Mem → Prop} (R : RefAt M0 m) (hi : i < 4) (ho : o < 13) (h0 : 0 < o) (h : cOut M0 M m i o) (hq : ∀ M', cOut M0 M' m i (o + 1) → RefAt M' m → Q M') : CV G (d + 1) 268 [.ref m, .ref (m + o)] M Q := by
  have ar := ra_arr R ho h0
  have le := rOff_in o ho h0
  have es := rOfE_s o ho h0
  have ee := rOfE_e o ho
  refine r_carry (h.1.ra R) ?_
  have key : ∀ (n k : Nat) (M1 : Mem), n + k = rLen o → Frl m [66, 67] [44] M0 M1 → vi M1 m 66 = nI (2100 * i + rOff o + k) → vi M1 m 67 = 0 → (∀ q, 0 < q → q < o → ∀ k, k < rLen q → vi M1 (m + 44) (2100 * i + rOff q + k) = vi M0 (m + q) k) → (∀ j, j < k → vi M1 (m + 44) (2100 * i + rOff o + j) = vi M0 (m + o) j) →
      (∀ j, (j < 2100 * i ∨ 2100 * (i + 1) ≤ j) → vi M1 (m + 44) j = vi M0 (m + 44) j) → At G (d + 1) 268 2 [(0, .ref m), (1, .ref (m + o)), (2, .int (nI k))] [] M1 (qV Q) := by
    intro n
    induction n with
    | zero => 
      intro k M1 h1 f h2 h3 h4 h5 h6
      refine r_carry_2 (f.ra R) ?_
      rw [f.2.2.1, f.2.2.2.1, ar.1, ar.2]
      refine ⟨by decide, fun _ => hq M1 ⟨f, ?_, h3, fun q q0 q1 k hk => ?_, h6⟩ (f.ra R), fun c => absurd (nI_le (by omega) (by omega)) c⟩
      · rw [h2]; congr 1; omega
      · rcases Nat.lt_or_ge q o with z | z
        · exact h4 q q0 z k hk
        · have e : q = o := by omega
          subst e
          exact h5 k (by omega)
    | succ n ih => 
      intro k M1 h1 f h2 h3 h4 h5 h6
      refine r_carry_2 (f.ra R) ?_
      rw [f.2.2.1, f.2.2.2.1, ar.1, ar.2, h2, h3]
      refine ⟨by decide, fun c => absurd c (nI_ge (by omega) (by omega)), fun _ => ⟨fun _ => ⟨rfl, vp_in_nI (by omega) (by omega), vp_in_nI (by omega) (by omega), ?_⟩, fun c => absurd rfl c⟩⟩
      rw [nI_clamp (by omega), nI_clamp (by omega), f.i (by simp; omega) h0, nI_1 k]
      intro M2 e2 M3 e3
      have r : vi M2 m 66 = nI (2100 * i + rOff o + k) := by rw [e2, vi_seti, if_neg (by omega)]; exact h2
      rw [r, nI_1] at e3
      have rd : ∀ j, vi M3 (m + 44) j = if j = 2100 * i + rOff o + k then vi M0 (m + o) k else vi M1 (m + 44) j := fun j => by
        rw [e3, vi_seti, if_neg (by omega), e2, vi_seti]
        by_cases z : j = 2100 * i + rOff o + k
        · rw [if_pos ⟨rfl, z⟩, if_pos z]
        · rw [if_neg (fun y => z y.2), if_neg z]
      refine ih (k + 1) M3 (by omega) ?_ ?_ ?_ (fun q q0 q1 j hj => ?_) (fun j hj => ?_) (fun j hj => ?_)
      · rw [e3, e2]; exact f.trans ((Frl.si (o := 44) (by decide)).trans (Frl.sf (by decide)))
      · rw [e3, vi_seti, if_pos ⟨rfl, rfl⟩]; congr 1
      · rw [e3, vi_seti, if_neg (by omega), e2, vi_seti, if_neg (by omega)]; exact h3
      · have := rOff_mono o q (by omega) q1 q0
        rw [rd, if_neg (by omega)]; exact h4 q q0 q1 j hj
      · rw [rd]
        by_cases z : j = k
        · rw [if_pos (by omega), z]
        · rw [if_neg (by omega)]; exact h5 j (by omega)
      · rw [rd, if_neg (by omega)]; exact h6 j hj
  refine key (rLen o) 0 M (by omega) h.1 ?_ h.2.2.1 h.2.2.2.1 (fun j hj => absurd hj (by omega)) h.2.2.2.2
  rw [h.2.1]; congr 1; omega
def cInn (M0 M : Mem) (m i o : Nat) : Prop :=
  Frl m [66, 67] [1, 2, 3, 4, 5, 6, 7, 8, 9, 10, 11, 12] M0 M ∧ vi M m 66 = nI (2100 * i + rOfE o) ∧ vi M m 67 = 1 ∧ (∀ q, 0 < q → q < o → ∀ k, k < rLen q → vi M (m + q) k = vi M0 (m + 44) (2100 * i + rOff q + k))
theorem s_carryInn {i o : Nat} {Q : Mem → Prop} (R : RefAt M0 m) (hi : i < 4) (ho : o < 13) (h0 : 0 < o) (h : cInn M0 M m i o) (hq : ∀ M', cInn M0 M' m i (o + 1) → RefAt M' m → Q M') : CV G (d + 1) 268 [.ref m, .ref (m + o)] M Q := by
  have ar := ra_arr R ho h0
  have le := rOff_in o ho h0
  have es := rOfE_s o ho h0
  have ee := rOfE_e o ho
  have mem : o ∈ [1, 2, 3, 4, 5, 6, 7, 8, 9, 10, 11, 12] := by
    have key : ∀ o, o < 13 → 0 < o → o ∈ [1, 2, 3, 4, 5, 6, 7, 8, 9, 10, 11, 12] := by decide
    exact key o ho h0
  refine r_carry (h.1.ra R) ?_
  have key : ∀ (n k : Nat) (M1 : Mem), n + k = rLen o → Frl m [66, 67] [1, 2, 3, 4, 5, 6, 7, 8, 9, 10, 11, 12] M0 M1 → vi M1 m 66 = nI (2100 * i + rOff o + k) → vi M1 m 67 = 1 → (∀ q, 0 < q → q < o → ∀ k, k < rLen q → vi M1 (m + q) k = vi M0 (m + 44) (2100 * i + rOff q + k)) → (∀ j, j < k → vi M1 (m + o) j = vi M0 (m + 44) (2100 * i + rOff o + j)) →
      At G (d + 1) 268 2 [(0, .ref m), (1, .ref (m + o)), (2, .int (nI k))] [] M1 (qV Q) := by
    intro n
    induction n with
    | zero => 
      intro k M1 h1 f h2 h3 h4 h5
      refine r_carry_2 (f.ra R) ?_
      rw [f.2.2.1, f.2.2.2.1, ar.1, ar.2]
      refine ⟨by decide, fun _ => hq M1 ⟨f, ?_, h3, fun q q0 q1 k hk => ?_⟩ (f.ra R), fun c => absurd (nI_le (by omega) (by omega)) c⟩
      · rw [h2]; congr 1; omega
      · rcases Nat.lt_or_ge q o with z | z
        · exact h4 q q0 z k hk
        · have e : q = o := by omega
          subst e
          exact h5 k (by omega)
    | succ n ih => 
      intro k M1 h1 f h2 h3 h4 h5
      refine r_carry_2 (f.ra R) ?_
      rw [f.2.2.1, f.2.2.2.1, ar.1, ar.2, h2, h3]
      refine ⟨by decide, fun c => absurd c (nI_ge (by omega) (by omega)), fun _ => ⟨fun c => absurd c (by decide), fun _ => ⟨vp_in_nI (by omega) (by omega), rfl, vp_in_nI (by omega) (by omega), ?_⟩⟩⟩
      rw [nI_clamp (by omega), nI_clamp (by omega), f.i (by decide) (by decide), nI_1 k]
      intro M2 e2 M3 e3
      have r : vi M2 m 66 = nI (2100 * i + rOff o + k) := by rw [e2, vi_seti, if_neg (by omega)]; exact h2
      rw [r, nI_1] at e3
      have rd : ∀ q j, 0 < q → vi M3 (m + q) j = if q = o ∧ j = k then vi M0 (m + 44) (2100 * i + rOff o + k) else vi M1 (m + q) j := fun q j q0 => by
        rw [e3, vi_seti, if_neg (by omega), e2, vi_seti]
        by_cases z : q = o ∧ j = k
        · rw [if_pos ⟨by omega, z.2⟩, if_pos z]
        · rw [if_neg (fun y => z ⟨by omega, y.2⟩), if_neg z]
      refine ih (k + 1) M3 (by omega) ?_ ?_ ?_ (fun q q0 q1 j hj => ?_) (fun j hj => ?_)
      · rw [e3, e2]; exact f.trans ((Frl.si mem).trans (Frl.sf (by decide)))
      · rw [e3, vi_seti, if_pos ⟨rfl, rfl⟩]; congr 1
      · rw [e3, vi_seti, if_neg (by omega), e2, vi_seti, if_neg (by omega)]; exact h3
      · rw [rd q j q0, if_neg (by omega)]; exact h4 q q0 q1 j hj
      · rw [rd o j h0]
        by_cases z : j = k
        · rw [if_pos ⟨rfl, z⟩, z]
        · rw [if_neg (fun y => z y.2)]; exact h5 j (by omega)
  refine key (rLen o) 0 M (by omega) h.1 ?_ h.2.2.1 h.2.2.2 (fun j hj => absurd hj (by omega))
  rw [h.2.1]; congr 1; omega
theorem s_allOut {i : Nat} {Q : Mem → Prop} (R : RefAt M m) (hi : i < 4) (hq : ∀ M', cOut M M' m i 13 → Q M') : CV G (d + 2) 269 [.ref m, .int (nI i), .int 0] M Q := by
  refine r_carriesAll R ?_
  rw [show (2100 : Int32) = nI 2100 from rfl, pk_mul]
  intro M1 e1
  refine ⟨Or.inl rfl, ?_⟩
  intro M2 e2
  have c1 : cOut M M2 m i 1 := by
    refine ⟨?_, ?_, ?_, fun q q0 q1 => absurd q1 (by omega), fun j _ => ?_⟩
    · rw [e2, e1]; exact (Frl.sf (by decide)).trans (Frl.sf (by decide))
    · rw [e2, vi_seti, if_neg (by omega), e1, vi_seti, if_pos ⟨rfl, rfl⟩]; rfl
    · rw [e2, vi_seti, if_pos ⟨rfl, rfl⟩]
    · rw [e2, vi_seti, if_neg (by omega), e1, vi_seti, if_neg (by omega)]
  refine s_carryOut R hi (o := 1) (by decide) (by decide) c1 (fun M3 c2 R3 => ⟨R3, ?_⟩)
  refine s_carryOut R hi (o := 2) (by decide) (by decide) c2 (fun M4 c3 R4 => ⟨R4, ?_⟩)
  refine s_carryOut R hi (o := 3) (by decide) (by decide) c3 (fun M5 c4 R5 => ⟨R5, ?_⟩)
  refine s_carryOut R hi (o := 4) (by decide) (by decide) c4 (fun M6 c5 R6 => ⟨R6, ?_⟩)
  refine s_carryOut R hi (o := 5) (by decide) (by decide) c5 (fun M7 c6 R7 => ⟨R7, ?_⟩)
  refine s_carryOut R hi (o := 6) (by decide) (by decide) c6 (fun M8 c7 R8 => ⟨R8, ?_⟩)
  refine s_carryOut R hi (o := 7) (by decide) (by decide) c7 (fun M9 c8 R9 => ⟨R9, ?_⟩)
  refine s_carryOut R hi (o := 8) (by decide) (by decide) c8 (fun M10 c9 R10 => ⟨R10, ?_⟩)
  refine s_carryOut R hi (o := 9) (by decide) (by decide) c9 (fun M11 c10 R11 => ⟨R11, ?_⟩)
  refine s_carryOut R hi (o := 10) (by decide) (by decide) c10 (fun M12 c11 R12 => ⟨R12, ?_⟩)
  refine s_carryOut R hi (o := 11) (by decide) (by decide) c11 (fun M13 c12 R13 => ⟨R13, ?_⟩)
  exact s_carryOut R hi (o := 12) (by decide) (by decide) c12 (fun M14 c13 R14 => ⟨R14, hq M14 c13⟩)
theorem s_allInn {i : Nat} {Q : Mem → Prop} (R : RefAt M m) (hi : i < 4) (hq : ∀ M', cInn M M' m i 13 → Q M') : CV G (d + 2) 269 [.ref m, .int (nI i), .int 1] M Q := by
  refine r_carriesAll R ?_
  rw [show (2100 : Int32) = nI 2100 from rfl, pk_mul]
  intro M1 e1
  refine ⟨Or.inr rfl, ?_⟩
  intro M2 e2
  have c1 : cInn M M2 m i 1 := by
    refine ⟨?_, ?_, ?_, fun q q0 q1 => absurd q1 (by omega)⟩
    · rw [e2, e1]; exact (Frl.sf (by decide)).trans (Frl.sf (by decide))
    · rw [e2, vi_seti, if_neg (by omega), e1, vi_seti, if_pos ⟨rfl, rfl⟩]; rfl
    · rw [e2, vi_seti, if_pos ⟨rfl, rfl⟩]
  refine s_carryInn R hi (o := 1) (by decide) (by decide) c1 (fun M3 c2 R3 => ⟨R3, ?_⟩)
  refine s_carryInn R hi (o := 2) (by decide) (by decide) c2 (fun M4 c3 R4 => ⟨R4, ?_⟩)
  refine s_carryInn R hi (o := 3) (by decide) (by decide) c3 (fun M5 c4 R5 => ⟨R5, ?_⟩)
  refine s_carryInn R hi (o := 4) (by decide) (by decide) c4 (fun M6 c5 R6 => ⟨R6, ?_⟩)
  refine s_carryInn R hi (o := 5) (by decide) (by decide) c5 (fun M7 c6 R7 => ⟨R7, ?_⟩)
  refine s_carryInn R hi (o := 6) (by decide) (by decide) c6 (fun M8 c7 R8 => ⟨R8, ?_⟩)
  refine s_carryInn R hi (o := 7) (by decide) (by decide) c7 (fun M9 c8 R9 => ⟨R9, ?_⟩)
  refine s_carryInn R hi (o := 8) (by decide) (by decide) c8 (fun M10 c9 R10 => ⟨R10, ?_⟩)
  refine s_carryInn R hi (o := 9) (by decide) (by decide) c9 (fun M11 c10 R11 => ⟨R11, ?_⟩)
  refine s_carryInn R hi (o := 10) (by decide) (by decide) c10 (fun M12 c11 R12 => ⟨R12, ?_⟩)
  refine s_carryInn R hi (o := 11) (by decide) (by decide) c11 (fun M13 c12 R13 => ⟨R13, ?_⟩)
  exact s_carryInn R hi (o := 12) (by decide) (by decide) c12 (fun M14 c13 R14 => ⟨R14, hq M14 c13⟩)
def iOk (k : Int32) : Prop := 0 ≤ k.toInt ∧ k.toInt < 4
def v_image (T : StT) (k : Nat) : StT := (T.1, T.2.1, T.2.2.1, fun i => if i = k then some (sh T) else iM T i)
noncomputable def u_image (T : StT) (k : Int32) : StT := cif (iOk k) (v_image T k.toNatClampNeg) T
noncomputable def f_image (T : StT) (k : Int32) : Int32 := cif (iOk k) (nI (gN (sh T))) (-1)
theorem v_image_ok {k : Nat} (h : okT T) : okT (v_image T k) := by
  refine ⟨h.1, h.2.1, h.2.2.1, h.2.2.2.1, h.2.2.2.2.1, fun i S hi hS => ?_⟩
  have hS2 : (if i = k then some (sh T) else iM T i) = some S := hS
  by_cases z : i = k
  · rw [if_pos z] at hS2; cases hS2; exact h.2.2.1
  · rw [if_neg z] at hS2; exact h.2.2.2.2.2 i S hi hS2
theorem m_image {k : Int32} {Q : Int32 → Mem → Prop} (W : RX M m T) (hq : ∀ M', RX M' m (u_image T k) → Ou m M M' → Q (f_image T k) M') : CI G (d + 3) 270 [.ref m, .int k] M Q := by
  unfold u_image f_image at hq
  refine r_image W.1 (s_in (iOk k) ?_ ⟨W.1, bnz (fun c => ?_) (fun c => by rw [cif_F c, cif_F c] at hq; exact hq M W Ou.refl)⟩)
  · rw [Int32.toInt_toInt64, ll_0, ll_3]; unfold iOk; omega
  · rw [cif_T c, cif_T c] at hq
    obtain ⟨i, hi, e⟩ := asN (N := 4) c.1 c.2
    subst e
    rw [nI_clamp (by omega)] at hq ⊢
    refine ⟨vp_in_nI hi (by omega), ?_⟩
    intro M3 e3
    have f3 : Frl m [66, 67] [44, 45] M M3 := by rw [e3]; exact Frl.si (o := 45) (by decide)
    refine s_allOut (f3.ra W.1) hi (fun M4 c4 => ?_)
    have f4 : Frl m [66, 67] [44, 45] M M4 := f3.trans (c4.1.sub (by decide) (by decide))
    refine ⟨f4.ra W.1, v03, ?_⟩
    have V := W.rs.2.1
    rw [show (0 : Int32).toNatClampNeg = 0 from rfl, f4.i (by decide) (by decide), W.rs.2.2.g]
    refine hq M4 ?_ (f4.ou (by decide))
    have e0 : ∀ o, o < 20 → 0 < o → ∀ k, vi M4 (m + o) k = vi M (m + o) k := fun o h1 h2 k => f4.i (by simp; omega) h2 k
    refine ⟨f4.ra W.1, v_image_ok W.2.1, W.2.2.1.fr V f4 (fun o ho => by simp; omega), ⟨?_, fun k hk => ?_⟩, ?_, ⟨?_, fun l hl => ?_⟩, fun j hj => ?_⟩
    · rw [f4.f (by decide) (by decide)]; exact W.t
    · rw [e0 13 (by decide) (by decide)]; exact W.tb hk
    · rw [f4.f (by decide) (by decide)]; exact W.2.2.2.2.1
    · rw [f4.f (by decide) (by decide)]; exact W.q
    · have q := W.2.2.2.2.2.1.2 l hl
      unfold rLaw at q ⊢
      refine ⟨fun k hk => ?_, ?_, fun i hi => ?_⟩
      · rw [e0 14 (by decide) (by decide), e0 15 (by decide) (by decide)]; exact q.1 k hk
      · rw [e0 16 (by decide) (by decide)]; exact q.2.1
      · rw [e0 17 (by decide) (by decide), e0 18 (by decide) (by decide), e0 19 (by decide) (by decide)]; exact q.2.2 i hi
    · have e45 : vi M4 (m + 45) j = if j = i then 1 else vi M (m + 45) j := by
        rw [c4.1.i (by decide) (by decide), e3, vi_seti]
        by_cases z : j = i
        · rw [if_pos ⟨rfl, z⟩, if_pos z]; rfl
        · rw [if_neg (fun y => z y.2), if_neg z]
      show ((if j = i then some (sh T) else iM T j) = none → vi M4 (m + 45) j = 0) ∧ ∀ S, (if j = i then some (sh T) else iM T j) = some S → vi M4 (m + 45) j = 1 ∧ rImg M4 m j S
      rw [e45]
      by_cases z : j = i
      · rw [if_pos z, if_pos z]
        refine ⟨fun y => (by cases y), fun S hS => ?_⟩
        cases hS
        refine ⟨rfl, ?_⟩
        subst z
        refine rShF.eq W.2.2.1 V (fun o h1 h2 k hk => ?_)
        rw [c4.2.2.2.1 o h2 (by omega) k hk, f3.i (by simp; omega) h2]
      · rw [if_neg z, if_neg z]
        have q := W.2.2.2.2.2.2 j hj
        refine ⟨q.1, fun S hS => ⟨(q.2 S hS).1, ?_⟩⟩
        refine rShF.eq (q.2 S hS).2 (W.2.1.2.2.2.2.2 j S hj hS) (fun o h1 h2 k hk => ?_)
        have := rOff_in o h1 h2
        rw [c4.2.2.2.2 _ (by omega), e3, vi_seti, if_neg (by omega)]
def v_back (T : StT) (S : ShT) : StT := (T.1, S, T.2.2)
noncomputable def u_back (T : StT) (k : Int32) : StT := cif (iOk k) (match iM T k.toNatClampNeg with | none => T | some S => v_back T S) T
noncomputable def f_back (T : StT) (k : Int32) : Int32 := cif (iOk k) (match iM T k.toNatClampNeg with | none => -1 | some S => nI (gN S)) (-1)
theorem m_back {k : Int32} {Q : Int32 → Mem → Prop} (W : RX M m T) (hq : ∀ M', RX M' m (u_back T k) → Ou m M M' → Q (f_back T k) M') : CI G (d + 3) 271 [.ref m, .int k] M Q := by
  unfold u_back f_back at hq
  refine r_back W.1 (s_in (iOk k) ?_ ⟨W.1, bz (fun c => ?_) (fun c => by rw [cif_F c, cif_F c] at hq; exact hq M W Ou.refl)⟩)
  · rw [Int32.toInt_toInt64, ll_0, ll_3]; unfold iOk; omega
  · rw [cif_T c, cif_T c] at hq
    obtain ⟨i, hi, e⟩ := asN (N := 4) c.1 c.2
    subst e
    rw [nI_clamp (by omega)] at hq ⊢
    have q := W.2.2.2.2.2.2 i hi
    refine ⟨vp_in_nI hi (by omega), fun c2 => ?_, fun c2 => ?_⟩
    · cases hS : iM T i with
      | none => exact absurd (q.1 hS) c2
      | some S => 
        rw [hS] at hq
        have z := q.2 S hS
        have V := W.2.1.2.2.2.2.2 i S hi hS
        refine s_allInn W.1 hi (fun M4 c4 => ⟨c4.1.ra W.1, v03, ?_⟩)
        have f4 := c4.1
        have r4 : rSh M4 m S := by
          refine rShF.eq z.2 V (fun o h1 h2 k hk => ?_)
          exact c4.2.2.2 o h2 (by omega) k hk
        rw [show (0 : Int32).toNatClampNeg = 0 from rfl, r4.g]
        refine hq M4 ?_ (f4.ou (by decide))
        refine W.upd f4 (fun o ho => by simp <;> omega) ⟨by decide, by decide⟩ rfl V r4 W.t4 (fun k hk => W.tk hk) ?_ (fun k hk => ?_)
        · rw [f4.f (by decide) (by decide)]; exact W.t
        · rw [f4.i (by decide) (by decide)]; exact W.tb hk
    · cases hS : iM T i with
      | none => 
        rw [hS] at hq
        exact hq M W Ou.refl
      | some S => 
        have z := (q.2 S hS).1
        rw [z] at c2
        exact absurd c2 (by decide)
end
