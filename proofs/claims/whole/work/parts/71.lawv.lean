/-! READING LAWS: the reference's values and sums -/
section
variable {G : GT} {d : Nat} {M M' : Mem} {m s p n f : Nat} {T : StT} {cd : List Nat}
theorem s_entry {c : Nat} {a b : Int32} {Q : Mem → Prop} (h : LwA M m T s p cd n f) (ea : f = 0 → a = nI (rSort c) ∧ b = nI (rNum c)) (hb : f = 0 → 3 * (cd.length + 1) ≤ 6 * n + p) (hq : ∀ M' cd', FrW m s M M' → LwA M' m T s p cd' n f → (f = 0 → cd' = cd ++ [c]) → Q M') : CV G (d + 1) 179 [.ref m, .int a, .int b] M Q := by
  have t4 : T.1.1 ≤ 400 := h.x.t4
  have p4 := h.p4
  have f4 := h.f4
  have s4 := h.2.2.1
  refine r_entry h.1.1 ?_
  rw [h.ff, il_0, eq_I (by omega) (by omega)]
  refine ⟨fun z => hq M cd FrW.refl h (fun y => absurd y z), fun z => ?_⟩
  have h0 := z
  have hb1 := h.b z
  have hb2 := hb z
  have ix : (300 : Int32) * nI s + nI cd.length = nI (300 * s + cd.length) := by rw [show (300 : Int32) = nI 300 from rfl, pk_mul, nI_add]
  rw [h.2.2.2.2.2.1, h.2.2.2.2.2.2.1, ix]
  have v : vp_in (nI (300 * s + cd.length)) 1200 := vp_in_nI (by omega) (by omega)
  refine ⟨v, fun M1 e1 => ?_⟩
  have a16 : vi M1 m 16 = nI s := by rw [e1, vi_seti, if_neg (by omega)]; exact h.2.2.2.2.2.1
  have a18 : vi M1 m 18 = nI cd.length := by rw [e1, vi_seti, if_neg (by omega)]; exact h.2.2.2.2.2.2.1
  rw [a16, a18, ix, nI_clamp (by omega)]
  rw [nI_clamp (by omega)] at e1
  refine ⟨v, fun M2 e2 M3 e3 => ?_⟩
  have b18 : vi M2 m 18 = nI cd.length := by rw [e2, vi_seti, if_neg (by omega)]; exact a18
  rw [b18, nI_1] at e3
  have g : FrW m s M M3 := by
    refine ⟨?_, fun j hj => ⟨?_, ?_⟩⟩
    · rw [e3, e2, e1]
      exact ((Frl.si (b := m) (o := 14) (by decide)).trans (Frl.si (o := 15) (by decide))).trans (Frl.sf (by decide))
    · rw [e3, vi_seti, if_neg (by omega), e2, vi_seti, if_neg (by omega), e1, vi_seti, if_neg (by omega)]
    · rw [e3, vi_seti, if_neg (by omega), e2, vi_seti, if_neg (by omega), e1, vi_seti, if_neg (by omega)]
  have fl : ∀ k, k ≠ 18 → vi M3 m k = vi M m k := fun k hk => by rw [e3, vi_seti, if_neg (by omega), e2, vi_seti, if_neg (by omega), e1, vi_seti, if_neg (by omega)]
  have el : (cd ++ [c]).length = cd.length + 1 := by rw [List.length_append]; rfl
  refine hq M3 (cd ++ [c]) g ⟨h.1.lawF g.t h.2.1, h.2.1, s4, by rw [fl 14 (by decide)]; exact h.pp, by rw [fl 15 (by decide)]; exact h.ff, by rw [fl 16 (by decide)]; exact h.2.2.2.2.2.1, by rw [e3, vi_seti, if_pos ⟨rfl, rfl⟩, el], by rw [fl 20 (by decide)]; exact h.cc, p4, f4, fun _ => ⟨hb1.1, by rw [el]; exact hb2⟩, fun k hk => ?_⟩ (fun _ => rfl)
  rw [el] at hk
  rw [e3, vi_seti, if_neg (by omega), vi_seti, if_neg (by omega), e2, vi_seti, if_neg (by omega), vi_seti, e1, vi_seti, vi_seti, if_neg (show ¬ (m + 15 = m + 14 ∧ 300 * s + k = 300 * s + cd.length) by omega)]
  by_cases z : k = cd.length
  · rw [if_pos ⟨rfl, by rw [z]⟩, if_pos ⟨rfl, by rw [z]⟩, z, gA_r]; exact ea h0
  · rw [if_neg (fun y => z (by omega)), if_neg (fun y => z (by omega)), gA_l (by omega)]
    exact h.2.2.2.2.2.2.2.2.2.2.2 k (by omega)
theorem s_isCounted {q : Nat} {Q : Mem → Prop} (h : LwA M m T s p cd n f) (q4 : q < 1000) (hq : ∀ M' f', FrW m s M M' → LwA M' m T s p cd (n + 1) f' → (¬ f = 0 → f' = f) → (f = 0 → f' = if n = 60 then flt q 3 else 0) → Q M') : CV G (d + 2) 180 [.ref m, .int (nI q)] M Q := by
  have f4 := h.f4
  refine r_isCounted h.1.1 ⟨fun c M1 e1 => ?_, fun c => ?_⟩
  · rw [h.cc, nI_1] at e1
    rw [h.cc] at c
    have g : Frl m [20] [] M M1 := by rw [e1]; exact Frl.sf (by decide)
    have n6 : f = 0 → n < 60 := fun z => by
      have := (h.b z).1
      rcases Nat.lt_or_ge n 60 with y | y
      · exact y
      · exact absurd (by rw [show n = 60 by omega]; rfl) c
    refine hq M1 f (FrW.ofF g (by decide)) (h.up g (by decide) (by rw [g.f (by decide) (by decide)]; exact h.pp) (by rw [g.f (by decide) (by decide)]; exact h.ff) (by rw [e1, vi_seti, if_pos ⟨rfl, rfl⟩]) h.p4 f4 (fun z => by have := h.b z; have := n6 z; omega)) (fun _ => rfl) (fun z => ?_)
    have := n6 z
    rw [if_neg (by omega)]; exact z
  · rw [h.cc] at c
    refine s_fails (c := 3) h.1.1 h.ff f4 q4 (by omega) (fun M2 g2 h2 => ⟨g2.ra h.1.1, fun M3 e3 => ?_⟩)
    have c2 : vi M2 m 20 = nI n := by rw [g2.f (by decide) (by decide)]; exact h.cc
    rw [c2, nI_1] at e3
    have g3 : Frl m [20] [] M2 M3 := by rw [e3]; exact Frl.sf (by decide)
    have g : Frl m [15, 20] [] M M3 := (g2.sub (by decide) (by decide)).trans (g3.sub (by decide) (by decide))
    have fl := flt_lt (p := q) (c := 3) (by omega) (by omega)
    have fn : ¬ (if f = 0 then flt q 3 else f) = 0 := by
      by_cases z : f = 0
      · rw [if_pos z]; exact flt_ne _ _
      · rw [if_neg z]; exact z
    refine hq M3 (if f = 0 then flt q 3 else f) (FrW.ofF g (by decide)) (h.up g (by decide) (by rw [g.f (by decide) (by decide)]; exact h.pp) (by rw [g3.f (by decide) (by decide)]; exact h2) (by rw [e3, vi_seti, if_pos ⟨rfl, rfl⟩]) h.p4 ?_ (fun z => absurd z fn)) (fun z => if_neg z) (fun z => ?_)
    · by_cases z : f = 0
      · rw [if_pos z]; exact fl
      · rw [if_neg z]; exact f4
    · rw [if_pos z]
      have := (h.b z).1
      rw [show (60 : Int32) = nI 60 from rfl, eq_I (by omega) (by omega)] at c
      rw [if_pos c]
theorem s_ldigits {Q : Int32 → Mem → Prop} (h : LwA M m T s p cd n f) (d0 : 0 < dl T.1 p) (hq : ∀ M' v f', FrW m s M M' → LwA M' m T s (p + dl T.1 p) cd n f' → (¬ f = 0 → f' = f) → (f = 0 → f' = if 5 < dl T.1 p then flt p 1 else 0) → (dl T.1 p ≤ 5 → v = nI (vlF T.1 p (dl T.1 p))) → Q v M') : CI G (d + 3) 181 [.ref m, .int 99999] M Q := by
  have t4 : T.1.1 ≤ 400 := h.x.t4
  have p4 := h.p4
  have f4 := h.f4
  have dq := dl_le p4
  have dI : ∀ i, i < dl T.1 p → isD (T.1.2 (p + i)) := run_in (P := fun i => isD (T.1.2 i)) _ p rfl
  have vb : ∀ k, k ≤ 5 → k ≤ dl T.1 p → vlF T.1 p k < 100000 := fun k h4 h5 => by
    have h6 := vlF_lt (t := T.1) (p := p) (n := k) (fun i hi => dI i (by omega))
    have h7 : 10 ^ k ≤ 10 ^ 5 := Nat.pow_le_pow_right (by decide) h4
    omega
  have key : ∀ (j k : Nat) (M2 : Mem), j + k = dl T.1 p → Frl m [14] [] M M2 → vi M2 m 14 = nI (p + k) → At G (d + 3) 181 25 [(0, .ref m), (1, .int 99999), (2, .int (nI p)), (3, .int (nI (vlF T.1 p (min k 5))))] [] M2 (qI Q) := by
    intro j
    induction j with
    | zero =>
      intro k M2 e1 g2 e2
      have ek : k = dl T.1 p := by omega
      subst ek
      have h2 := h.mv g2 e2 dq (by omega)
      have ne := run_end (P := fun i => isD (T.1.2 i)) (n := T.1.1) _ p rfl
      refine r_digits_25 h2.1.1 (s_isDigit h2.1 e2 (by omega) ⟨h2.1.1, bz (fun c => absurd c ne) (fun _ => ?_)⟩)
      rw [e2, pk_sub (by omega), show p + dl T.1 p - p = dl T.1 p by omega, show (5 : Int32) = nI 5 from rfl, lt_I (by omega) (by omega), show (99999 : Int32) = nI 99999 from rfl]
      have v5 := vb (min (dl T.1 p) 5) (by omega) (by omega)
      rw [le_I (by omega) (by omega)]
      refine ⟨fun c => ?_, fun c => ⟨fun _ => hq M2 _ f (FrW.ofF g2 (by decide)) h2 (fun _ => rfl) (fun z => by rw [if_neg c]; exact z) (fun _ => by rw [show min (dl T.1 p) 5 = dl T.1 p by omega]), fun y => absurd (by omega) y⟩⟩
      refine s_fails (c := 1) h2.1.1 h2.ff f4 (by omega) (by omega) (fun M3 g3 h3 => ⟨g3.ra h2.1.1, ?_⟩)
      have fl := flt_lt (p := p) (c := 1) (by omega) (by omega)
      refine hq M3 _ (if f = 0 then flt p 1 else f) ((FrW.ofF g2 (by decide)).trans (FrW.ofF g3 (by decide))) (h2.ft g3 h3 ?_ ?_) (fun z => if_neg z) (fun z => by rw [if_pos z, if_pos c]) (fun z => by omega)
      · by_cases z : f = 0
        · rw [if_pos z]; exact flt_ne _ _
        · rw [if_neg z]; exact z
      · by_cases z : f = 0
        · rw [if_pos z]; exact fl
        · rw [if_neg z]; exact f4
    | succ j ih =>
      intro k M2 e1 g2 e2
      have h2 := h.mv g2 e2 (by omega) (by omega)
      have di := dI k (by omega)
      refine r_digits_25 h2.1.1 (s_isDigit h2.1 e2 (by omega) ⟨h2.1.1, bz (fun _ => ?_) (fun c => absurd ⟨by omega, di⟩ c)⟩)
      rw [e2, pk_sub (by omega), show p + k - p = k by omega, show (5 : Int32) = nI 5 from rfl, le_I (by omega) (by omega)]
      refine ⟨fun c M8 e8 => ?_, fun c => s_sign h2.1 e2 (by omega) ⟨h2.1.1, fun M8 e8 => ?_⟩⟩
      · rw [nI_1] at e8
        have g8 : Frl m [14] [] M2 M8 := by rw [e8]; exact Frl.sf (by decide)
        have := ih (k + 1) M8 (by omega) (g2.trans g8) (by rw [e8, vi_seti, if_pos ⟨rfl, rfl⟩]; rfl)
        rw [show min (k + 1) 5 = min k 5 by omega] at this
        exact this
      · rw [e2, nI_1] at e8
        have g8 : Frl m [14] [] M2 M8 := by rw [e8]; exact Frl.sf (by decide)
        have := ih (k + 1) M8 (by omega) (g2.trans g8) (by rw [e8, vi_seti, if_pos ⟨rfl, rfl⟩]; rfl)
        obtain ⟨ed, _⟩ := isD_dg di
        have ev : 10 * nI (vlF T.1 p (min k 5)) + pk T.1 (p + k) - 48 = nI (vlF T.1 p (min (k + 1) 5)) := by
          rw [show pk T.1 (p + k) = T.1.2 (p + k) from cif_T (by omega), show min k 5 = k by omega, show min (k + 1) 5 = k + 1 by omega, show (10 : Int32) = nI 10 from rfl, pk_mul, ed, nI_add, show (48 : Int32) = nI 48 from rfl, pk_sub (by omega)]
          show nI _ = nI (10 * vlF T.1 p k + dg T.1 (p + k))
          unfold dg
          congr 1
        rw [ev]
        exact this
  refine r_digits h.1.1 (s_isDigit h.1 h.pp (by omega) ⟨h.1.1, bnz (fun c => ?_) (fun c => absurd ⟨by omega, by have := dI 0 d0; exact this⟩ c)⟩)
  rw [h.pp]
  exact key _ 0 M rfl Frl.refl h.pp
theorem s_wordOf {k : Nat} {Q : Option Nat → Mem → Prop} (k7 : k < 7) (hq : Q (some (gk G (16 + k))) M) : CR G (d + 1) 171 [.int (nI k)] M Q := by
  refine r_wordOf ?_
  rw [nI_toIntN (by omega)]
  have : k = 0 ∨ k = 1 ∨ k = 2 ∨ k = 3 ∨ k = 4 ∨ k = 5 ∨ k = 6 := by omega
  rcases this with z | z | z | z | z | z | z <;> subst z <;> refine ⟨?_, ?_, ?_, ?_, ?_, ?_, ?_, trivial⟩ <;> intro y <;> first | exact hq | (exfalso; revert y; decide)
end
