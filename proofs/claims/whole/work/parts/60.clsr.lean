/-! READING THE TAPE: the class -/
section
variable {G : GT} {d : Nat} {M M' : Mem} {o p f : Nat} {t : TpT}
/-- the tape at o, read at p, with the FAULT f -/
def tpA (M : Mem) (o : Nat) (t : TpT) (p f : Nat) : Prop := ObAt 9 M o ∧ cTp M o t ∧ t.1 ≤ 400 ∧ (∀ k, k < t.1 → 0 ≤ (t.2 k).toInt ∧ (t.2 k).toInt ≤ 255) ∧ vi M o 2 = nI p ∧ vi M o 3 = nI f
theorem tpA.pl {q : Nat} (h : tpA M o t p f) (g : Frl o [2] [] M M') (e : vi M' o 2 = nI q) : tpA M' o t q f :=
  ⟨g.ob h.1, ⟨by rw [g.f (by decide) (by decide)]; exact h.2.1.1, fun k hk => by rw [g.i (by decide) (by decide)]; exact h.2.1.2 k hk⟩, h.2.2.1, h.2.2.2.1, e, by rw [g.f (by decide) (by decide)]; exact h.2.2.2.2.2⟩
theorem tpA.fa {q : Nat} (h : tpA M o t p f) (g : Frl o [3] [] M M') (e : vi M' o 3 = nI q) : tpA M' o t p q :=
  ⟨g.ob h.1, ⟨by rw [g.f (by decide) (by decide)]; exact h.2.1.1, fun k hk => by rw [g.i (by decide) (by decide)]; exact h.2.1.2 k hk⟩, h.2.2.1, h.2.2.2.1, by rw [g.f (by decide) (by decide)]; exact h.2.2.2.2.1, e⟩
theorem tpA.pp (h : tpA M o t p f) : vi M o 2 = nI p := h.2.2.2.2.1
theorem tpA.ff (h : tpA M o t p f) : vi M o 3 = nI f := h.2.2.2.2.2
theorem tpA.n (h : tpA M o t p f) : vi M o 1 = nI t.1 := h.2.1.1
theorem tpA.b (h : tpA M o t p f) {k : Nat} (hk : k < t.1) : vi M (o + 1) k = t.2 k := h.2.1.2 k hk
/-- tapes stay -/
theorem tpA.sm (h : tpA M o t p f) (O : ObAt 9 M' o) (s0 : vi M' o = vi M o) (s1 : vi M' (o + 1) = vi M (o + 1)) : tpA M' o t p f := by
  refine ⟨O, ⟨?_, fun k hk => ?_⟩, h.2.2.1, h.2.2.2.1, ?_, ?_⟩
  · rw [s0]; exact h.n
  · rw [s1]; exact h.b hk
  · rw [s0]; exact h.pp
  · rw [s0]; exact h.ff
theorem nlt0 (n : Nat) (h : n < 2147483648) : ¬ nI n < 0 := nI_pos h
theorem k_fail {c q : Nat} {Q : Mem → Prop} (h : tpA M o t p f) (f4 : f < 100000) (hq : ∀ M', Frl o [3] [] M M' → tpA M' o t p (if f = 0 then flt q c else f) → Q M') : CV G (d + 1) 91 [.ref o, .int (nI q), .int (nI c)] M Q := by
  refine c_X9_fail h.1 ?_
  rw [h.ff, il_0, eq_I (by omega) (by omega)]
  refine ⟨fun z => ?_, fun z => ?_⟩
  · refine hq M Frl.refl ?_
    rw [if_neg z]; exact h
  · intro M1 e1
    have g : Frl o [3] [] M M1 := by rw [e1]; exact Frl.sf (by decide)
    refine hq M1 g (h.fa g ?_)
    rw [e1, vi_seti, if_pos ⟨rfl, rfl⟩, if_pos z, show (8 : Int32) = nI 8 from rfl, pk_mul, show (1 : Int32) = nI 1 from rfl, nI_add, nI_add]
    rfl
theorem k_peek {Q : Int32 → Mem → Prop} (h : tpA M o t p f) (p4 : p < 1000) (hq : Q (pk t p) M) : CI G (d + 1) 92 [.ref o] M Q := by
  have t4 := h.2.2.1
  refine c_X9_peek h.1 ?_
  rw [h.pp, h.n, le_I (by omega) (by omega)]
  unfold pk at hq
  refine ⟨fun c => absurd c (nlt0 _ (by omega)), fun _ => ⟨fun c => ?_, fun c => ⟨vp_in_nI (by omega) (by omega), ?_⟩⟩⟩
  · rw [cif_F (by omega)] at hq; exact hq
  · rw [cif_T (by omega)] at hq
    rw [nI_clamp (by omega), h.b (by omega)]; exact hq
theorem k_pass {n : Nat} {Q : Mem → Prop} (h : tpA M o t p f) (p4 : p + n < 1000) (hq : ∀ M', Frl o [2] [] M M' → tpA M' o t (skB t (p + n)) f → Q M') : CV G (d + 1) 93 [.ref o, .int (nI n)] M Q := by
  have t4 := h.2.2.1
  refine c_X9_pass h.1 (fun M1 e1 => ?_)
  rw [h.pp, nI_add] at e1
  have key : ∀ (k i q : Nat) (M2 : Mem), k + i = 400 → i ≤ q → q < 1000 + i → Frl o [2] [] M M2 → tpA M2 o t q f → skB t (p + n) = skB t q → At G (d + 1) 93 12 [(0, .ref o), (2, .int (nI i))] [] M2 (qV Q) := by
    intro k
    induction k with
    | zero =>
      intro i q M2 e hi q4 g h2 e2
      refine c_X9_pass_12 h2.1 ⟨fun _ => hq M2 g ?_, fun c => absurd (show (400 : Int32) ≤ nI i from nI_le (a := 400) (by omega) (by omega)) c⟩
      rw [e2, skB_n (fun z => by omega)]; exact h2
    | succ k ih =>
      intro i q M2 e hi q4 g h2 e2
      refine c_X9_pass_12 h2.1 ⟨fun c => absurd c (nI_ge (a := i) (b := 400) (by omega) (by decide)), fun _ => ?_⟩
      rw [h2.pp, h2.n, le_I (by omega) (by omega)]
      refine ⟨fun c => absurd c (nlt0 _ (by omega)), fun _ => ⟨fun c => hq M2 g ?_, fun c => ⟨vp_in_nI (by omega) (by omega), ?_⟩⟩⟩
      · rw [e2, skB_n (fun z => by omega)]; exact h2
      · rw [nI_clamp (by omega), h2.b (by omega)]
        refine ⟨fun y => hq M2 g ?_, fun y M3 e3 => ?_⟩
        · rw [e2, skB_n (fun z => y z.2)]; exact h2
        · rw [nI_1] at e3
          rw [nI_1]
          have g3 : Frl o [2] [] M2 M3 := by rw [e3]; exact Frl.sf (by decide)
          exact ih (i + 1) (q + 1) M3 (by omega) (by omega) (by omega) (g.trans g3) (h2.pl g3 (by rw [e3, vi_seti, if_pos ⟨rfl, rfl⟩])) (by rw [e2, skB_y (by omega) y])
  have g1 : Frl o [2] [] M M1 := by rw [e1]; exact Frl.sf (by decide)
  exact key 400 0 (p + n) M1 rfl (by omega) (by omega) g1 (h.pl g1 (by rw [e1, vi_seti, if_pos ⟨rfl, rfl⟩])) rfl
theorem k_rewind {Q : Mem → Prop} {q e : Nat} (h : tpA M o t q e) (hq : ∀ M', Frl o [2, 3] [] M M' → tpA M' o t (skB t 0) 0 → Q M') : CV G (d + 2) 90 [.ref o] M Q := by
  refine c_X9_rewind h.1 (fun M1 e1 M2 e2 => ?_)
  have g1 : Frl o [3] [] M M1 := by rw [e1]; exact Frl.sf (by decide)
  have g2 : Frl o [2] [] M1 M2 := by rw [e2]; exact Frl.sf (by decide)
  have h1 := h.fa (q := 0) g1 (by rw [e1, vi_seti, if_pos ⟨rfl, rfl⟩]; rfl)
  have h2 := h1.pl (q := 0) g2 (by rw [e2, vi_seti, if_pos ⟨rfl, rfl⟩]; rfl)
  exact k_pass (n := 0) h2 (by omega) (fun M3 g3 h3 => ⟨h3.1, hq M3 ((g1.sub (by decide) (by decide)).trans ((g2.sub (by decide) (by decide)).trans (g3.sub (by decide) (by decide)))) h3⟩)
theorem k_takeSign {a b : Int32} {Q : Int32 → Mem → Prop} (h : tpA M o t p f) (p4 : p < 900) (f4 : f < 100000) (hy : f = 0 → (pk t p = a ∨ pk t p = b) → ∀ M', Frl o [2] [] M M' → tpA M' o t (skB t (p + 1)) f → Q (pk t p) M')
    (hn : ¬ (f = 0 ∧ (pk t p = a ∨ pk t p = b)) → Q (-1) M) : CI G (d + 2) 94 [.ref o, .int a, .int b] M Q := by
  refine c_X9_takeSign h.1 (k_peek h (by omega) ⟨h.1, ?_⟩)
  rw [h.ff, il_0, eq_I (by omega) (by omega)]
  refine ⟨fun c => hn (fun z => c z.1), fun c => ⟨fun c1 => ?_, fun c1 => ⟨fun c2 => ?_, fun c2 => hn (fun z => z.2.elim c1 c2)⟩⟩⟩
  · exact k_pass (n := 1) h (by omega) (fun M3 g3 h3 => ⟨h3.1, hy c (Or.inl c1) M3 g3 h3⟩)
  · exact k_pass (n := 1) h (by omega) (fun M3 g3 h3 => ⟨h3.1, hy c (Or.inr c2) M3 g3 h3⟩)
theorem k_isDigit {a : Int32} {Q : Int32 → Mem → Prop} (hq : Q (bI (isD a)) M) : CI G (d + 1) 151 [.int a] M Q := by
  refine c_X11_isDigit ?_
  rw [fa_lt, fa_lt, show (48 : Int32).toInt = 48 from rfl, show (57 : Int32).toInt = 57 from rfl]
  unfold isD at hq
  exact ⟨fun c => qF2 hq (by omega), fun c => ⟨fun c2 => qF2 hq (by omega), fun c2 => qT2 hq (by omega)⟩⟩
theorem k_isSmall {a : Int32} {Q : Int32 → Mem → Prop} (hq : Q (bI (isS a)) M) : CI G (d + 1) 149 [.int a] M Q := by
  refine c_X11_isSmall ?_
  rw [fa_lt, fa_lt, show (97 : Int32).toInt = 97 from rfl, show (122 : Int32).toInt = 122 from rfl]
  unfold isS at hq
  exact ⟨fun c => qF2 hq (by omega), fun c => ⟨fun c2 => qF2 hq (by omega), fun c2 => qT2 hq (by omega)⟩⟩
theorem k_isCapital {a : Int32} {Q : Int32 → Mem → Prop} (hq : Q (bI (isU a)) M) : CI G (d + 1) 150 [.int a] M Q := by
  refine c_X11_isCapital ?_
  rw [fa_lt, fa_lt, show (65 : Int32).toInt = 65 from rfl, show (90 : Int32).toInt = 90 from rfl]
  unfold isU at hq
  exact ⟨fun c => qF2 hq (by omega), fun c => ⟨fun c2 => qF2 hq (by omega), fun c2 => qT2 hq (by omega)⟩⟩
theorem k_digits {Q : Int32 → Mem → Prop} (h : tpA M o t p f) (p4 : p ≤ t.1) (hq : Q (nI (dl t p)) M) : CI G (d + 2) 96 [.ref o] M Q := by
  have t4 := h.2.2.1
  refine c_X9_digits h.1 ?_
  rw [h.pp]
  have key : ∀ (k i : Nat), t.1 - (p + i) = k → p + i ≤ t.1 → dl t p = i + dl t (p + i) → At G (d + 2) 96 7 [(0, .ref o), (1, .int (nI i)), (2, .int (nI (p + i)))] [] M (qI Q) := by
    intro k
    induction k with
    | zero =>
      intro i e1 e3 e2
      refine c_X9_digits_7 h.1 ?_
      rw [h.n, le_I (by omega) (by omega)]
      refine ⟨fun c => absurd c (nlt0 _ (by omega)), fun _ => ⟨fun c => ?_, fun c => absurd (by omega) c⟩⟩
      rw [show dl t (p + i) = 0 from run_n (P := fun i => isD (t.2 i)) (fun z => by omega), Nat.add_zero] at e2
      rw [← e2]; exact hq
    | succ k ih =>
      intro i e1 e3 e2
      refine c_X9_digits_7 h.1 ?_
      rw [h.n, le_I (by omega) (by omega)]
      refine ⟨fun c => absurd c (nlt0 _ (by omega)), fun _ => ⟨fun c => absurd c (by omega), fun c => ⟨vp_in_nI (by omega) (by omega), ?_⟩⟩⟩
      rw [nI_clamp (by omega), h.b (by omega)]
      refine k_isDigit ⟨h.1, bz (fun c => ?_) (fun c => ?_)⟩
      · rw [nI_1, nI_1]
        refine ih (i + 1) (by omega) (by omega) ?_
        rw [e2, show dl t (p + i) = dl t (p + i + 1) + 1 from run_y (P := fun i => isD (t.2 i)) (by omega) c, show p + (i + 1) = p + i + 1 by omega]
        omega
      · rw [show dl t (p + i) = 0 from run_n (P := fun i => isD (t.2 i)) (fun z => c z.2), Nat.add_zero] at e2
        rw [← e2]; exact hq
  exact key _ 0 rfl (by omega) (by simp)
theorem k_valueOf {n : Nat} {Q : Int32 → Mem → Prop} (h : tpA M o t p f) (p4 : p ≤ t.1) (n4 : n ≤ dl t p) (n3 : n ≤ 5) (hq : Q (nI (vlF t p n)) M) : CI G (d + 1) 97 [.ref o, .int (nI n)] M Q := by
  have t4 := h.2.2.1
  have dq := dl_le p4
  have dI : ∀ i, i < dl t p → isD (t.2 (p + i)) := run_in (P := fun i => isD (t.2 i)) _ p rfl
  refine c_X9_valueOf h.1 ?_
  rw [h.pp]
  have key : ∀ (k i : Nat), k + i = n → At G (d + 1) 97 7 [(0, .ref o), (1, .int (nI n)), (2, .int (nI (vlF t p i))), (3, .int (nI (p + i)))] [] M (qI Q) := by
    intro k
    induction k with
    | zero =>
      intro i e
      refine c_X9_valueOf_7 h.1 ?_
      have ei : i = n := by omega
      subst ei
      rw [h.n, h.pp, nI_add, le_I (by omega) (by omega)]
      exact ⟨fun c => absurd c (nlt0 _ (by omega)), fun _ => ⟨fun _ => hq, fun _ => ⟨fun _ => hq, fun c => absurd (nI_le (Nat.le_refl _) (by omega)) c⟩⟩⟩
    | succ k ih =>
      intro i e
      refine c_X9_valueOf_7 h.1 ?_
      rw [h.n, h.pp, nI_add, le_I (by omega) (by omega)]
      refine ⟨fun c => absurd c (nlt0 _ (by omega)), fun _ => ⟨fun c => absurd c (by omega), fun _ => ⟨fun c => absurd c (nI_ge (by omega) (by omega)), fun _ => ⟨vp_in_nI (by omega) (by omega), ?_⟩⟩⟩⟩
      rw [nI_clamp (by omega), h.b (by omega)]
      have di := dI i (by omega)
      obtain ⟨j, hj, ej⟩ := asN (a := t.2 (p + i)) (N := 58) (by have := di.1; omega) (by have := di.2; omega)
      have h48 : 48 ≤ j := by
        have := di.1
        rw [ej, nI_toIntN (by omega)] at this
        omega
      have ev : nI (vlF t p i) * 10 + t.2 (p + i) - 48 = nI (vlF t p (i + 1)) := by
        show _ = nI (10 * vlF t p i + dg t (p + i))
        unfold dg
        rw [ej, nI_clamp (by omega), show (10 : Int32) = nI 10 from rfl, pk_mul, nI_add, show (48 : Int32) = nI 48 from rfl, pk_sub (by omega)]
        congr 1
        omega
      rw [ev, nI_1]
      exact ih (i + 1) (by omega)
  exact key n 0 rfl
end
