/-! READING LAWS: the reference's stack -/
/-- the stack, its top first -/
def stk (M : Mem) (m : Nat) (σ : List Nat) : Prop := vi M m 21 = nI σ.length ∧ (∀ i, i < σ.length → vi M (m + 20) (σ.length - 1 - i) = nI (σ.getD i 0)) ∧ ∀ a ∈ σ, a < 100
def TsA (M : Mem) (m : Nat) (T : StT) (s p : Nat) (cd : List Nat) (n : Nat) (σ : List Nat) (dp : Nat) : Prop := LwA M m T s p cd n 0 ∧ stk M m σ ∧ vi M m 19 = nI dp ∧ dp ≤ 10 ∧ σ.length ≤ 100
section
variable {G : GT} {d : Nat} {M M' : Mem} {m s p n f dp : Nat} {T : StT} {cd σ : List Nat}
theorem LwA.ks (h : LwA M m T s p cd n f) (g : Frl m [19, 21] [20] M M') : LwA M' m T s p cd n f := by
  have w : FrT m s M M' := ⟨g.sub (by decide) (by decide), fun j _ => ⟨g.i (by decide) (by decide) j, g.i (by decide) (by decide) j⟩⟩
  exact ⟨h.1.lawF w h.2.1, h.2.1, h.2.2.1, by rw [g.f (by decide) (by decide)]; exact h.pp, by rw [g.f (by decide) (by decide)]; exact h.ff, by rw [g.f (by decide) (by decide)]; exact h.2.2.2.2.2.1, by rw [g.f (by decide) (by decide)]; exact h.2.2.2.2.2.2.1, by rw [g.f (by decide) (by decide)]; exact h.cc, h.p4, h.f4, h.2.2.2.2.2.2.2.2.2.2.1, fun k hk => by rw [g.i (by decide) (by decide), g.i (by decide) (by decide)]; exact h.2.2.2.2.2.2.2.2.2.2.2 k hk⟩
theorem FrT.ks (g : Frl m [19, 21] [20] M M') : FrT m s M M' := ⟨g.sub (by decide) (by decide), fun j _ => ⟨g.i (by decide) (by decide) j, g.i (by decide) (by decide) j⟩⟩
/-- the stack stays while other fields change -/
theorem TsA.mv {q : Nat} (h : TsA M m T s p cd n σ dp) (g : Frl m [14] [] M M') (e : vi M' m 14 = nI q) (hq : q ≤ T.1.1) (le : p ≤ q) : TsA M' m T s q cd n σ dp :=
  ⟨h.1.mv g e hq le, ⟨by rw [g.f (by decide) (by decide)]; exact h.2.1.1, fun i hi => by rw [g.i (by decide) (by decide)]; exact h.2.1.2.1 i hi, h.2.1.2.2⟩, by rw [g.f (by decide) (by decide)]; exact h.2.2.1, h.2.2.2⟩
theorem s_top {Q : Int32 → Mem → Prop} (h : TsA M m T s p cd n σ dp) (h0 : σ = [] → Q (-1) M) (h1 : ∀ a r, σ = a :: r → Q (nI a) M) : CI G (d + 1) 186 [.ref m] M Q := by
  have l1 := h.2.2.2.2
  refine r_top h.1.1.1 ?_
  rw [h.2.1.1, il_0, eq_I (by omega) (by omega)]
  refine ⟨fun z => ?_, fun z => h0 (List.length_eq_zero_iff.mp z)⟩
  rw [show (1 : Int32) = nI 1 from rfl, pk_sub (by omega), nI_clamp (by omega)]
  refine ⟨vp_in_nI (by omega) (by omega), ?_⟩
  cases σ with
  | nil => exact absurd rfl z
  | cons a r =>
    have := h.2.1.2.1 0 (Nat.zero_lt_succ _)
    rw [Nat.sub_zero] at this
    rw [this]
    exact h1 a r rfl
/-- one more on the stack -/
theorem TsA.push {a : Nat} {M1 M2 M3 : Mem} {dp' : Nat} (h : TsA M m T s p cd n σ dp) (a4 : a < 100) (l4 : σ.length < 100) (d4 : dp' ≤ 10) (e1 : M1 = M ∧ dp' = dp ∨ M1 = seti M m 19 (nI dp')) (e2 : M2 = seti M1 (m + 20) ((vi M1 m 21)).toNatClampNeg (nI a)) (e3 : M3 = seti M2 m 21 (vi M2 m 21 + 1)) : FrT m s M M3 ∧ TsA M3 m T s p cd n (a :: σ) dp' := by
  have g1 : Frl m [19, 21] [20] M M1 := by
    rcases e1 with e1 | e1
    · rw [e1.1]; exact Frl.refl
    · rw [e1]; exact Frl.sf (by decide)
  have c1 : vi M1 m 21 = nI σ.length := by
    rcases e1 with e1 | e1
    · rw [e1.1]; exact h.2.1.1
    · rw [e1, vi_seti, if_neg (by omega)]; exact h.2.1.1
  have c9 : vi M1 m 19 = nI dp' := by
    rcases e1 with e1 | e1
    · rw [e1.1, e1.2]; exact h.2.2.1
    · rw [e1, vi_seti, if_pos ⟨rfl, rfl⟩]
  rw [c1, nI_clamp (by omega)] at e2
  have c2 : vi M2 m 21 = nI σ.length := by rw [e2, vi_seti, if_neg (by omega)]; exact c1
  rw [c2, nI_1] at e3
  have g : Frl m [19, 21] [20] M M3 := g1.trans (by rw [e3, e2]; exact (Frl.si (by decide)).trans (Frl.sf (by decide)))
  refine ⟨FrT.ks g, h.1.ks g, ⟨by rw [e3, vi_seti, if_pos ⟨rfl, rfl⟩]; rfl, fun i hi => ?_, fun b hb => ?_⟩, ?_, d4, by rw [List.length_cons]; omega⟩
  · rw [List.length_cons] at hi ⊢
    rw [e3, vi_seti, if_neg (by omega), e2, vi_seti]
    cases i with
    | zero => rw [if_pos ⟨rfl, by omega⟩]; rfl
    | succ i =>
      rw [if_neg (by omega)]
      have eM : vi M1 (m + 20) = vi M (m + 20) := by
        rcases e1 with e1 | e1
        · rw [e1.1]
        · rw [e1]; funext j; rw [vi_seti, if_neg (by omega)]
      rw [eM, show σ.length + 1 - 1 - (i + 1) = σ.length - 1 - i by omega]
      exact h.2.1.2.1 i (by omega)
  · rcases List.mem_cons.mp hb with z | z
    · rw [z]; exact a4
    · exact h.2.1.2.2 b z
  · rw [e3, vi_seti, if_neg (by omega), e2, vi_seti, if_neg (by omega)]; exact c9
/-- opens: and, or -/
theorem s_opens1 {a : Nat} {Q : Mem → Prop} (h : TsA M m T s p cd n σ dp) (ha : a = 10 ∨ a = 11) (l4 : σ.length < 100) (hq : ∀ M', FrT m s M M' → TsA M' m T s p cd n (a :: σ) dp → Q M') : CV G (d + 2) 187 [.ref m, .int (nI a)] M Q := by
  have n9 : ¬ nI a = 9 := by rw [show (9 : Int32) = nI 9 from rfl, eq_I (by omega) (by omega)]; omega
  have n12 : ¬ nI a = 12 := by rw [show (12 : Int32) = nI 12 from rfl, eq_I (by omega) (by omega)]; omega
  refine r_opens h.1.1.1 ⟨fun z => absurd z n9, fun _ => ⟨fun _ => ⟨by rw [h.2.1.1]; exact vp_in_nI (by omega) (by omega), fun M2 e2 M3 e3 => ?_⟩, fun z => absurd z n12⟩⟩
  have := h.push (M1 := M) (by omega) l4 h.2.2.2.1 (Or.inl ⟨rfl, rfl⟩) e2 e3
  exact hq M3 this.1 this.2
/-- opens: not, a bracket -/
theorem s_opens2 {a : Nat} {Q : Mem → Prop} (h : TsA M m T s p cd n σ dp) (ha : a = 9 ∨ a = 12) (l4 : σ.length < 100) (hy : ¬ dp = 10 → ∀ M', FrT m s M M' → TsA M' m T s p cd n (a :: σ) (dp + 1) → Q M') (hn : dp = 10 → ∀ M', FrT m s M M' → LwA M' m T s p cd n (flt p 2) → Q M') : CV G (d + 2) 187 [.ref m, .int (nI a)] M Q := by
  have t4 : T.1.1 ≤ 400 := h.1.1.t4
  have p4 := h.1.p4
  have d10 := h.2.2.2.1
  have v : vp_in (nI σ.length) 402 := vp_in_nI (by omega) (by omega)
  have good : ¬ vi M m 19 = 10 → ∀ M1, M1 = seti M m 19 (vi M m 19 + 1) → vp_in (vi M1 m 21) 402 ∧ (∀ M2, M2 = seti M1 (m + 20) ((vi M1 m 21)).toNatClampNeg (nI a) → ∀ M3, M3 = seti M2 m 21 ((vi M2 m 21) + (1 : Int32)) → Q M3) := by
    intro c M1 e1
    rw [h.2.2.1, nI_1] at e1
    rw [h.2.2.1, show (10 : Int32) = nI 10 from rfl, eq_I (by omega) (by omega)] at c
    refine ⟨by rw [e1, vi_seti, if_neg (by omega), h.2.1.1]; exact v, fun M2 e2 M3 e3 => ?_⟩
    have := h.push (dp' := dp + 1) (by omega) l4 (by omega) (Or.inr e1) e2 e3
    exact hy c M3 this.1 this.2
  have bad : vi M m 19 = 10 → CV G (d + 1) 173 [.ref m, .int (2 : Int32), .int (vi M m 14)] M (fun M4 => RefAt M4 m ∧ (∀ M5, M5 = seti M4 m 19 ((vi M4 m 19) + (1 : Int32)) → vp_in (vi M5 m 21) 402 ∧ (∀ M6, M6 = seti M5 (m + 20) ((vi M5 m 21)).toNatClampNeg (nI a) → ∀ M7, M7 = seti M6 m 21 ((vi M6 m 21) + (1 : Int32)) → Q M7))) := by
    intro c
    rw [h.2.2.1, show (10 : Int32) = nI 10 from rfl, eq_I (by omega) (by omega)] at c
    rw [h.1.pp]
    refine s_fails (c := 2) h.1.1.1 h.1.ff (by omega) (by omega) (by omega) (fun M4 g4 h4 => ⟨g4.ra h.1.1.1, fun M5 e5 => ⟨?_, fun M6 e6 M7 e7 => ?_⟩⟩)
    · rw [e5, vi_seti, if_neg (by omega), g4.f (by decide) (by decide), h.2.1.1]; exact v
    · rw [if_pos rfl] at h4
      have hL := h.1.ft g4 h4 (flt_ne _ _) (flt_lt (by omega) (by omega))
      have g : Frl m [19, 21] [20] M4 M7 := by rw [e7, e6, e5]; exact ((Frl.sf (by decide)).trans (Frl.si (by decide))).trans (Frl.sf (by decide))
      exact hn c M7 ((FrT.ofF g4 (by decide)).trans (FrT.ks g)) (hL.ks g)
  refine r_opens h.1.1.1 ⟨fun _ => ⟨good, bad⟩, fun c9 => ⟨fun c12 => ?_, fun _ => ⟨good, bad⟩⟩⟩
  rcases ha with z | z
  · rw [z] at c9; exact absurd rfl c9
  · rw [z] at c12; exact absurd rfl c12
/-- how many k are on top -/
def led (k : Nat) : List Nat → Nat
  | [] => 0
  | a :: r => if a = k then led k r + 1 else 0
def ledR (k : Nat) : List Nat → List Nat
  | [] => []
  | a :: r => if a = k then ledR k r else a :: r
theorem s_answers {k c : Nat} {Q : Mem → Prop} (h : TsA M m T s p cd n σ dp) (kc : k < 100 ∧ nI k = nI (rSort c) ∧ nI 0 = nI (rNum c)) (hr : 3 * (cd.length + led k σ) ≤ 6 * n + p) (hd : k = 9 → led 9 σ ≤ dp)
    (hq : ∀ M', FrT m s M M' → TsA M' m T s p (cd ++ List.replicate (led k σ) c) n (ledR k σ) (dp - if k = 9 then led k σ else 0) → Q M') : CV G (d + 2) 188 [.ref m, .int (nI k)] M Q := by
  have key : ∀ (τ : List Nat) (M0 : Mem) (cd0 : List Nat) (dp0 : Nat), TsA M0 m T s p cd0 n τ dp0 → FrT m s M M0 → 3 * (cd0.length + led k τ) ≤ 6 * n + p → (k = 9 → led 9 τ ≤ dp0) → cd0 ++ List.replicate (led k τ) c = cd ++ List.replicate (led k σ) c → ledR k τ = ledR k σ → (dp0 - if k = 9 then led k τ else 0) = (dp - if k = 9 then led k σ else 0) →
      CI G (d + 1) 186 [.ref m] M0 (fun v8 M7 => RefAt M7 m ∧ ((¬ v8 = nI k → Q M7) ∧ (v8 = nI k → (¬ (vi M7 m 15) = 0 → Q M7) ∧ ((vi M7 m 15) = 0 → CV G (d + 1) 179 [.ref m, .int (nI k), .int (0 : Int32)] M7 (fun M9 => RefAt M9 m ∧ (∀ M10, M10 = seti M9 m 21 ((vi M9 m 21) - (1 : Int32)) → (¬ nI k = (9 : Int32) → ∀ M11, M11 = seti M10 m 19 ((vi M10 m 19) - (0 : Int32)) → At G (d + 2) 188 0 [(0, .ref m), (1, .int (nI k))] [] M11 (qV Q)) ∧ (nI k = (9 : Int32) → ∀ M12, M12 = seti M10 m 19 ((vi M10 m 19) - (1 : Int32)) → At G (d + 2) 188 0 [(0, .ref m), (1, .int (nI k))] [] M12 (qV Q)))))))) := by
    intro τ
    induction τ with
    | nil =>
      intro M0 cd0 dp0 h0 w0 r0 d0 e1 e2 e3
      have fin : Q M0 := by
        refine hq M0 w0 ?_
        rw [← e1, ← e2, ← e3]
        have : (dp0 - if k = 9 then led k [] else 0) = dp0 := by show dp0 - (if k = 9 then 0 else 0) = dp0; split <;> rfl
        rw [this]
        show TsA M0 m T s p (cd0 ++ []) n [] dp0
        rw [List.append_nil]
        exact h0
      exact s_top h0 (fun _ => ⟨h0.1.1.1, fun _ => fin, fun z => absurd z (by rw [il_m1, mn_eq (by decide) (by decide) (by omega)]; exact id)⟩) (fun a r e => by cases e)
    | cons a τ ih =>
      intro M0 cd0 dp0 h0 w0 r0 d0 e1 e2 e3
      have a4 := h0.2.1.2.2 a (List.mem_cons_self ..)
      refine s_top h0 (fun e => by cases e) (fun a' r e => ?_)
      cases e
      rw [eq_I (by omega) (by omega)]
      refine ⟨h0.1.1.1, fun ne => ?_, fun ea => ?_⟩
      · refine hq M0 w0 ?_
        have l0 : led k (a :: τ) = 0 := if_neg ne
        have lR : ledR k (a :: τ) = a :: τ := if_neg ne
        rw [← e1, ← e2, ← e3, l0, lR]
        have : (dp0 - if k = 9 then 0 else 0) = dp0 := by split <;> rfl
        rw [this]
        show TsA M0 m T s p (cd0 ++ []) n (a :: τ) dp0
        rw [List.append_nil]
        exact h0
      · subst ea
        have l1 : led a (a :: τ) = led a τ + 1 := if_pos rfl
        have lR : ledR a (a :: τ) = ledR a τ := if_pos rfl
        rw [l1] at e1 r0
        rw [lR] at e2
        rw [l1] at e3
        refine ⟨fun y => absurd h0.1.ff y, fun _ => s_entry (c := c) h0.1 (fun _ => kc.2) (fun _ => by omega) (fun M9 cd9 g9 h9 c9 => ⟨h9.1.1, fun M10 e10 => ?_⟩)⟩
        have ec := c9 rfl
        subst ec
        have f21 : vi M9 m 21 = nI (τ.length + 1) := by rw [g9.1.f (by decide) (by decide)]; exact h0.2.1.1
        have f19 : vi M9 m 19 = nI dp0 := by rw [g9.1.f (by decide) (by decide)]; exact h0.2.2.1
        have d10 := h0.2.2.2.1
        have l100 : τ.length + 1 ≤ 100 := h0.2.2.2.2
        rw [f21, show (1 : Int32) = nI 1 from rfl, pk_sub (by omega), show τ.length + 1 - 1 = τ.length by omega] at e10
        have g10 : ∀ M11 dp1, M11 = seti M10 m 19 (nI dp1) → dp1 ≤ 10 → TsA M11 m T s p (cd0 ++ [c]) n τ dp1 ∧ FrT m s M M11 := fun M11 dp1 e11 hd1 => by
          have g : Frl m [19, 21] [20] M9 M11 := by rw [e11, e10]; exact (Frl.sf (by decide)).trans (Frl.sf (by decide))
          refine ⟨⟨h9.ks g, ⟨by rw [e11, vi_seti, if_neg (by omega), e10, vi_seti, if_pos ⟨rfl, rfl⟩], fun i hi => ?_, fun b hb => h0.2.1.2.2 b (List.mem_cons_of_mem _ hb)⟩, by rw [e11, vi_seti, if_pos ⟨rfl, rfl⟩], hd1, by omega⟩, w0.trans (g9.t.trans (FrT.ks g))⟩
          rw [e11, vi_seti, if_neg (by omega), e10, vi_seti, if_neg (by omega), g9.1.i (by decide) (by decide)]
          have := h0.2.1.2.1 (i + 1) (by rw [List.length_cons]; omega)
          rw [List.length_cons, show τ.length + 1 - 1 - (i + 1) = τ.length - 1 - i by omega] at this
          exact this
        have x19 : vi M10 m 19 = nI dp0 := by rw [e10, vi_seti, if_neg (by omega)]; exact f19
        rw [x19]
        have ecd : cd0 ++ [c] ++ List.replicate (led a τ) c = cd ++ List.replicate (led a σ) c := by
          rw [← e1, List.append_assoc]
          rfl
        refine ⟨fun n9 M11 e11 => ?_, fun y9 M11 e11 => ?_⟩
        · have n9' : ¬ a = 9 := fun z => n9 (by rw [z]; rfl)
          rw [show nI dp0 - 0 = nI dp0 from by rw [show (0 : Int32) = nI 0 from rfl, pk_sub (Nat.zero_le _), Nat.sub_zero]] at e11
          have g11 := g10 M11 dp0 e11 d10
          refine r_answers_0 g11.1.1.1.1 (ih M11 (cd0 ++ [c]) dp0 g11.1 g11.2 (by rw [List.length_append, List.length_singleton]; omega) (fun z => absurd z n9') ecd e2 ?_)
          rw [if_neg n9'] at e3 ⊢
          exact e3
        · have y9' : a = 9 := by
            rw [show (9 : Int32) = nI 9 from rfl, eq_I (by omega) (by omega)] at y9; exact y9
          have dd := d0 y9'
          rw [← y9', l1] at dd
          rw [show (1 : Int32) = nI 1 from rfl, pk_sub (by omega)] at e11
          have g11 := g10 M11 (dp0 - 1) e11 (by omega)
          refine r_answers_0 g11.1.1.1.1 (ih M11 (cd0 ++ [c]) (dp0 - 1) g11.1 g11.2 (by rw [List.length_append, List.length_singleton]; omega) (fun _ => by rw [← y9']; omega) ecd e2 ?_)
          rw [if_pos y9'] at e3 ⊢
          omega
  exact r_answers h.1.1.1 (key σ M cd dp h FrT.refl hr hd rfl rfl rfl)
end
