/-! CHANGED, RUN, COSTS: the reference -/
def olR (M : Mem) (m : Nat) (t : List Int32) (A : List LnT) : Prop := (∀ i, i < t.length → vi M (m + 38) i = t.getD i 0) ∧ ∀ i, i < A.length → vi M (m + 36) i = nI (A.getD i (0, [])).1 ∧ vi M (m + 37) i = nI (A.getD i (0, [])).2.length
section
variable {G : GT} {d : Nat} {M M' : Mem} {m w : Nat} {T : StT} {t tA tB : List Int32} {A B : List LnT}
theorem s_blanksOf {c a : Nat} {Q : Int32 → Mem → Prop} (R : RefAt M m) (k15 : mK M c = 15) (l4 : mA M c = 400) (tx : ∀ i, i < t.length → vi M c i = t.getD i 0) (t4 : t.length ≤ 400) (h1 : nxb t a < t.length) (hq : Q (nI (nxb t a - a)) M) : CI G (d + 1) 247 [.ref m, .ref c, .int (nI a)] M Q := by
  have rin : ∀ i, i < run (fun i => t.getD i 0 = 32) a t.length → t.getD (a + i) 0 = 32 := run_in (P := fun i => t.getD i 0 = 32) _ a rfl
  have rend : ¬ (a + run (fun i => t.getD i 0 = 32) a t.length < t.length ∧ t.getD (a + run (fun i => t.getD i 0 = 32) a t.length) 0 = 32) := run_end (P := fun i => t.getD i 0 = 32) _ a rfl
  unfold nxb at h1 hq
  generalize run (fun i => t.getD i 0 = 32) a t.length = n at *
  have key : ∀ j i, j + i = n → At G (d + 1) 247 2 [(1, .ref c), (2, .int (nI a)), (3, .int (nI (a + i)))] [] M (qI Q) := by
    intro j
    induction j with
    | zero =>
      intro i e
      have e : i = n := by omega
      subst e
      refine r_blanksOf_2 R ⟨k15, by rw [l4]; exact vp_in_nI (by omega) (by omega), ?_⟩
      rw [nI_clamp (by omega), tx _ h1, pk_sub (by omega)]
      exact ⟨fun _ => hq, fun z => absurd ⟨h1, z⟩ rend⟩
    | succ j ih =>
      intro i e
      refine r_blanksOf_2 R ⟨k15, by rw [l4]; exact vp_in_nI (by omega) (by omega), ?_⟩
      rw [nI_clamp (by omega), tx _ (by omega), nI_1]
      exact ⟨fun z => absurd (rin i (by omega)) z, fun _ => ih (i + 1) (by omega)⟩
  exact r_blanksOf R (key n 0 rfl)
theorem nxb_ge {a : Nat} : a ≤ nxb t a := Nat.le_add_right _ _
theorem s_isSameLine {k : Nat} {Q : Int32 → Mem → Prop} (R : RefAt M m) (oA : olR M m tA A) (sB : stX M m tB) (lB : lnR M m B) (a4 : tA.length ≤ 400) (b4 : tB.length ≤ 400) (wA : lwk tA A) (wB : lwk tB B) (l4 : A.length ≤ 400) (k1 : k < A.length) (k2 : k < B.length) (la : ∀ x ∈ A, x.2.length ≤ 60) (lb : ∀ x ∈ B, x.2.length ≤ 60) (hq : Q (bI ((A.getD k (0, [])).2 = (B.getD k (0, [])).2)) M) : CI G (d + 2) 246 [.ref m, .int (nI k)] M Q := by
  have mA : A.getD k (0, []) ∈ A := by rw [List.getD_eq_getElem?_getD, List.getElem?_eq_getElem k1]; exact List.getElem_mem k1
  have mB : B.getD k (0, []) ∈ B := by rw [List.getD_eq_getElem?_getD, List.getElem?_eq_getElem k2]; exact List.getElem_mem k2
  have xa := la _ mA
  have xb := lb _ mB
  obtain ⟨eA, wa⟩ := wA _ mA
  obtain ⟨eB, wb⟩ := wB _ mB
  have vA := oA.2 k k1
  have vB := lB.2 k k2
  generalize A.getD k (0, []) = x at *
  generalize B.getD k (0, []) = y at *
  have vk : vp_in (nI k) 401 := vp_in_nI (by omega) (by omega)
  refine r_isSameLine R ?_
  rw [nI_clamp (n := k) (by omega), vA.1, vA.2, vB.1, vB.2, eq_I (a := x.2.length) (by omega) (by omega)]
  refine ⟨vk, vk, fun el => ⟨vk, vk, ?_⟩, fun ne => qF2 hq (fun z => ne (by rw [z]))⟩
  have key : ∀ (va vb : List Int32) (a b i : Nat) (s : Int32), va.length = vb.length → i + va.length = x.2.length → wkO tA a va eA → wkO tB b vb eB → (s = 0 ∨ s = 1) → (s = 0 → Q 0 M) → (s = 1 → Q (bI (va = vb)) M) → At G (d + 2) 246 37 [(0, .ref m), (1, .int (nI k)), (2, .int (nI a)), (3, .int (nI b)), (4, .int s), (5, .int (nI i))] [] M (qI Q) := by
    intro va
    induction va with
    | nil =>
      intro vb a b i s e1 e2 _ _ hs q0 q1
      have e2 : i + 0 = x.2.length := e2
      have en : vb = [] := List.eq_nil_of_length_eq_zero e1.symm
      subst en
      refine r_isSameLine_37 R ⟨vk, ?_⟩
      rw [nI_clamp (n := k) (by omega), vB.2, le_I (by omega) (by omega)]
      refine ⟨fun _ => ⟨hs, ?_⟩, fun z => absurd (by omega) z⟩
      rcases hs with z | z
      · rw [z]; exact q0 z
      · rw [z, ← bI_T (p := ([] : List Int32) = []) rfl]; exact q1 z
    | cons ca va ih =>
      intro vb a b i s e1 e2 w1 w2 hs q0 q1
      match vb, e1, w2, q1 with
      | cb :: vb, e1, w2, q1 =>
        rw [List.length_cons, List.length_cons] at e1
        rw [List.length_cons] at e2
        obtain ⟨a1, a2, a3, a5⟩ := w1
        obtain ⟨b1, b2, b3, b5⟩ := w2
        refine r_isSameLine_37 R ⟨vk, ?_⟩
        rw [nI_clamp (n := k) (by omega), vB.2, le_I (by omega) (by omega), nI_clamp (n := a) (by omega), nI_clamp (n := b) (by omega), oA.1 a a1, a2, sB.2 b b1, b2]
        refine ⟨fun z => absurd z (by omega), fun _ => ⟨fun z => ⟨hs, by rw [z]; exact q0 z⟩, fun nz => ?_⟩⟩
        have s1 := hs.resolve_left nz
        have q1 := q1 s1
        have va1 : vp_in (nI a) 400 := vp_in_nI (by omega) (by omega)
        have vb1 : vp_in (nI b) 400 := vp_in_nI (by omega) (by omega)
        have four : ∀ s' : Int32, (s' = 0 ∨ s' = 1) → (s' = 0 → Q 0 M) → (s' = 1 → Q (bI (va = vb)) M) → ((¬ ca = (32 : Int32) → vp_in (nI b) 400 ∧ ((¬ cb = (32 : Int32) → At G (d + 2) 246 37 [(0, .ref m), (1, .int (nI k)), (2, .int (nI a + (1 : Int32))), (3, .int (nI b + (1 : Int32))), (4, .int s'), (5, .int (nI i + (1 : Int32)))] [] M (qI Q)) ∧ (cb = (32 : Int32) → CI G (d + 1) 247 [.ref m, .ref (m + 33), .int (nI b)] M (fun v2 M1 => RefAt M1 m ∧ (At G (d + 2) 246 37 [(0, .ref m), (1, .int (nI k)), (2, .int (nI a + (1 : Int32))), (3, .int (nI b + v2)), (4, .int s'), (5, .int (nI i + (1 : Int32)))] [] M1 (qI Q)))))) ∧ (ca = (32 : Int32) → CI G (d + 1) 247 [.ref m, .ref (m + 38), .int (nI a)] M (fun v4 M3 => RefAt M3 m ∧ (vp_in (nI b) 400 ∧ ((¬ (vi M3 (m + 33) b) = (32 : Int32) → At G (d + 2) 246 37 [(0, .ref m), (1, .int (nI k)), (2, .int (nI a + v4)), (3, .int (nI b + (1 : Int32))), (4, .int s'), (5, .int (nI i + (1 : Int32)))] [] M3 (qI Q)) ∧ ((vi M3 (m + 33) b) = (32 : Int32) → CI G (d + 1) 247 [.ref m, .ref (m + 33), .int (nI b)] M3 (fun v6 M5 => RefAt M5 m ∧ (At G (d + 2) 246 37 [(0, .ref m), (1, .int (nI k)), (2, .int (nI a + v4)), (3, .int (nI b + v6)), (4, .int s'), (5, .int (nI i + (1 : Int32)))] [] M5 (qI Q))))))))) := fun s' hs' q0' q1' => by
          have nx := ih vb (nxc tA a) (nxc tB b) (i + 1) s' (by omega) (by omega) a5 b5 hs' q0' q1'
          unfold nxc at nx
          rw [a2, b2] at nx
          have ga := nxb_ge (t := tA) (a := a)
          have gb := nxb_ge (t := tB) (a := b)
          refine ⟨fun na => ⟨vb1, fun nb => ?_, fun yb => ?_⟩, fun ya => ?_⟩
          · rw [cif_F na, cif_F nb] at nx; rw [nI_1, nI_1, nI_1]; exact nx
          · rw [cif_F na, cif_T yb] at nx
            refine s_blanksOf R (ra_k45 R) (ra_l45 R) sB.2 b4 (b3 yb) ⟨R, ?_⟩
            rw [nI_1, nI_1, nI_add, show b + (nxb tB b - b) = nxb tB b by omega]; exact nx
          · rw [cif_T ya] at nx
            refine s_blanksOf R (ra_k50 R) (ra_l50 R) oA.1 a4 (a3 ya) ⟨R, vb1, ?_⟩
            rw [sB.2 b b1, b2, nI_add, show a + (nxb tA a - a) = nxb tA a by omega, nI_1, nI_1]
            refine ⟨fun nb => ?_, fun yb => ?_⟩
            · rw [cif_F nb] at nx; exact nx
            · rw [cif_T yb] at nx
              refine s_blanksOf R (ra_k45 R) (ra_l45 R) sB.2 b4 (b3 yb) ⟨R, ?_⟩
              rw [nI_add, show b + (nxb tB b - b) = nxb tB b by omega]; exact nx
        refine ⟨va1, vb1, fun ne => ⟨va1, ?_⟩, fun eq => ⟨va1, ?_⟩⟩
        · exact four 0 (Or.inl rfl) (fun _ => by rw [bI_F (fun z => ne (by injection z))] at q1; exact q1) (fun z => absurd z (by decide))
        · refine four 1 (Or.inr rfl) (fun z => absurd z (by decide)) (fun _ => ?_)
          rw [show (ca :: va = cb :: vb) = (va = vb) from propext ⟨fun z => by injection z, fun z => by rw [eq, z]⟩] at q1
          exact q1
  exact key x.2 y.2 x.1 y.1 0 1 el (by omega) wa wb (Or.inr rfl) (fun z => absurd z (by decide)) (fun _ => hq)
end
