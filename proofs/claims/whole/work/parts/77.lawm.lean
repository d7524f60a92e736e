/-! READING LAWS: the reference's TESTS -/
theorem pX_sk {t : TpT} (t4 : t.1 ≤ 400) : ∀ (k w dp p : Nat) (cd : List Nat) (n : Nat), p ≤ t.1 → n ≤ 60 → (w ≤ 1 ∨ skB t p = p) → (pX t k w dp p cd n).1 = 0 → skB t (pX t k w dp p cd n).2.1 = (pX t k w dp p cd n).2.1
  | 0, w, dp, p, cd, n, p4, n6, hw, h => absurd h (by show ¬ 99999 = 0; omega)
  | k + 1, w, dp, p, cd, n, p4, n6, hw, h => by
    have ih := pX_sk t4 k
    have rm := pX_rom t4 k
    let φ : Nat × LxT → Prop := fun F => F.1 = 0 → skB t F.2.1 = F.2.1
    have key : φ (pX t (k + 1) w dp p cd n) := by
      unfold pX
      refine cif_el (φ := φ) (fun w0 => ?_) (fun w0 => ?_)
      · refine cif_el (φ := φ) (fun c => ?_) (fun c => ?_)
        · refine cif_el (φ := φ) (fun _ z => absurd z (flt_ne _ _)) (fun _ => ?_)
          refine bnd_el (φ := φ) (fun y z => absurd z y) (fun _ => ?_)
          exact cif_el (φ := φ) (fun _ _ => skB_id t _) (fun _ z => absurd z (flt_ne _ _))
        · refine cif_el (φ := φ) (fun c => ?_) (fun c => fun z => pCmp_sk t4 p4 n6 z)
          refine cif_el (φ := φ) (fun _ z => absurd z (flt_ne _ _)) (fun _ => ?_)
          have lw := wl_of c
          have l3 : wNot.length = 3 := rfl
          have wq := wl_le p4
          have sk := skB_le (t := t) (p := p + 3) (by omega)
          exact bnd_el (φ := φ) (fun y z => absurd z y) (fun y _ => ih 0 (dp + 1) _ cd n sk.2 n6 (Or.inl (by omega)) y)
      · have lp : ∀ (p : Nat) (cd : List Nat) (n : Nat), p ≤ t.1 → n ≤ 60 → skB t p = p → φ (pX t k 2 dp p cd n) := fun p cd n h1 h2 h3 z => ih 2 dp p cd n h1 h2 (Or.inr h3) z
        have lp3 : ∀ (p : Nat) (cd : List Nat) (n : Nat), p ≤ t.1 → n ≤ 60 → skB t p = p → φ (pX t k 3 dp p cd n) := fun p cd n h1 h2 h3 z => ih 3 dp p cd n h1 h2 (Or.inr h3) z
        refine cif_el (φ := φ) (fun w1 => ?_) (fun w1 => ?_)
        · refine bnd_el (φ := φ) (fun y z => absurd z y) (fun y => ?_)
          have r2 := (rm 0 dp p cd n p4 n6).2 y
          have s2 := ih 0 dp p cd n p4 n6 (Or.inl (by omega)) y
          generalize pX t k 0 dp p cd n = Y at *
          refine bnd_el (φ := φ) (fun y z => absurd z y) (fun y => ?_)
          have r3 := (rm 2 dp Y.2.1 Y.2.2.1 Y.2.2.2 r2.2.1 r2.2.2.1).2 y
          exact lp3 _ _ _ r3.2.1 r3.2.2.1 (lp _ _ _ r2.2.1 r2.2.2.1 s2 y)
        · have hs := hw.resolve_left (by omega)
          refine cif_el (φ := φ) (fun w2 => ?_) (fun w2 => ?_)
          · refine cif_el (φ := φ) (fun c => ?_) (fun _ _ => hs)
            have lw := wl_of c
            have l3 : wAnd.length = 3 := rfl
            have wq := wl_le p4
            have sk := skB_le (t := t) (p := p + 3) (by omega)
            refine bnd_el (φ := φ) (fun y z => absurd z y) (fun y => ?_)
            have r2 := (rm 0 dp _ cd n sk.2 n6).2 y
            exact lp _ _ _ r2.2.1 r2.2.2.1 (ih 0 dp _ cd n sk.2 n6 (Or.inl (by omega)) y)
          · refine cif_el (φ := φ) (fun c => ?_) (fun _ _ => hs)
            have lw := wl_of c
            have l3 : wOr.length = 2 := rfl
            have wq := wl_le p4
            have sk := skB_le (t := t) (p := p + 2) (by omega)
            refine bnd_el (φ := φ) (fun y z => absurd z y) (fun y => ?_)
            have r2 := (rm 0 dp _ cd n sk.2 n6).2 y
            have s2 := ih 0 dp _ cd n sk.2 n6 (Or.inl (by omega)) y
            generalize pX t k 0 dp (skB t (p + 2)) cd n = Y at *
            refine bnd_el (φ := φ) (fun y z => absurd z y) (fun y => ?_)
            have r3 := (rm 2 dp Y.2.1 Y.2.2.1 Y.2.2.2 r2.2.1 r2.2.2.1).2 y
            exact lp3 _ _ _ r3.2.1 r3.2.2.1 (lp _ _ _ r2.2.1 r2.2.2.1 s2 y)
    exact key h
def tTop (G : GT) (D m : Nat) (Q : Mem → Prop) (M9 : Mem) : Prop := CI G D 186 [.ref m] M9 (fun v11 M10 => RefAt M10 m ∧ ((¬ v11 = (12 : Int32) → At G (D + 1) 190 199 [(0, .ref m), (1, .int 0), (2, .int (0 : Int32))] [] M10 (qV Q)) ∧ (v11 = (12 : Int32) → CI G D 174 [.ref m] M10 (fun v13 M12 => RefAt M12 m ∧ ((v13 = (93 : Int32) → At G (D + 1) 190 164 [(0, .ref m), (1, .int 0), (2, .int 1)] [] M12 (qV Q)) ∧ (¬ v13 = (93 : Int32) → CV G D 173 [.ref m, .int (0 : Int32), .int (vi M12 m 14)] M12 (fun M14 => RefAt M14 m ∧ (At G (D + 1) 190 164 [(0, .ref m), (1, .int 0), (2, .int 1)] [] M14 (qV Q)))))))))
def tF (G : GT) (D m : Nat) (Q : Mem → Prop) (v5 v7 : Int32) (M8 : Mem) : Prop := (¬ v5 = 0 → At G (D + 1) 190 82 [(0, .ref m), (2, .int 1), (3, .int v5), (4, .int v7)] [] M8 (qV Q)) ∧ (v5 = 0 → (v7 = 0 → CV G D 188 [.ref m, .int (11 : Int32)] M8 (fun M9 => RefAt M9 m ∧ tTop G D m Q M9)) ∧ (¬ v7 = 0 → At G (D + 1) 190 82 [(0, .ref m), (2, .int 1), (3, .int v5), (4, .int v7)] [] M8 (qV Q)))
def tMid (G : GT) (D m : Nat) (Q : Mem → Prop) (M3 : Mem) : Prop := CI G D 177 [.ref m, .ref (gk G 25)] M3 (fun v5 M4 => RefAt M4 m ∧ (CI G D 177 [.ref m, .ref (gk G 26)] M4 (fun v7 M6 => RefAt M6 m ∧ (CV G D 188 [.ref m, .int (10 : Int32)] M6 (fun M8 => RefAt M8 m ∧ tF G D m Q v5 v7 M8)))))
section
variable {G : GT} {d : Nat} {M M' : Mem} {m s p n f dp : Nat} {T : StT} {cd σ : List Nat} {Q : Mem → Prop}
/-- behind a FAULT -/
def LwF (M : Mem) (m : Nat) (T : StT) (f : Nat) : Prop := RX M m T ∧ vi M m 15 = nI f ∧ f < 100000 ∧ ∃ p, p < 1000 ∧ vi M m 14 = nI p
theorem LwA.toF (h : LwA M m T s p cd n f) : LwF M m T f := ⟨h.1, h.ff, h.f4, p, by have := h.p4; have t4 : T.1.1 ≤ 400 := h.1.t4; omega, h.pp⟩
theorem hd_bad {w : Int32} (h : LwF M m T f) (f0 : ¬ f = 0) (hq : Q M) : At G (d + 11) 190 9 [(0, .ref m), (1, .int w), (2, .int 1)] [] M (qV Q) := by
  have f4 := h.2.2.1
  refine r_test_9 h.1.1 ⟨fun z => absurd z (by decide), fun _ => ⟨fun _ => r_test_202 h.1.1 hq, fun z => ?_⟩⟩
  rw [h.2.1, il_0, eq_I (by omega) (by omega)] at z
  exact absurd z f0
theorem TsA.frw {p' n' : Nat} {cd' : List Nat} (h : TsA M m T s p cd n σ dp) (g : FrW m s M M') (h' : LwA M' m T s p' cd' n' 0) : TsA M' m T s p' cd' n' σ dp :=
  ⟨h', ⟨by rw [g.1.f (by decide) (by decide)]; exact h.2.1.1, fun i hi => by rw [g.1.i (by decide) (by decide)]; exact h.2.1.2.1 i hi, h.2.1.2.2⟩, by rw [g.1.f (by decide) (by decide)]; exact h.2.2.1, h.2.2.2⟩
theorem ledR_0 {k : Nat} : ∀ {σ : List Nat}, led k σ = 0 → ledR k σ = σ
  | [], _ => rfl
  | a :: r, h => by
    by_cases z : a = k
    · have : led k (a :: r) = led k r + 1 := if_pos z
      omega
    · exact if_neg z
theorem hd0 (h : TsA M m T s p cd n σ dp) (hr : 3 * (cd.length + led 9 σ) ≤ 6 * n + p) (hd : led 9 σ ≤ dp)
    (hq : ∀ M', FrT m s M M' → TsA M' m T s (skB T.1 p) (cd ++ List.replicate (led 9 σ) 200011) n (ledR 9 σ) (dp - led 9 σ) → tMid G (d + 10) m Q M') : At G (d + 11) 190 9 [(0, .ref m), (1, .int 0), (2, .int 1)] [] M (qV Q) := by
  have t4 : T.1.1 ≤ 400 := h.1.1.t4
  have p4 := h.1.p4
  have sk := skB_le p4
  refine r_test_9 h.1.1.1 ⟨fun z => absurd z (by decide), fun _ => ⟨fun z => absurd h.1.ff z, fun _ => ⟨fun _ => ?_, fun z => absurd rfl z⟩⟩⟩
  refine s_answers (k := 9) (c := 200011) h ⟨by omega, rS_o (k := 11) (by decide) rfl⟩ hr (fun _ => hd) (fun M2 g2 h2 => ⟨h2.1.1.1, s_blanks h2.1.1 h2.1.pp (by omega) (fun M3 g3 e3 => ⟨g3.ra h2.1.1.1, ?_⟩)⟩)
  exact hq M3 (g2.trans (FrT.ofF g3 (by decide))) (h2.mv g3 e3 sk.2 sk.1)
end
