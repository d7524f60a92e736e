/-! READING LAWS: the reference's TESTS, by the spec -/
section
variable {G : GT} {d m s : Nat} {T : StT}
/-- where a FAULT leads -/
def bF (m s : Nat) (T : StT) (Q : Mem → Prop) (M : Mem) (F : Nat × LxT) : Prop := ¬ F.1 = 0 → ∀ M', FrT m s M M' → LwF M' m T F.1 → Q M'
def FS (G : GT) (d m s : Nat) (T : StT) (k : Nat) : Prop := ∀ (M : Mem) (p : Nat) (cd : List Nat) (n : Nat) (σ : List Nat) (dp : Nat) (Q : Mem → Prop), TsA M m T s p cd n σ dp → 4 * (T.1.1 - skB T.1 p) + 1 ≤ k → 3 * (cd.length + led 9 σ) ≤ 6 * n + p → led 9 σ ≤ dp → σ.length ≤ 3 * dp + 2 →
  bF m s T Q M (pX T.1 k 0 dp (skB T.1 p) cd n) → ((pX T.1 k 0 dp (skB T.1 p) cd n).1 = 0 → ∀ M', FrT m s M M' → TsA M' m T s (pX T.1 k 0 dp (skB T.1 p) cd n).2.1 ((pX T.1 k 0 dp (skB T.1 p) cd n).2.2.1 ++ List.replicate (led 9 σ) 200011) (pX T.1 k 0 dp (skB T.1 p) cd n).2.2.2 (ledR 9 σ) (dp - led 9 σ) → tMid G (d + 10) m Q M') →
  At G (d + 11) 190 9 [(0, .ref m), (1, .int 1), (2, .int 1)] [] M (qV Q)
def TS (G : GT) (d m s : Nat) (T : StT) (k : Nat) : Prop := ∀ (M : Mem) (p : Nat) (cd : List Nat) (n : Nat) (σ : List Nat) (dp : Nat) (Q : Mem → Prop), TsA M m T s p cd n σ dp → 4 * (T.1.1 - skB T.1 p) + 2 ≤ k → (led 9 σ = 0 ∧ led 10 σ = 0 ∧ led 11 σ = 0) → σ.length ≤ 3 * dp →
  bF m s T Q M (pX T.1 k 1 dp (skB T.1 p) cd n) → ((pX T.1 k 1 dp (skB T.1 p) cd n).1 = 0 → ∀ M', FrT m s M M' → TsA M' m T s (pX T.1 k 1 dp (skB T.1 p) cd n).2.1 (pX T.1 k 1 dp (skB T.1 p) cd n).2.2.1 (pX T.1 k 1 dp (skB T.1 p) cd n).2.2.2 σ dp → tTop G (d + 10) m Q M') →
  At G (d + 11) 190 9 [(0, .ref m), (1, .int 1), (2, .int 1)] [] M (qV Q)
def AS (G : GT) (d m s : Nat) (T : StT) (k : Nat) : Prop := ∀ (M : Mem) (p : Nat) (cd : List Nat) (n : Nat) (σ σ' : List Nat) (dp : Nat) (Q : Mem → Prop), TsA M m T s p cd n σ' dp → (σ' = σ ∨ σ' = 10 :: σ) → skB T.1 p = p → 4 * (T.1.1 - p) + 1 ≤ k → (led 9 σ = 0 ∧ led 10 σ = 0) → σ.length ≤ 3 * dp + 1 → 3 * (cd.length + 1) ≤ 6 * n + p →
  bF m s T Q M (pX T.1 k 2 dp p (cd ++ List.replicate (led 10 σ') 200009) n) → ((pX T.1 k 2 dp p (cd ++ List.replicate (led 10 σ') 200009) n).1 = 0 → ∀ M', FrT m s M M' → TsA M' m T s (pX T.1 k 2 dp p (cd ++ List.replicate (led 10 σ') 200009) n).2.1 (pX T.1 k 2 dp p (cd ++ List.replicate (led 10 σ') 200009) n).2.2.1 (pX T.1 k 2 dp p (cd ++ List.replicate (led 10 σ') 200009) n).2.2.2 σ dp → tF G (d + 10) m Q 0 (bI (wAt T.1 (pX T.1 k 2 dp p (cd ++ List.replicate (led 10 σ') 200009) n).2.1 = wOr)) M') →
  tMid G (d + 10) m Q M
def OS (G : GT) (d m s : Nat) (T : StT) (k : Nat) : Prop := ∀ (M : Mem) (p : Nat) (cd : List Nat) (n : Nat) (σ σ' : List Nat) (dp : Nat) (Q : Mem → Prop), TsA M m T s p cd n σ' dp → (σ' = σ ∨ σ' = 11 :: σ) → skB T.1 p = p → 4 * (T.1.1 - p) + 1 ≤ k → (led 9 σ = 0 ∧ led 10 σ = 0 ∧ led 11 σ = 0) → σ.length ≤ 3 * dp → 3 * (cd.length + 1) ≤ 6 * n + p →
  bF m s T Q M (pX T.1 k 3 dp p (cd ++ List.replicate (led 11 σ') 200010) n) → ((pX T.1 k 3 dp p (cd ++ List.replicate (led 11 σ') 200010) n).1 = 0 → ∀ M', FrT m s M M' → TsA M' m T s (pX T.1 k 3 dp p (cd ++ List.replicate (led 11 σ') 200010) n).2.1 (pX T.1 k 3 dp p (cd ++ List.replicate (led 11 σ') 200010) n).2.2.1 (pX T.1 k 3 dp p (cd ++ List.replicate (led 11 σ') 200010) n).2.2.2 σ dp → tTop G (d + 10) m Q M') →
  tF G (d + 10) m Q 0 (bI (wAt T.1 p = wOr)) M
theorem bF.fr {Q : Mem → Prop} {M M' : Mem} {F : Nat × LxT} (h : bF m s T Q M F) (g : FrT m s M M') : bF m s T Q M' F := fun z M'' g' h' => h z M'' (g.trans g') h'
theorem bnd_T {F : Nat × LxT} {g : Nat → List Nat → Nat → Nat × LxT} (h : F.1 = 0) : bnd F g = g F.2.1 F.2.2.1 F.2.2.2 := cif_T h
theorem bnd_F {F : Nat × LxT} {g : Nat → List Nat → Nat → Nat × LxT} (h : ¬ F.1 = 0) : bnd F g = F := cif_F h
/-- a FAULT of what is first -/
theorem bF.one {Q : Mem → Prop} {M : Mem} {F : Nat × LxT} {g : Nat → List Nat → Nat → Nat × LxT} (h : bF m s T Q M (bnd F g)) : bF m s T Q M F := fun z M' g' h' => by
  unfold bF at h
  rw [bnd_F z] at h
  exact h z M' g' h'
theorem bF.two {Q : Mem → Prop} {M : Mem} {F : Nat × LxT} {g : Nat → List Nat → Nat → Nat × LxT} (h : bF m s T Q M (bnd F g)) (z : F.1 = 0) : bF m s T Q M (g F.2.1 F.2.2.1 F.2.2.2) := by
  rw [bnd_T z] at h
  exact h
theorem TS_s {k : Nat} (fs : FS G d m s T k) (as : AS G d m s T k) (os : OS G d m s T k) : TS G d m s T (k + 1) := by
  intro M p cd n σ dp Q h hk hl hL hb hq
  have t4 : T.1.1 ≤ 400 := h.1.1.t4
  have p4 := h.1.p4
  have sk := skB_le p4
  have b := h.1.b rfl
  have eP : pX T.1 (k + 1) 1 dp (skB T.1 p) cd n = bnd (pX T.1 k 0 dp (skB T.1 p) cd n) (fun p cd n => bnd (pX T.1 k 2 dp p cd n) (fun p cd n => pX T.1 k 3 dp p cd n)) := by
    show cif (1 = 0) _ (cif (1 = 1) _ _) = _
    rw [cif_F (by omega), cif_T rfl]
  rw [eP] at hb hq
  have r1 := pX_rom t4 k 0 dp (skB T.1 p) cd n sk.2 b.1
  have e9 : rmK 0 = 9 := rfl
  have e2 : rmK 2 = 0 := rfl
  refine fs M p cd n σ dp Q h (by omega) (by rw [hl.1]; omega) (by rw [hl.1]; omega) (by omega) hb.one (fun z M1 g1 h1 => ?_)
  rw [hl.1, ledR_0 hl.1] at h1
  have h1 : TsA M1 m T s _ ((pX T.1 k 0 dp (skB T.1 p) cd n).2.2.1 ++ []) _ σ dp := h1
  rw [List.append_nil] at h1
  have hb1 := (hb.two z).fr g1
  rw [bnd_T z] at hq
  have r2 := r1.2 z
  have s2 := pX_sk t4 k 0 dp (skB T.1 p) cd n sk.2 b.1 (Or.inl (by omega)) z
  generalize pX T.1 k 0 dp (skB T.1 p) cd n = R at *
  have l0 : R.2.2.1 ++ List.replicate (led 10 σ) 200009 = R.2.2.1 := by rw [hl.2.1]; exact List.append_nil _
  have r3 := pX_rom t4 k 2 dp R.2.1 R.2.2.1 R.2.2.2 r2.2.1 r2.2.2.1
  refine as M1 R.2.1 R.2.2.1 R.2.2.2 σ σ dp Q h1 (Or.inl rfl) s2 (by omega) ⟨hl.1, hl.2.1⟩ (by omega) (by omega) (by rw [l0]; exact hb1.one) ?_
  rw [l0]
  intro z2 M2 g2 h2
  have hb2 := (hb1.two z2).fr g2
  rw [bnd_T z2] at hq
  have r4 := r3.2 z2
  have s4 := pX_sk t4 k 2 dp R.2.1 R.2.2.1 R.2.2.2 r2.2.1 r2.2.2.1 (Or.inr s2) z2
  generalize pX T.1 k 2 dp R.2.1 R.2.2.1 R.2.2.2 = U at *
  have l1 : U.2.2.1 ++ List.replicate (led 11 σ) 200010 = U.2.2.1 := by rw [hl.2.2]; exact List.append_nil _
  refine os M2 U.2.1 U.2.2.1 U.2.2.2 σ σ dp Q h2 (Or.inl rfl) s4 (by omega) hl hL (by omega) (by rw [l1]; exact hb2) ?_
  rw [l1]
  exact fun z3 M3 g3 h3 => hq z3 M3 (g1.trans (g2.trans g3)) h3
end
