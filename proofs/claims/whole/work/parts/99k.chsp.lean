/-! CHANGED: lines as they are walked -/
noncomputable def nxb (t : List Int32) (a : Nat) : Nat := a + run (fun i => t.getD i 0 = 32) a t.length
noncomputable def nxc (t : List Int32) (a : Nat) : Nat := cif (t.getD a 0 = 32) (nxb t a) (a + 1)
def wkO (t : List Int32) : Nat → List Int32 → Nat → Prop
  | a, [], e => a = e
  | a, c :: v, e => a < t.length ∧ t.getD a 0 = c ∧ (c = 32 → nxb t a < t.length) ∧ wkO t (nxc t a) v e
def lwk (t : List Int32) (acc : List LnT) : Prop := ∀ x ∈ acc, ∃ e, wkO t x.1 x.2 e
def lst (t : List Int32) (acc : List LnT) (k : Nat) : Prop := ∀ A x, acc = A ++ [x] → ∃ e, wkO t x.1 x.2 e ∧ e < k ∧ ∀ i, e ≤ i → i < k → i < t.length → t.getD i 0 = 32
/-- lines that are not the same -/
def dif (A B : List LnT) (k : Nat) : Prop := ¬ (k < A.length ∧ k < B.length ∧ (A.getD k (0, [])).2 = (B.getD k (0, [])).2)
noncomputable def pg (p : Nat → Prop) (g : Nat) : Nat → Nat × Int32
  | 0 => (0, -1)
  | k + 1 => cif (p k ∧ ¬ nI (k / g) = (pg p g k).2) ((pg p g k).1 + 1, nI (k / g)) (pg p g k)
noncomputable def chA (T : StT) (w : Nat) : List LnT := lnL (gL' (sh T)) w
noncomputable def chB (T : StT) (l w : Nat) : List LnT := lnL (ouT (sh T) (qL T l)) w
noncomputable def chM (T : StT) (l w : Nat) : Nat := max (chA T w).length (chB T l w).length
/-- what the marks that stand cost, those of the slots below n -/
noncomputable def csM (S : ShT) (p : Nat → Prop) : Nat → Int32
  | 0 => 0
  | n + 1 => csM S p n + cif (p n ∧ ∀ o, o < n → p o → ¬ kM S o = kM S n) (cC S (kK (kM S n)).toNatClampNeg * kL (kM S n)) 0
noncomputable def f_changed (T : StT) (r w : Int32) : Int32 := cif (lwOk T r ∧ wOk w) (nI (pg (dif (chA T w.toNatClampNeg) (chB T r.toNatClampNeg w.toNatClampNeg)) 1 (chM T r.toNatClampNeg w.toNatClampNeg)).1) (-1)
noncomputable def f_run (T : StT) (r w g : Int32) : Int32 := cif (lwOk T r ∧ wOk w ∧ (1 ≤ g.toInt ∧ g.toInt ≤ 60)) (nI (pg (dif (chA T w.toNatClampNeg) (chB T r.toNatClampNeg w.toNatClampNeg)) g.toNatClampNeg (chM T r.toNatClampNeg w.toNatClampNeg)).1) (-1)
noncomputable def f_costs (T : StT) (r w : Int32) : Int32 := cif (lwOk T r ∧ wOk w) (csM (sh T) (stS (sh T) (qL T r.toNatClampNeg)) 64 + cC (sh T) 6 * nI (pg (dif (chA T w.toNatClampNeg) (chB T r.toNatClampNeg w.toNatClampNeg)) 1 (chM T r.toNatClampNeg w.toNatClampNeg)).1) (-1)
theorem pg_le {p : Nat → Prop} {g : Nat} : ∀ k, (pg p g k).1 ≤ k
  | 0 => Nat.le_refl _
  | k + 1 => by
    have ih := pg_le (p := p) (g := g) k
    unfold pg
    exact cif_el (φ := fun r : Nat × Int32 => r.1 ≤ k + 1) (fun _ => by show (pg p g k).1 + 1 ≤ _; omega) (fun _ => by omega)
theorem pg_1 {p : Nat → Prop} : ∀ k, k ≤ 100000 → (pg p 1 k).1 = ct p k ∧ ((pg p 1 k).2 = -1 ∨ ∃ j, j < k ∧ (pg p 1 k).2 = nI j)
  | 0, _ => ⟨rfl, Or.inl rfl⟩
  | k + 1, h => by
    obtain ⟨i1, i2⟩ := pg_1 (p := p) k (by omega)
    have ne : ¬ nI (k / 1) = (pg p 1 k).2 := by
      rw [Nat.div_one]
      rcases i2 with z | ⟨j, hj, z⟩
      · rw [z]; exact nI_neN1 (by omega)
      · rw [z, eq_I (by omega) (by omega)]; omega
    by_cases c : p k
    · have e : pg p 1 (k + 1) = ((pg p 1 k).1 + 1, nI (k / 1)) := by show cif _ _ _ = _; rw [cif_T ⟨c, ne⟩]
      rw [e, ct_y c, i1]
      exact ⟨rfl, Or.inr ⟨k, by omega, by rw [Nat.div_one]⟩⟩
    · have e : pg p 1 (k + 1) = pg p 1 k := by show cif _ _ _ = _; rw [cif_F (fun z => c z.1)]
      rw [e, ct_n c]
      exact ⟨i1, i2.imp id (fun ⟨j, hj, z⟩ => ⟨j, by omega, z⟩)⟩
section
variable {t : List Int32} {w : Nat} {acc : List LnT} {a k e : Nat} {u : List Int32}
theorem wkO_app : ∀ {v : List Int32} {a e : Nat} {v' : List Int32} {e' : Nat}, wkO t a v e → wkO t e v' e' → wkO t a (v ++ v') e'
  | [], a, e, v', e', h, h' => by cases h; exact h'
  | c :: v, a, e, v', e', h, h' => ⟨h.1, h.2.1, h.2.2.1, wkO_app h.2.2.2 h'⟩
theorem sg_s {n : Nat} (h : a < t.length) : sg t a (n + 1) = t.getD a 0 :: sg t (a + 1) n := by
  unfold sg
  rw [List.drop_eq_getElem_cons h, List.take_succ_cons]
  congr 1
  rw [List.getD_eq_getElem?_getD, List.getElem?_eq_getElem h]; rfl
theorem wkO_sg : ∀ {n a : Nat}, a + n ≤ t.length → (∀ i, i < n → ¬ t.getD (a + i) 0 = 32) → wkO t a (sg t a n) (a + n)
  | 0, a, h, hn => rfl
  | n + 1, a, h, hn => by
    have h0 := hn 0 (by omega)
    rw [Nat.add_zero] at h0
    rw [sg_s (by omega)]
    refine ⟨by omega, rfl, fun z => absurd z h0, ?_⟩
    unfold nxc
    rw [cif_F h0, show a + (n + 1) = a + 1 + n by omega]
    exact wkO_sg (by omega) (fun i hi => by rw [show a + 1 + i = a + (i + 1) by omega]; exact hn (i + 1) (by omega))
theorem run_bl {P : Nat → Prop} {n k : Nat} : ∀ j e, j + e = k → k < n → ¬ P k → (∀ i, e ≤ i → i < k → P i) → e + run P e n = k
  | 0, e, h, hk, np, hi => by
    have h : e = k := by omega
    subst h
    rw [run_n (fun z => np z.2)]; rfl
  | j + 1, e, h, hk, np, hi => by
    rw [run_y (by omega) (hi e (Nat.le_refl _) (by omega))]
    have := run_bl j (e + 1) (by omega) hk np (fun i h1 h2 => hi i (by omega) h2)
    omega
theorem snoc_inj {B A : List LnT} {y x : LnT} (h : B ++ [y] = A ++ [x]) : B = A ∧ y = x := by
  have := List.append_inj' h rfl
  exact ⟨this.1, by simpa using this.2⟩
theorem lwk_s {x : LnT} (h : lwk t acc) (hx : wkO t x.1 x.2 e) : lwk t (acc ++ [x]) := fun y hy => by
  rcases List.mem_append.mp hy with z | z
  · exact h y z
  · rw [List.mem_singleton.mp z]; exact ⟨e, hx⟩
theorem lnC_wk (w1 : 1 ≤ w) : ∀ (f : Nat) (acc : List LnT) (a n : Nat), n ≤ f → 0 < n → lwk t acc → a + n ≤ t.length → (∀ i, i < n → ¬ t.getD (a + i) 0 = 32) → lwk t (lnC w f acc a (sg t a n)) ∧ ∀ A x, lnC w f acc a (sg t a n) = A ++ [x] → wkO t x.1 x.2 (a + n)
  | 0, acc, a, n, h1, h2, _, _, _ => by omega
  | f + 1, acc, a, n, h1, h2, h, hl, hn => by
    have sl := sg_len hl
    unfold lnC
    by_cases c : w < (sg t a n).length
    · rw [if_pos c, sg_drop (by omega)]
      have et : (sg t a n).take w = sg t a w := by unfold sg; rw [List.take_take, Nat.min_eq_left (by omega)]
      rw [et]
      have := lnC_wk w1 f (acc ++ [(a, sg t a w)]) (a + w) (n - w) (by omega) (by omega) (lwk_s h (x := (a, sg t a w)) (wkO_sg (by omega) (fun i hi => hn i (by omega)))) (by omega) (fun i hi => by rw [Nat.add_assoc]; exact hn (w + i) (by omega))
      rw [show a + w + (n - w) = a + n by omega] at this
      exact this
    · rw [if_neg c]
      have wk : wkO t a (sg t a n) (a + n) := wkO_sg hl hn
      exact ⟨lwk_s h (x := (a, sg t a n)) wk, fun A x ex => by rw [← (snoc_inj ex).2]; exact wk⟩
theorem lnW_wk {n : Nat} (w1 : 1 ≤ w) (t4 : t.length ≤ 400) (n0 : 0 < n) (h : lwk t acc) (hs : lst t acc k) (hl : k + n ≤ t.length) (hn : ∀ i, i < n → ¬ t.getD (k + i) 0 = 32) : lwk t (lnW w acc k (sg t k n)) ∧ ∀ A x, lnW w acc k (sg t k n) = A ++ [x] → wkO t x.1 x.2 (k + n) := by
  unfold lnW
  by_cases c : w < (sg t k n).length
  · rw [if_pos c]
    exact lnC_wk w1 401 acc k n (by omega) n0 h hl hn
  · rw [if_neg c]
    have wk : wkO t k (sg t k n) (k + n) := wkO_sg hl hn
    have new : lwk t (acc ++ [(k, sg t k n)]) ∧ ∀ A x, acc ++ [(k, sg t k n)] = A ++ [x] → wkO t x.1 x.2 (k + n) := ⟨lwk_s h (x := (k, sg t k n)) wk, fun A x ex => by rw [← (snoc_inj ex).2]; exact wk⟩
    by_cases z : acc = []
    · subst z; exact new
    · obtain ⟨B, y, eB⟩ := last_of z
      subst eB
      unfold lnJ
      rw [List.getLast?_concat]
      dsimp only
      rw [List.dropLast_concat]
      by_cases c2 : y.2.length + 1 + (sg t k n).length ≤ w
      · rw [if_pos c2]
        obtain ⟨e, we, ek, eb⟩ := hs B y rfl
        have h0 := hn 0 n0
        rw [Nat.add_zero] at h0
        have e32 : t.getD e 0 = 32 := eb e (Nat.le_refl _) ek (by omega)
        have nx : nxb t e = k := run_bl (P := fun i => t.getD i 0 = 32) (k - e) e (by omega) (by omega) h0 (fun i h1 h2 => eb i h1 h2 (by omega))
        have w2 : wkO t y.1 (y.2 ++ 32 :: sg t k n) (k + n) := wkO_app we ⟨by omega, e32, fun _ => by rw [nx]; omega, by unfold nxc; rw [cif_T e32, nx]; exact wk⟩
        exact ⟨lwk_s (x := (y.1, y.2 ++ 32 :: sg t k n)) (fun x hx => h x (List.mem_append_left _ hx)) w2, fun A x ex => by rw [← (snoc_inj ex).2]; exact w2⟩
      · rw [if_neg c2]; exact new
theorem lnS_wk (w1 : 1 ≤ w) (t4 : t.length ≤ 400) : ∀ (f k : Nat) (acc : List LnT), lwk t acc → lst t acc k → lwk t (lnS t w f acc k)
  | 0, k, acc, h, hs => h
  | f + 1, k, acc, h, hs => by
    unfold lnS
    refine cif_el (φ := fun l : List LnT => lwk t l) (fun c => ?_) (fun _ => h)
    have wl := wr_le (t := t) (k := k) (by omega)
    have win : ∀ i, i < wr t k → ¬ t.getD (k + i) 0 = 32 := run_in (P := fun i => ¬ t.getD i 0 = 32) _ k rfl
    have wend : ¬ (k + wr t k < t.length ∧ ¬ t.getD (k + wr t k) 0 = 32) := run_end (P := fun i => ¬ t.getD i 0 = 32) _ k rfl
    generalize wr t k = n at *
    have bl : k + n < t.length → t.getD (k + n) 0 = 32 := fun z => Classical.byContradiction (fun y => wend ⟨z, y⟩)
    by_cases n0 : n = 0
    · rw [cif_T n0]
      subst n0
      refine lnS_wk w1 t4 f _ acc h (fun A x ex => ?_)
      obtain ⟨e, we, ek, eb⟩ := hs A x ex
      refine ⟨e, we, by omega, fun i h1 h2 h3 => ?_⟩
      by_cases y : i = k
      · rw [y]; exact bl (by omega)
      · exact eb i h1 (by omega) h3
    · rw [cif_F n0]
      have ww := lnW_wk (w := w) w1 t4 (by omega) h hs wl win
      refine lnS_wk w1 t4 f _ _ ww.1 (fun A x ex => ⟨k + n, ww.2 A x ex, by omega, fun i h1 h2 h3 => ?_⟩)
      rw [show i = k + n by omega]
      exact bl (by omega)
theorem lnL_wk (w1 : 1 ≤ w) (t4 : t.length ≤ 400) : lwk t (lnL t w) := lnS_wk w1 t4 402 0 [] (fun x hx => by cases hx) (fun A x ex => by have := congrArg List.length ex; rw [List.length_append] at this; exact absurd this (by show ¬ (0 = A.length + 1); omega))
theorem lnL_lb : ∀ x ∈ lnL t w, x.2.length ≤ w := by
  have key : ∀ (f k : Nat) (acc : List LnT), (∀ x ∈ acc, x.2.length ≤ w) → ∀ x ∈ lnS t w f acc k, x.2.length ≤ w := by
    intro f
    induction f with
    | zero => intro k acc h; exact h
    | succ f ih =>
      intro k acc h
      unfold lnS
      refine cif_el (φ := fun l : List LnT => ∀ x ∈ l, x.2.length ≤ w) (fun c => ih _ _ ?_) (fun _ => h)
      exact cif_el (φ := fun l : List LnT => ∀ x ∈ l, x.2.length ≤ w) (fun _ => h) (fun _ => lnW_lb h)
  exact key 402 0 [] (fun x hx => by cases hx)
end
