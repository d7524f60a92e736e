/-! TAKING A WORD: the class -/
def isPre (l W : List Int32) : Prop := ∃ r, W = l ++ r
theorem gA_m {α : Type} (l : List α) (x d : α) (r : List α) : (l ++ x :: r).getD l.length d = x := by
  rw [List.getD_eq_getElem?_getD, List.getElem?_append_right (Nat.le_refl _), Nat.sub_self]; rfl
theorem isPre_s {l W : List Int32} {c : Int32} : isPre (l ++ [c]) W ↔ isPre l W ∧ l.length < W.length ∧ W.getD l.length 0 = c := by
  constructor
  · intro ⟨r, e⟩
    have e2 : W = l ++ c :: r := by rw [e, List.append_assoc]; rfl
    exact ⟨⟨c :: r, e2⟩, by rw [e2, List.length_append, List.length_cons]; omega, by rw [e2]; exact gA_m l c 0 r⟩
  · intro ⟨⟨r, e⟩, h2, h3⟩
    cases r with
    | nil => rw [e, List.append_nil] at h2; exact absurd h2 (Nat.lt_irrefl _)
    | cons x r =>
      rw [e, gA_m] at h3
      exact ⟨r, by rw [e, h3, List.append_assoc]; rfl⟩
theorem isPre_e {l W : List Int32} (h : isPre l W) (e : l.length = W.length) : l = W := by
  obtain ⟨r, h⟩ := h
  cases r with
  | nil => rw [h, List.append_nil]
  | cons x r => rw [h, List.length_append, List.length_cons] at e; omega
/-- which of the words W is, counted from k -/
noncomputable def wix (W : List Int32) : List (List Int32) → Nat → Option Nat
  | [], _ => none
  | w :: ws, k => cif (w = W) (some k) (wix W ws (k + 1))
def flw : List (List Int32) → List Int32
  | [] => []
  | w :: ws => w ++ 32 :: flw ws
theorem wix_nil : ∀ (ws : List (List Int32)) (k : Nat), (∀ w ∈ ws, w ≠ []) → wix [] ws k = none
  | [], _, _ => rfl
  | w :: ws, k, h => by
    show cif (w = []) (some k) (wix [] ws (k + 1)) = none
    rw [cif_F (h w (List.mem_cons_self ..)), wix_nil ws (k + 1) (fun v hv => h v (List.mem_cons_of_mem _ hv))]
theorem drop_get {l r : List Int32} {i : Nat} {c : Int32} (h : l.drop i = c :: r) : i < l.length ∧ l.getD i 0 = c ∧ l.drop (i + 1) = r := by
  have hi : i < l.length := by
    rcases Nat.lt_or_ge i l.length with z | z
    · exact z
    · rw [List.drop_eq_nil_of_le z] at h; cases h
  have e : l.drop i = l[i] :: l.drop (i + 1) := List.drop_eq_getElem_cons hi
  rw [e] at h
  have e1 : l[i] = c := (List.cons.inj h).1
  exact ⟨hi, by rw [List.getD_eq_getElem?_getD, List.getElem?_eq_getElem hi]; exact e1, (List.cons.inj h).2⟩
section
variable {G : GT} {d : Nat} {M M' : Mem} {o p f : Nat} {t : TpT}
theorem k_takeWord {a : Nat} {ws : List (List Int32)} {Q : Int32 → Mem → Prop} (ha : a < 27) (hs : strB.getD a [] ++ [32] = flw ws) (hw : ∀ w ∈ ws, w ≠ [] ∧ ∀ c ∈ w, c ≠ 32) (h : tpA M o t p f) (p4 : p ≤ t.1) (f4 : f < 100000)
    (hy : f = 0 → ∀ k, wix (wAt t p) ws 0 = some k → ∀ M', Frl o [2] [] M M' → tpA M' o t (skB t (p + wl t p)) f → Q (nI k) M') (hn : (f = 0 → wix (wAt t p) ws 0 = none) → Q (-1) M) : CI G (d + 5) 95 [.ref o, .ref (gk G a)] M Q := by
  have t4 := h.2.2.1
  have lq := wl_le p4
  have sl := strB_len a ha
  have WL := wAt_len t p
  refine c_X9_takeWord h.1 ha ?_
  rw [h.pp]
  -- the word's end is found
  have fin : (¬ vi M o 3 = 0 → Q (-1) M) ∧ (vi M o 3 = 0 → (¬ nI (wl t p) = 0 → At G (d + 5) 95 61 [(0, .ref o), (1, .ref (gk G a)), (2, .int (nI (wl t p))), (3, .int 0), (4, .int 0), (5, .int 0)] [] M (qI Q)) ∧ (nI (wl t p) = 0 → Q (-1) M)) := by
    rw [h.ff, il_0, eq_I (by omega) (by omega), eq_I (by omega) (by omega)]
    refine ⟨fun c => hn (fun z => absurd z c), fun f0 => ⟨fun c1 => ?_, fun c1 => hn (fun _ => ?_)⟩⟩
    · have out : ∀ (vs : List (List Int32)) (k i : Nat), k < 200 → i < 200 → (∀ w ∈ vs, ∀ c ∈ w, c ≠ 32) → (strB.getD a [] ++ [32]).drop i = flw vs → wix (wAt t p) ws 0 = wix (wAt t p) vs k → k + (flw vs).length < 150 → At G (d + 5) 95 61 [(0, .ref o), (1, .ref (gk G a)), (2, .int (nI (wl t p))), (3, .int (nI k)), (4, .int (nI 0)), (5, .int (nI i))] [] M (qI Q) := by
        intro vs
        induction vs with
        | nil =>
          intro k i k4 i4 _ hd hx _
          have hi : (strB.getD a []).length < i := by
            have : ((strB.getD a [] ++ [32]).drop i).length = 0 := by rw [hd]; rfl
            rw [List.length_drop, List.length_append, List.length_singleton] at this
            omega
          refine c_X9_takeWord_61 h.1 ha (s_length ha ⟨h.1, fun _ => hn (fun _ => hx), fun c => absurd (nI_lt hi (by omega)) c⟩)
        | cons w vs ih =>
          intro k i k4 i4 hb hd hx hk
          have w4 : w.length < 150 := by
            have : (flw (w :: vs)).length = w.length + ((flw vs).length + 1) := by
              show (w ++ 32 :: flw vs).length = _
              rw [List.length_append, List.length_cons]
            omega
          have inn : ∀ (u l : List Int32) (i : Nat) (x : Int32), w = l ++ u → i < 200 → (strB.getD a [] ++ [32]).drop i = u ++ 32 :: flw vs → ((isPre l (wAt t p) ∧ x = nI l.length) ∨ (¬ isPre l (wAt t p) ∧ x = -1)) → At G (d + 5) 95 61 [(0, .ref o), (1, .ref (gk G a)), (2, .int (nI (wl t p))), (3, .int (nI k)), (4, .int x), (5, .int (nI i))] [] M (qI Q) := by
            intro u
            induction u with
            | nil =>
              intro l i x el i4 hd hx2
              obtain ⟨h1, h2, h3⟩ := drop_get hd
              rw [List.length_append, List.length_singleton] at h1
              have el2 : w = l := by rw [el, List.append_nil]
              have end' : (¬ x = nI (wl t p) → At G (d + 5) 95 61 [(0, .ref o), (1, .ref (gk G a)), (2, .int (nI (wl t p))), (3, .int (nI (k + 1))), (4, .int 0), (5, .int (nI (i + 1)))] [] M (qI Q)) ∧ (x = nI (wl t p) → CV G (d + 4) 93 [.ref o, .int (nI (wl t p))] M (fun M7 => ObAt 9 M7 o ∧ Q (nI k) M7)) := by
                have i6 : i + 1 < 200 := by omega
                refine ⟨fun c => ?_, fun c => ?_⟩
                · have ne : ¬ w = wAt t p := fun e => by
                    rcases hx2 with ⟨_, z⟩ | ⟨z, _⟩
                    · rw [el2] at e; rw [z, e, WL] at c; exact c rfl
                    · exact z ⟨[], by rw [List.append_nil, ← e, el2]⟩
                  refine ih (k + 1) (i + 1) (by omega) i6 (fun v hv => hb v (List.mem_cons_of_mem _ hv)) h3 ?_ ?_
                  · rw [hx]
                    show cif (w = wAt t p) (some k) (wix (wAt t p) vs (k + 1)) = _
                    rw [cif_F ne]
                  · have : (flw (w :: vs)).length = w.length + ((flw vs).length + 1) := by
                      show (w ++ 32 :: flw vs).length = _
                      rw [List.length_append, List.length_cons]
                    omega
                · have e : w = wAt t p := by
                    rw [el2]
                    rcases hx2 with ⟨z, y⟩ | ⟨_, y⟩
                    · rw [y] at c
                      have ll : l.length < 200 := by rw [el2] at w4; omega
                      exact isPre_e z (by rw [WL]; exact (nI_eq (by omega) (by omega)).mp c)
                    · rw [y, il_m1, mn_eq (by decide) (by decide) (by omega)] at c
                      exact c.elim
                  refine k_pass h (by omega) (fun M7 g7 h7 => ⟨h7.1, hy f0 k ?_ M7 g7 h7⟩)
                  rw [hx]
                  show cif (w = wAt t p) (some k) (wix (wAt t p) vs (k + 1)) = _
                  rw [cif_T e]
              refine c_X9_takeWord_61 h.1 ha (s_length ha ⟨h.1, fun c => absurd c (nI_nlt (by omega) (by omega)), fun _ => s_length ha ⟨h.1, fun c => ?_, fun c => ?_⟩⟩)
              · rw [nI_1, nI_1]
                exact ⟨fun c => absurd rfl c, fun _ => end'⟩
              · rw [le_I (by omega) (by omega)] at c
                refine s_charAt ha (by omega) ⟨h.1, ?_⟩
                have e32 : (strB.getD a []).getD i 0 = 32 := by
                  rw [← h2]; exact (gA_l (by omega)).symm
                rw [nI_1, nI_1, e32]
                exact ⟨fun c => absurd rfl c, fun _ => end'⟩
            | cons ch u ihu =>
              intro l i x el i4 hd hx2
              obtain ⟨h1, h2, h3⟩ := drop_get hd
              rw [List.length_append, List.length_singleton] at h1
              have cn : ch ≠ 32 := hb w (List.mem_cons_self ..) ch (by rw [el]; exact List.mem_append_right _ (List.mem_cons_self ..))
              have hi : i < (strB.getD a []).length := by
                rcases Nat.lt_or_ge i (strB.getD a []).length with z | z
                · exact z
                · have e : i = (strB.getD a []).length := by omega
                  rw [e, gA_r] at h2
                  exact absurd h2.symm cn
              have ec : (strB.getD a []).getD i 0 = ch := by
                rw [← h2]; exact (gA_l (by omega)).symm
              have lw : l.length < 200 := by rw [el, List.length_append] at w4; omega
              have nx := ihu (l ++ [ch]) (i + 1)
              have e1 : w = l ++ [ch] ++ u := by rw [el, List.append_assoc]; rfl
              have i6 : i + 1 < 200 := by omega
              refine c_X9_takeWord_61 h.1 ha (s_length ha ⟨h.1, fun c => absurd c (nI_nlt (by omega) (by omega)), fun _ => s_length ha ⟨h.1, fun c => absurd c (nI_ge (by omega) (by omega)), fun c => ?_⟩⟩)
              refine s_charAt ha hi ⟨h.1, ?_⟩
              rw [ec, nI_1]
              refine ⟨fun _ => ⟨fun cx => ?_, fun cx => ?_⟩, fun c => absurd c cn⟩
              · rcases hx2 with ⟨_, z⟩ | ⟨z, _⟩
                · rw [z, il_m1, nm_eq (by decide) (by decide) (by omega)] at cx; exact cx.elim
                · rw [cx]
                  exact nx (-1) e1 i6 h3 (Or.inr ⟨fun y => z (isPre_s.mp y).1, rfl⟩)
              · rcases hx2 with ⟨z, y⟩ | ⟨_, y⟩
                · subst y
                  rw [le_I (by omega) (by omega)]
                  refine ⟨fun c5 => nx (-1) e1 i6 h3 (Or.inr ⟨fun y => by have := (isPre_s.mp y).2.1; rw [WL] at this; omega, rfl⟩), fun c5 => ?_⟩
                  rw [h.pp, nI_add, nI_clamp (by omega), h.b (by omega), ← wAt_get (by omega)]
                  refine ⟨vp_in_nI (by omega) (by omega), fun c6 => nx (-1) e1 i6 h3 (Or.inr ⟨fun y => c6 (isPre_s.mp y).2.2, rfl⟩), fun c6 => ?_⟩
                  rw [nI_1]
                  refine nx (nI (l.length + 1)) e1 i6 h3 (Or.inl ⟨isPre_s.mpr ⟨z, by rw [WL]; omega, c6⟩, ?_⟩)
                  rw [List.length_append]; rfl
                · exact absurd y cx
          exact inn w [] i (nI 0) rfl i4 hd (Or.inl ⟨⟨wAt t p, rfl⟩, rfl⟩)
      refine out ws 0 0 (by omega) (by omega) (fun w hw2 => (hw w hw2).2) hs rfl ?_
      rw [← hs, List.length_append, List.length_singleton]; omega
    · have e : wAt t p = [] := List.length_eq_zero_iff.mp (by rw [WL]; exact c1)
      rw [e]
      exact wix_nil ws 0 (fun w hw2 => (hw w hw2).1)
  have key : ∀ (k i : Nat), t.1 - (p + i) = k → p + i ≤ t.1 → wl t p = i + wl t (p + i) → At G (d + 5) 95 7 [(0, .ref o), (1, .ref (gk G a)), (2, .int (nI i)), (3, .int (nI (p + i)))] [] M (qI Q) := by
    intro k
    induction k with
    | zero =>
      intro i e1 e3 e2
      refine c_X9_takeWord_7 h.1 ha ?_
      rw [show wl t (p + i) = 0 from run_n (P := fun i => isS (t.2 i)) (fun z => by omega), Nat.add_zero] at e2
      rw [h.n, le_I (by omega) (by omega), ← e2]
      exact ⟨fun c => absurd c (nlt0 _ (by omega)), fun _ => ⟨fun _ => fin, fun c => absurd (by omega) c⟩⟩
    | succ k ih =>
      intro i e1 e3 e2
      refine c_X9_takeWord_7 h.1 ha ?_
      rw [h.n, le_I (by omega) (by omega)]
      refine ⟨fun c => absurd c (nlt0 _ (by omega)), fun _ => ⟨fun c => absurd c (by omega), fun c => ⟨vp_in_nI (by omega) (by omega), ?_⟩⟩⟩
      rw [nI_clamp (by omega), h.b (by omega)]
      refine k_isSmall ⟨h.1, bz (fun c => ?_) (fun c => ?_)⟩
      · rw [nI_1, nI_1]
        refine ih (i + 1) (by omega) (by omega) ?_
        rw [e2, show wl t (p + i) = wl t (p + i + 1) + 1 from run_y (P := fun i => isS (t.2 i)) (by omega) c, show p + (i + 1) = p + i + 1 by omega]
        omega
      · rw [show wl t (p + i) = 0 from run_n (P := fun i => isS (t.2 i)) (fun z => c z.2), Nat.add_zero] at e2
        rw [← e2]; exact fin
  exact key _ 0 rfl (by omega) (by simp)
end
