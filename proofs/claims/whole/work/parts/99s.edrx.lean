/-! EDIT: the reference's call -/
def dI (n : Nat) : Int32 := nI n + (-1)
theorem dI_s (n : Nat) : dI (n + 1) = nI n := pk_m1 n
theorem dI_0 : dI 0 < 0 := by decide
theorem oI_n1 {o : Option Nat} (h : ∀ q, o = some q → q < 2147483648) : (oI o = -1) = (o = none) := by
  match o with
  | none => exact propext ⟨fun _ => rfl, fun _ => rfl⟩
  | some q => exact propext ⟨fun z => absurd z (nI_neN1 (h q rfl)), fun z => by cases z⟩
theorem omin_n {x : Option Nat} : omin x none = x := by cases x <;> rfl
noncomputable def f_edit (T : StT) (k : Int32) : Int32 := cif (k = -1) (nI (edC (sh T))) (cif (k = -2) (nI (edW (sh T)).length) (cif (0 ≤ k.toInt ∧ k.toInt < (edW (sh T)).length) (nI ((edW (sh T)).getD k.toNatClampNeg 0)) (-1)))
section
variable {S : ShT} {b v : List Int32}
theorem scL_b (V : okS S) {s t : Nat} (h : scL S s b v = some t) : t ≤ 99 := by
  have k0 := (kc_9 V (k := 0) (by decide)).1
  have k1 := (kc_9 V (k := 1) (by decide)).1
  have k2 := (kc_9 V (k := 2) (by decide)).1
  have k3 := (kc_9 V (k := 3) (by decide)).1
  have some_le : ∀ {x : Nat}, x ≤ 99 → (some x : Option Nat) = some t → t ≤ 99 := fun hx e => by cases e; exact hx
  match b, v, h with
  | [], [], h => cases h
  | [], _ :: _, h =>
    have h : (if s = 2 then some (kc S 0) else none) = some t := h
    split at h
    · exact some_le k0 h
    · cases h
  | _ :: _, [], h =>
    have h : (if s = 1 then some (kc S 1) else none) = some t := h
    split at h
    · exact some_le k1 h
    · cases h
  | c :: _, u :: _, h =>
    have h : (if s = 0 then cif (c = u) (some 0) none else if s = 1 then some (kc S 1) else if s = 2 then some (kc S 0) else if s = 3 then cif (isS c ∧ c - 32 = u) (some (kc S 2)) none else cif (isU c ∧ c + 32 = u) (some (kc S 3)) none) = some t := h
    have cf : ∀ {p : Prop} {x : Nat}, x ≤ 99 → cif p (some x) none = some t → t ≤ 99 := fun {p x} hx e => by
      by_cases q : p
      · rw [cif_T q] at e; exact some_le hx e
      · rw [cif_F q] at e; cases e
    split at h
    · exact cf (Nat.zero_le _) h
    · split at h
      · exact some_le k1 h
      · split at h
        · exact some_le k0 h
        · split at h
          · exact cf k2 h
          · exact cf k3 h
theorem enL_b (V : okS S) {s : Nat} : enL S s b v ≤ 99 * (b.length + v.length) := by
  unfold enL
  have := edL_le V (if s = 2 then b else b.tail) (if s = 1 then v else v.tail)
  have h1 : (if s = 2 then b else b.tail).length ≤ b.length := by split <;> simp
  have h2 : (if s = 1 then v else v.tail).length ≤ v.length := by split <;> simp
  omega
theorem bsL_b (V : okS S) : ∀ (s q : Nat), bsL S b v s = some q → q ≤ 99 + 99 * (b.length + v.length)
  | 0, q, h => by
    have h : (if b = [] ∧ v = [] then some 0 else none) = some q := h
    split at h
    · cases h; omega
    · cases h
  | s + 1, q, h => by
    have h : omin (bsL S b v s) ((scL S s b v).map (fun t => t + enL S s b v)) = some q := h
    have ih := bsL_b V s
    have eb := enL_b V (b := b) (v := v) (s := s)
    cases hc : scL S s b v with
    | none =>
      rw [hc] at h
      have h : omin (bsL S b v s) none = some q := h
      rw [omin_n] at h
      exact ih q h
    | some t =>
      rw [hc] at h
      have tb := scL_b V hc
      have h : omin (bsL S b v s) (some (t + enL S s b v)) = some q := h
      cases hb : bsL S b v s with
      | none => rw [hb] at h; have h : some (t + enL S s b v) = some q := h; cases h; omega
      | some q' =>
        rw [hb, omin_s] at h
        cases h
        have := ih q' hb
        omega
end
section
variable {G : GT} {d : Nat} {M M' : Mem} {m : Nat} {T : StT} {S : ShT} {b : List Int32}
theorem s_edits {Q : Mem → Prop} (R : RS M m S) (B : eb M m b) (b2 : b.length ≤ 200) (hq : ∀ M', Frl m [] [40] M M' → (∀ i j, i ≤ b.length → j ≤ wN S → eT M' m S b i j) → Q M') : CV G (d + 4) 254 [.ref m] M Q := by
  have V := R.2.1
  have w2 := V.w
  have wl : (wL' S).length = wN S := wL_len
  have RX' : ∀ {Mx : Mem}, Frl m [] [40] M Mx → RS Mx m S := fun g => R.fr g (fun o ho => by simp; omega)
  have BX' : ∀ {Mx : Mem}, Frl m [] [40] M Mx → eb Mx m b := fun g => B.fr g (by decide) (by decide) (by decide)
  have l5 : ∀ (ii : Nat) (Mx : Mem), ii ≤ b.length + 1 → Frl m [] [40] M Mx → (∀ i j, ii ≤ i → i ≤ b.length → j ≤ wN S → eT Mx m S b i j) → At G (d + 4) 254 5 [(0, .ref m), (1, .int (dI ii))] [] Mx (qV Q) := by
    intro ii
    induction ii with
    | zero =>
      intro Mx _ gx hx
      exact r_edits_5 (gx.ra R.1) ⟨fun _ => hq Mx gx (fun i j hi hj => hx i j (Nat.zero_le _) hi hj), fun z => absurd dI_0 z⟩
    | succ i ihi =>
      intro Mx hi gx hx
      rw [dI_s]
      refine r_edits_5 (gx.ra R.1) ⟨fun z => absurd z (nlt0 _ (by omega)), fun _ => ⟨v13, ?_⟩⟩
      have l16 : ∀ (jj : Nat) (My : Mem), jj ≤ wN S + 1 → Frl m [] [40] M My → (∀ i' j, i + 1 ≤ i' → i' ≤ b.length → j ≤ wN S → eT My m S b i' j) → (∀ j, jj ≤ j → j ≤ wN S → eT My m S b i j) → At G (d + 4) 254 16 [(0, .ref m), (1, .int (nI i)), (2, .int (dI jj))] [] My (qV Q) := by
        intro jj
        induction jj with
        | zero =>
          intro My _ gy h1 h2
          refine r_edits_16 (gy.ra R.1) ⟨fun _ => ?_, fun z => absurd dI_0 z⟩
          refine ihi My (by omega) gy (fun i' j hi' h3 h4 => ?_)
          by_cases z : i' = i
          · rw [z]; exact h2 j (Nat.zero_le _) h4
          · exact h1 i' j (by omega) h3 h4
        | succ j ihj =>
          intro My hj gy h1 h2
          rw [dI_s]
          have Ry := RX' gy
          have By := BX' gy
          -- the steps
          have l47 : ∀ (k s : Nat), k + s = 5 → At G (d + 4) 254 47 [(0, .ref m), (1, .int (nI i)), (2, .int (nI j)), (3, .int (oI (bsL S (b.drop i) ((wL' S).drop j) s))), (4, .int (nI s))] [] My (qV Q) := by
            intro k
            induction k with
            | zero =>
              intro s e
              have e : s = 5 := by omega
              subst e
              refine r_edits_47 Ry.1 ⟨fun _ => ?_, fun z => absurd (show (5 : Int32) ≤ nI 5 by decide) z⟩
              rw [show (201 : Int32) = nI 201 from rfl, pk_mul, nI_add, nI_clamp (n := 201 * i + j) (by omega), bsL_5]
              refine ⟨v_i (by omega) (by decide), fun M1 e1 => ?_⟩
              have g1 : Frl m [] [40] My M1 := by rw [e1]; exact Frl.si (by decide)
              refine ihj M1 (by omega) (gy.trans g1) (fun i' j' h3 h4 h5 => ?_) (fun j' h3 h4 => ?_)
              · unfold eT
                rw [e1, vi_seti, if_neg (by omega)]; exact h1 i' j' h3 h4 h5
              · unfold eT
                rw [e1, vi_seti]
                by_cases z : j' = j
                · rw [z, if_pos ⟨rfl, rfl⟩]; rfl
                · rw [if_neg (by omega)]; exact h2 j' (by omega) h4
            | succ k ih =>
              intro s e
              have nx := ih (s + 1) (by omega)
              have eb1 : bsL S (b.drop i) ((wL' S).drop j) (s + 1) = omin (bsL S (b.drop i) ((wL' S).drop j) s) ((scL S s (b.drop i) ((wL' S).drop j)).map (fun t => t + enL S s (b.drop i) ((wL' S).drop j))) := rfl
              have bb := fun q => bsL_b V (b := b.drop i) (v := (wL' S).drop j) s q
              rw [List.length_drop, List.length_drop] at bb
              have en := enL_b V (b := b.drop i) (v := (wL' S).drop j) (s := s)
              rw [List.length_drop, List.length_drop] at en
              refine r_edits_47 Ry.1 ⟨fun z => absurd z (nI_ge (a := s) (b := 5) (by omega) (by decide)), fun _ => ?_⟩
              refine s_stepCost Ry By b2 (by omega) (by omega) (by omega) ⟨Ry.1, ?_⟩
              rw [nI_1, oI_n1 (fun q hq => by have := scL_b V hq; omega), oI_n1 (fun q hq => by have := bb q hq; omega)]
              refine ⟨fun c => ?_, fun c => ?_⟩
              · rw [eb1, c] at nx
                have nx : At G (d + 4) 254 47 [(0, .ref m), (1, .int (nI i)), (2, .int (nI j)), (3, .int (oI (omin (bsL S (b.drop i) ((wL' S).drop j) s) none))), (4, .int (nI (s + 1)))] [] My (qV Q) := nx
                rw [omin_n] at nx; exact nx
              · cases hc : scL S s (b.drop i) ((wL' S).drop j) with
                | none => exact absurd hc c
                | some t =>
                  have tb := scL_b V hc
                  have si := sc_in hc (by omega) (by omega) (by omega)
                  have i1 : (if s = 2 then i else i + 1) ≤ b.length := by
                    split
                    · omega
                    · rename_i z; exact si.1 z
                  have j1 : (if s = 1 then j else j + 1) ≤ wN S := by
                    split
                    · omega
                    · rename_i z; exact si.2 z
                  have bn : bhN s i j < 40401 := by unfold bhN; omega
                  have ev : vi My (m + 40) (nI (bhN s i j)).toNatClampNeg = nI (enL S s (b.drop i) ((wL' S).drop j)) := by
                    rw [nI_clamp (by omega), en_at]
                    by_cases z : s = 2
                    · rw [if_pos z]
                      have := h2 (if s = 1 then j else j + 1) (by rw [if_neg (by omega)]; exact Nat.le_refl _) j1
                      unfold bhN
                      rw [if_pos z]
                      exact this
                    · have := h1 (if s = 2 then i else i + 1) (if s = 1 then j else j + 1) (by rw [if_neg z]; exact Nat.le_refl _) i1 j1
                      exact this
                  rw [eb1, hc] at nx
                  have nx : At G (d + 4) 254 47 [(0, .ref m), (1, .int (nI i)), (2, .int (nI j)), (3, .int (oI (omin (bsL S (b.drop i) ((wL' S).drop j) s) (some (t + enL S s (b.drop i) ((wL' S).drop j)))))), (4, .int (nI (s + 1)))] [] My (qV Q) := nx
                  show (_ → CI G (d + 3) 253 _ _ (fun v5 M4 => RefAt M4 m ∧ (vp_in v5 40401 ∧ (At G (d + 4) 254 47 [(0, .ref m), (1, .int (nI i)), (2, .int (nI j)), (3, .int (nI t + (vi M4 (m + 40) (v5).toNatClampNeg))), (4, .int (nI (s + 1)))] [] M4 (qV Q))))) ∧ _
                  refine ⟨fun c2 => s_behind Ry.1 (by omega) (by omega) (by omega) ⟨Ry.1, v_i bn (by decide), ?_⟩, fun c2 => s_behind Ry.1 (by omega) (by omega) (by omega) ⟨Ry.1, v_i bn (by decide), ?_⟩⟩
                  · rw [ev, nI_add]
                    rw [c2] at nx
                    exact nx
                  · cases hb : bsL S (b.drop i) ((wL' S).drop j) s with
                    | none => exact absurd hb c2
                    | some q =>
                      have qb := bb q hb
                      rw [hb] at nx
                      have nx : At G (d + 4) 254 47 [(0, .ref m), (1, .int (nI i)), (2, .int (nI j)), (3, .int (nI (if t + enL S s (b.drop i) ((wL' S).drop j) < q then t + enL S s (b.drop i) ((wL' S).drop j) else q))), (4, .int (nI (s + 1)))] [] My (qV Q) := nx
                      show (nI q ≤ nI t + _ → At G (d + 4) 254 47 [(0, .ref m), (1, .int (nI i)), (2, .int (nI j)), (3, .int (nI q)), (4, .int (nI (s + 1)))] [] My (qV Q)) ∧ (¬ nI q ≤ nI t + _ → _)
                      rw [ev, nI_add, le_I (by omega) (by omega)]
                      refine ⟨fun z => ?_, fun z => s_behind Ry.1 (by omega) (by omega) (by omega) ⟨Ry.1, v_i bn (by decide), ?_⟩⟩
                      · rw [if_neg (by omega)] at nx; exact nx
                      · rw [if_pos (by omega)] at nx
                        rw [ev, show oI (some t) = nI t from rfl, nI_add]; exact nx
          have go := l47 5 0 rfl
          have e0 : bsL S (b.drop i) ((wL' S).drop j) 0 = if b.drop i = [] ∧ (wL' S).drop j = [] then some 0 else none := rfl
          refine r_edits_16 Ry.1 ⟨fun z => absurd z (nlt0 _ (by omega)), fun _ => ?_⟩
          rw [By.1, eq_I (by omega) (by omega), show vi My (m + 1) (1 : Int32).toNatClampNeg = nI (wN S) from Ry.2.2.w, eq_I (by omega) (by omega)]
          refine ⟨fun n => ?_, fun yi => ⟨v13, fun n => ?_, fun yj => ?_⟩⟩
          · rw [e0, if_neg (fun z => by have := List.drop_eq_nil_iff.mp z.1; omega)] at go; exact go
          · rw [e0, if_neg (fun z => by have := List.drop_eq_nil_iff.mp z.2; omega)] at go; exact go
          · rw [e0, if_pos ⟨dr_n (by omega), dr_n (by omega)⟩] at go; exact go
      have := l16 (wN S + 1) Mx (Nat.le_refl _) gx hx (fun j h3 h4 => by omega)
      rw [dI_s] at this
      rw [show vi Mx (m + 1) (1 : Int32).toNatClampNeg = nI (wN S) from (RX' gx).2.2.w]
      exact this
  have := l5 (b.length + 1) M (Nat.le_refl _) Frl.refl (fun i j h1 h2 => by omega)
  rw [dI_s] at this
  refine r_edits R.1 ?_
  rw [B.1]
  exact this
end
