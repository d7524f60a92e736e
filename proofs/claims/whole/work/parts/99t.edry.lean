/-! EDIT: the reference's walk -/
theorem nI_neN2 {b : Nat} (h : b < 2147483648) : ¬ nI b = (-2 : Int32) := fun e => by
  have := congrArg Int32.toInt e
  rw [nI_toIntN h, show (-2 : Int32).toInt = -2 from rfl] at this
  omega
section
variable {S : ShT}
theorem ewk_len : ∀ (n : Nat) (b v : List Int32), (ewk S n b v).length ≤ n
  | 0, b, v => Nat.le_refl _
  | n + 1, b, v => by
    unfold ewk
    refine cif_el (φ := fun l : List Nat => l.length ≤ n + 1) (fun _ => Nat.zero_le _) (fun _ => ?_)
    rw [List.length_cons]
    have := ewk_len n (if stp S b v = 2 then b else b.tail) (if stp S b v = 1 then v else v.tail)
    omega
theorem ewk_nn (n : Nat) : ewk S n [] [] = [] := by
  match n with
  | 0 => rfl
  | n + 1 => show cif _ _ _ = _; rw [cif_T ⟨rfl, rfl⟩]
theorem ewk_s {n i j : Nat} {b v : List Int32} (h : ¬ (b.drop i = [] ∧ v.drop j = [])) : ewk S (n + 1) (b.drop i) (v.drop j) = stp S (b.drop i) (v.drop j) :: ewk S n (b.drop (if stp S (b.drop i) (v.drop j) = 2 then i else i + 1)) (v.drop (if stp S (b.drop i) (v.drop j) = 1 then j else j + 1)) := by
  show cif _ _ _ = _
  rw [cif_F h]
  congr 2
  · split
    · rfl
    · rw [List.tail_drop]
  · split
    · rfl
    · rw [List.tail_drop]
end
section
variable {G : GT} {d : Nat} {M M' : Mem} {m : Nat} {T : StT}
theorem RX.ef (W : RX M m T) (g : Frl m [57] [40, 41] M M') : RX M' m T := W.fr g (fun o ho => by simp; omega) (by decide)
/-- the table of EDIT is made, for edit and for moved -/
theorem s_edit {k : Int32} {Q : Int32 → Mem → Prop} (W : RX M m T) (hq : ∀ M', Frl m [57] [40, 41] M M' → Q (f_edit T k) M') : CI G (d + 5) 255 [.ref m, .int k] M Q := by
  unfold f_edit at hq
  have V := W.rs.2.1
  have g2 := V.g
  have w2 := V.w
  have wl : (wL' (sh T)).length = wN (sh T) := wL_len
  have gl : (gL' (sh T)).length = gN (sh T) := gL_len
  refine r_edit W.1 ⟨fun k2 => ⟨v03, fun M1 e1 => ?_⟩, fun k2 => ?_⟩
  · have g1 : Frl m [57] [40, 41] M M1 := by rw [e1]; exact Frl.sf (by decide)
    have e57 : vi M1 m 57 = nI (gN (sh T)) := by rw [e1, vi_seti, if_pos ⟨rfl, rfl⟩]; exact W.rs.2.2.g
    have l20 : ∀ (j i : Nat) (Mx : Mem), j + i = gN (sh T) → Frl m [57] [40, 41] M Mx → vi Mx m 57 = nI (gN (sh T)) → (∀ i', i' < i → vi Mx (m + 41) i' = gB (sh T) i') → At G (d + 5) 255 20 [(0, .ref m), (1, .int k), (2, .int (nI i))] [] Mx (qI Q) := by
      intro j
      induction j with
      | succ j ih =>
        intro i Mx e gx ex hx
        refine r_edit_20 (gx.ra W.1) ?_
        rw [ex, le_I (by omega) (by omega), nI_clamp (by omega), nI_1]
        have vi2 : vp_in (nI i) 200 := v_i (by omega) (by decide)
        refine ⟨fun z => absurd z (by omega), fun _ => ⟨vi2, vi2, fun M3 e3 => ?_⟩⟩
        have g3 : Frl m [57] [40, 41] Mx M3 := by rw [e3]; exact Frl.si (by decide)
        refine ih (i + 1) M3 (by omega) (gx.trans g3) (by rw [e3, vi_seti, if_neg (by omega)]; exact ex) (fun i' h' => ?_)
        rw [e3, vi_seti]
        by_cases z : i' = i
        · rw [z, if_pos ⟨rfl, rfl⟩, gx.i (by decide) (by decide)]; exact W.rs.2.2.gb (by omega)
        · rw [if_neg (fun q => z q.2)]; exact hx i' (by omega)
      | zero =>
        intro i Mx e gx ex hx
        have e : i = gN (sh T) := by omega
        subst e
        have Wx := W.ef gx
        refine r_edit_20 Wx.1 ?_
        rw [ex, le_I (by omega) (by omega)]
        refine ⟨fun _ => ?_, fun z => absurd (Nat.le_refl _) z⟩
        have B : eb Mx m (gL' (sh T)) := ⟨by rw [gl]; exact ex, fun i hi => by rw [gl] at hi; rw [gL_get hi]; exact hx i hi⟩
        refine s_edits Wx.rs B (by omega) (fun M2 g2' h2 => ⟨g2'.ra Wx.1, ?_⟩)
        have g02 : Frl m [57] [40, 41] M M2 := gx.trans (g2'.sub (by decide) (by decide))
        have W2 := W.ef g02
        have R2 := W2.rs
        have B2 : eb M2 m (gL' (sh T)) := B.fr g2' (by decide) (by decide) (by decide)
        have hq := hq M2 g02
        refine ⟨fun n1 => ?_, fun y1 => ?_⟩
        · rw [cif_F n1] at hq
          have el : (edW (sh T)).length ≤ 400 := ewk_len 400 _ _
          have l69 : ∀ (f i j n : Nat) (P : List Nat), i ≤ gN (sh T) → j ≤ wN (sh T) → (gN (sh T) - i) + (wN (sh T) - j) ≤ f → n + f = 400 → P.length = n → edW (sh T) = P ++ ewk (sh T) f ((gL' (sh T)).drop i) ((wL' (sh T)).drop j) → (∀ n', n' < n → ¬ k = nI n') → At G (d + 5) 255 69 [(0, .ref m), (1, .int k), (2, .int (nI i)), (3, .int (nI j)), (4, .int (nI n))] [] M2 (qI Q) := by
            intro f
            induction f with
            | zero =>
              intro i j n P hi hj hf hn hP he hk
              refine r_edit_69 W2.1 ?_
              rw [B2.1, gl, show vi M2 (m + 1) (1 : Int32).toNatClampNeg = nI (wN (sh T)) from R2.2.2.w, lt_I (by omega) (by omega), le_I (by omega) (by omega)]
              refine ⟨fun z => by omega, fun _ => ⟨v13, fun _ => ?_, fun z => absurd (by omega) z⟩⟩
              rw [he, show ewk (sh T) 0 ((gL' (sh T)).drop i) ((wL' (sh T)).drop j) = [] from rfl, List.append_nil, hP] at hq
              refine ⟨fun n2 => ?_, fun y2 => ?_⟩
              · rw [cif_F n2, cif_F (fun z => ?_)] at hq; exact hq
                obtain ⟨q, hq', eq⟩ := asN z.1 z.2
                exact hk q hq' eq
              · rw [cif_T y2] at hq; exact hq
            | succ f ih =>
              intro i j n P hi hj hf hn hP he hk
              by_cases fin : i = gN (sh T) ∧ j = wN (sh T)
              · obtain ⟨e1, e2⟩ := fin
                rw [dr_n (l := gL' (sh T)) (by omega), dr_n (l := wL' (sh T)) (by omega), ewk_nn, List.append_nil] at he
                refine r_edit_69 W2.1 ?_
                rw [B2.1, gl, show vi M2 (m + 1) (1 : Int32).toNatClampNeg = nI (wN (sh T)) from R2.2.2.w, lt_I (by omega) (by omega), le_I (by omega) (by omega)]
                refine ⟨fun z => by omega, fun _ => ⟨v13, fun _ => ?_, fun z => absurd (by omega) z⟩⟩
                rw [he, hP] at hq
                refine ⟨fun n2 => ?_, fun y2 => ?_⟩
                · rw [cif_F n2, cif_F (fun z => ?_)] at hq; exact hq
                  obtain ⟨q, hq', eq⟩ := asN z.1 z.2
                  exact hk q hq' eq
                · rw [cif_T y2] at hq; exact hq
              · have ne : ¬ ((gL' (sh T)).drop i = [] ∧ (wL' (sh T)).drop j = []) := fun z => by
                  have h1 := List.drop_eq_nil_iff.mp z.1
                  have h2 := List.drop_eq_nil_iff.mp z.2
                  omega
                rw [ewk_s ne] at he
                obtain ⟨t, ht, hte⟩ := stp_eq (S := sh T) ne
                have s4 := stp_4 (S := sh T) (b := (gL' (sh T)).drop i) (v := (wL' (sh T)).drop j)
                have slt := fun s => stp_lt (S := sh T) (b := (gL' (sh T)).drop i) (v := (wL' (sh T)).drop j) (s := s)
                generalize stp (sh T) ((gL' (sh T)).drop i) ((wL' (sh T)).drop j) = z at *
                have si := sc_in ht (by omega) (by omega) hj
                rw [gl] at si
                have eij : ∀ i j, i ≤ gN (sh T) → j ≤ wN (sh T) → vi M2 (m + 40) (201 * i + j) = nI (edL (sh T) ((gL' (sh T)).drop i) ((wL' (sh T)).drop j)) := fun i j h1 h2' => h2 i j (by omega) h2'
                have l90 : ∀ (q s : Nat), q + s = z → At G (d + 5) 255 90 [(0, .ref m), (1, .int k), (2, .int (nI i)), (3, .int (nI j)), (4, .int (nI n)), (5, .int (nI s))] [] M2 (qI Q) := by
                  have el' := edL_le V ((gL' (sh T)).drop i) ((wL' (sh T)).drop j)
                  rw [List.length_drop, List.length_drop] at el'
                  have v201 : vp_in (nI 201 * nI i + nI j) 40401 := by rw [pk_mul, nI_add]; exact v_i (by omega) (by decide)
                  have here : vi M2 (m + 40) (nI 201 * nI i + nI j).toNatClampNeg = nI (edL (sh T) ((gL' (sh T)).drop i) ((wL' (sh T)).drop j)) := by rw [pk_mul, nI_add, nI_clamp (by omega)]; exact eij i j hi hj
                  intro q
                  induction q with
                  | zero =>
                    intro s es
                    have es : s = z := by omega
                    subst es
                    have i1 : (if s = 2 then i else i + 1) ≤ gN (sh T) := by
                      split
                      · omega
                      · rename_i y; exact si.1 y
                    have j1 : (if s = 1 then j else j + 1) ≤ wN (sh T) := by
                      split
                      · omega
                      · rename_i y; exact si.2 y
                    have bn : bhN s i j < 40401 := by unfold bhN; omega
                    have ev : vi M2 (m + 40) (nI (bhN s i j)).toNatClampNeg = nI (enL (sh T) s ((gL' (sh T)).drop i) ((wL' (sh T)).drop j)) := by
                      rw [nI_clamp (by omega), en_at]; exact eij _ _ i1 j1
                    have tb := scL_b V ht
                    refine r_edit_90 W2.1 (s_stepCost R2 B2 (by omega) (by omega) (by omega) hj ⟨W2.1, ?_⟩)
                    rw [ht, oI_n1 (fun q hq => by cases hq; omega)]
                    refine ⟨fun z => (by cases z), fun _ => s_stepCost R2 B2 (by omega) (by omega) (by omega) hj ⟨W2.1, s_behind W2.1 (by omega) (by omega) (by omega) ⟨W2.1, v_i bn (by decide), v201, ?_⟩⟩⟩
                    rw [ht, ev, show oI (some t) = nI t from rfl, nI_add, show (201 : Int32) = nI 201 from rfl, here, hte]
                    refine ⟨fun _ => ⟨fun nk => ?_, fun yk => ?_⟩, fun z => absurd rfl z⟩
                    · have go := ih (if s = 2 then i else i + 1) (if s = 1 then j else j + 1) (n + 1) (P ++ [s]) i1 j1 (by
                          by_cases y2 : s = 2
                          · have := si.2 (by omega)
                            rw [if_pos y2, if_neg (by omega)]; omega
                          · have := si.1 y2
                            rw [if_neg y2]
                            split <;> omega) (by omega) (by rw [List.length_append, hP]; rfl) (by rw [he, List.append_assoc]; rfl) (fun n' hn' e => by
                          by_cases y : n' = n
                          · rw [y] at e; exact nk e.symm
                          · exact hk n' (by omega) e)
                      rw [show (2 : Int32) = nI 2 from rfl, show (1 : Int32) = nI 1 from rfl, eq_I (by omega) (by omega), eq_I (by omega) (by omega), Int32.add_zero, Int32.add_zero, nI_add, nI_add, nI_add]
                      refine ⟨fun n2 => ⟨fun n1' => ?_, fun y1 => ?_⟩, fun y2 => ⟨fun n1' => ?_, fun y1 => by omega⟩⟩
                      · rw [if_neg n2, if_neg n1'] at go; exact go
                      · rw [if_neg n2, if_pos y1] at go; exact go
                      · rw [if_pos y2, if_neg n1'] at go; exact go
                    · have lt : n < (edW (sh T)).length := by rw [he, List.length_append, List.length_cons]; omega
                      have gt : (edW (sh T)).getD n 0 = s := by rw [he, ← hP]; exact gA_m P s 0 _
                      rw [← yk, cif_F (fun y => nI_neN2 (by omega) y), cif_T ⟨by rw [nI_toIntN (by omega)]; omega, by rw [nI_toIntN (by omega)]; omega⟩, nI_clamp (n := n) (by omega), gt] at hq
                      exact hq
                  | succ q ihq =>
                    intro s es
                    have nx := ihq (s + 1) (by omega)
                    refine r_edit_90 W2.1 (s_stepCost R2 B2 (by omega) (by omega) (by omega) hj ⟨W2.1, ?_⟩)
                    rw [nI_1]
                    cases hc : scL (sh T) s ((gL' (sh T)).drop i) ((wL' (sh T)).drop j) with
                    | none => exact ⟨fun _ => nx, fun y => absurd rfl y⟩
                    | some t' =>
                      have tb := scL_b V hc
                      have si' := sc_in hc (by omega) (by omega) hj
                      rw [gl] at si'
                      have en := enL_b V (b := (gL' (sh T)).drop i) (v := (wL' (sh T)).drop j) (s := s)
                      rw [List.length_drop, List.length_drop] at en
                      have i1 : (if s = 2 then i else i + 1) ≤ gN (sh T) := by
                        split
                        · omega
                        · rename_i y; exact si'.1 y
                      have j1 : (if s = 1 then j else j + 1) ≤ wN (sh T) := by
                        split
                        · omega
                        · rename_i y; exact si'.2 y
                      have bn : bhN s i j < 40401 := by unfold bhN; omega
                      have ev : vi M2 (m + 40) (nI (bhN s i j)).toNatClampNeg = nI (enL (sh T) s ((gL' (sh T)).drop i) ((wL' (sh T)).drop j)) := by
                        rw [nI_clamp (by omega), en_at]; exact eij _ _ i1 j1
                      refine ⟨fun _ => nx, fun _ => s_stepCost R2 B2 (by omega) (by omega) (by omega) hj ⟨W2.1, s_behind W2.1 (by omega) (by omega) (by omega) ⟨W2.1, v_i bn (by decide), v201, ?_⟩⟩⟩
                      rw [hc, ev, show oI (some t') = nI t' from rfl, nI_add, show (201 : Int32) = nI 201 from rfl, here, eq_I (by omega) (by omega)]
                      exact ⟨fun y => absurd y (slt s (by omega) t' hc), fun _ => nx⟩
                have go := l90 z 0 rfl
                refine r_edit_69 W2.1 ?_
                rw [B2.1, gl, show vi M2 (m + 1) (1 : Int32).toNatClampNeg = nI (wN (sh T)) from R2.2.2.w, lt_I (by omega) (by omega), le_I (by omega) (by omega)]
                exact ⟨fun _ => go, fun _ => ⟨v13, fun _ => by omega, fun _ => go⟩⟩
          exact l69 400 0 0 0 [] (Nat.zero_le _) (Nat.zero_le _) (by omega) rfl rfl rfl (fun n' h' => absurd h' (Nat.not_lt_zero n'))
        · rw [cif_T y1] at hq
          refine ⟨v_i (k := 0) (by decide) (by decide), ?_⟩
          have e0 : vi M2 (m + 40) 0 = nI (edC (sh T)) := h2 0 0 (Nat.zero_le _) (Nat.zero_le _)
          rw [show (0 : Int32).toNatClampNeg = 0 from rfl, e0]
          exact hq
    exact l20 (gN (sh T)) 0 M1 rfl g1 e57 (fun i' h' => absurd h' (Nat.not_lt_zero i'))
  · rw [fa_le, show (-2 : Int32).toInt = -2 from rfl] at k2
    have := hq M Frl.refl
    rw [cif_F (fun e => k2 (by rw [e]; decide)), cif_F (fun e => k2 (by rw [e]; decide)), cif_F (fun z => by have := z.1; omega)] at this
    exact this
theorem m_edit {k : Int32} {Q : Int32 → Mem → Prop} (W : RX M m T) (hq : ∀ M', RX M' m T → Ou m M M' → Q (f_edit T k) M') : CI G (d + 5) 255 [.ref m, .int k] M Q := s_edit W (fun M' g => hq M' (W.ef g) (g.ou (by decide)))
end
