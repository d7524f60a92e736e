/-! READING LAWS: a clause; the reference -/
def wSt : List Int32 := strB.getD 15 []
def wIf : List Int32 := strB.getD 23 []
/-- the sum of a clause at q -/
noncomputable def clS' (t : TpT) (q : Nat) (cd : List Nat) (n : Nat) : Nat × LxT := pSm t (skB t (q + 6)) cd n
noncomputable def pCl (t : TpT) (i q : Nat) (cd : List Nat) (n : Nat) : Nat × LxT :=
  cif (wAt t q = wSt) (cif (i = 12) (flt q 4, q, cd, n) (bnd (clS' t q cd n) (fun p cd n => cif (wAt t p = wIf) (pTst t (skB t (p + 2)) cd n) (0, p, cd, n)))) (flt q 0, q, cd, n)
section
variable {G : GT} {d : Nat} {M M' : Mem} {m s p n f : Nat} {T : StT} {cd : List Nat}
theorem FrT.ou (g : FrT m s M M') : Ou m M M' := g.1.ou (by decide)
/-- a place of a clause is written -/
theorem RX.arr {o i : Nat} {v : Int32} (W : RX M m T) (q1 : qN T ≤ s) (ho : o = 17 ∨ o = 18 ∨ o = 19) : RX (seti M (m + o) (12 * s + i) v) m T := by
  have g : Frl m [] [17, 18, 19] M (seti M (m + o) (12 * s + i) v) := Frl.si (by simp; omega)
  have e : ∀ j, j < 12 * s → ∀ o', vi (seti M (m + o) (12 * s + i) v) (m + o') j = vi M (m + o') j := fun j hj o' => by rw [vi_seti, if_neg (by omega)]
  have e2 : ∀ o', o' ≠ 17 → o' ≠ 18 → o' ≠ 19 → 0 < o' → ∀ k, vi (seti M (m + o) (12 * s + i) v) (m + o') k = vi M (m + o') k := fun o' h1 h2 h3 h4 k => g.i (by simp; omega) h4 k
  refine ⟨g.ra W.1, W.2.1, W.2.2.1.fr W.2.1.2.2.1 g (fun o ho => by simp; omega), ⟨?_, fun k hk => ?_⟩, ?_, ⟨?_, fun l hl => ?_⟩, fun ii hi => ?_⟩
  · rw [g.f (by decide) (by decide)]; exact W.t
  · rw [e2 13 (by omega) (by omega) (by omega) (by omega)]; exact W.tb hk
  · rw [g.f (by decide) (by decide)]; exact W.2.2.2.2.1
  · rw [g.f (by decide) (by decide)]; exact W.q
  · have z := W.2.2.2.2.2.1.2 l hl
    have l12 := (W.2.1.2.2.2.2.1 l hl).2.1
    refine ⟨fun k hk => ?_, ?_, fun i hi => ?_⟩
    · rw [e2 14 (by omega) (by omega) (by omega) (by omega), e2 15 (by omega) (by omega) (by omega) (by omega)]; exact z.1 k hk
    · rw [e2 16 (by omega) (by omega) (by omega) (by omega)]; exact z.2.1
    · rw [e _ (by omega) 17, e _ (by omega) 18, e _ (by omega) 19]; exact z.2.2 i hi
  · refine ⟨fun z => ?_, fun S hS => ?_⟩
    · rw [e2 45 (by omega) (by omega) (by omega) (by omega)]; exact (W.2.2.2.2.2.2 ii hi).1 z
    · rw [e2 45 (by omega) (by omega) (by omega) (by omega)]
      have z := (W.2.2.2.2.2.2 ii hi).2 S hS
      refine ⟨z.1, ?_⟩
      have eq : (fun o' k => vi (seti M (m + o) (12 * s + i) v) (m + 44) (2100 * ii + rOff o' + k)) = (fun o' k => vi M (m + 44) (2100 * ii + rOff o' + k)) := by
        funext o' k
        exact e2 44 (by omega) (by omega) (by omega) (by omega) _
      unfold rImg
      rw [eq]
      exact z.2
theorem LwA.arr {o i : Nat} {v : Int32} (h : LwA M m T s p cd n f) (ho : o = 17 ∨ o = 18 ∨ o = 19) : LwA (seti M (m + o) (12 * s + i) v) m T s p cd n f := by
  have g : Frl m [] [17, 18, 19] M (seti M (m + o) (12 * s + i) v) := Frl.si (by simp; omega)
  have q1 := h.2.1
  have RX' : RX (seti M (m + o) (12 * s + i) v) m T := h.1.arr q1 ho
  exact ⟨RX', q1, h.2.2.1, by rw [g.f (by decide) (by decide)]; exact h.pp, by rw [g.f (by decide) (by decide)]; exact h.ff, by rw [g.f (by decide) (by decide)]; exact h.2.2.2.2.2.1, by rw [g.f (by decide) (by decide)]; exact h.2.2.2.2.2.2.1, by rw [g.f (by decide) (by decide)]; exact h.cc, h.p4, h.f4, h.2.2.2.2.2.2.2.2.2.2.1, fun k hk => by rw [g.i (by decide) (by decide), g.i (by decide) (by decide)]; exact h.2.2.2.2.2.2.2.2.2.2.2 k hk⟩
theorem s_takes {i : Nat} {Q : Int32 → Mem → Prop} (h : LwA M m T s p cd n f) (hi : i < 27) (hq : ∀ M', Frl m [14] [] M M' → LwA M' m T s (cif (wAt T.1 (skB T.1 p) = strB.getD i []) (skB T.1 p + (strB.getD i []).length) (skB T.1 p)) cd n f → Q (bI (wAt T.1 (skB T.1 p) = strB.getD i [])) M') : CI G (d + 6) 178 [.ref m, .ref (gk G i)] M Q := by
  have t4 : T.1.1 ≤ 400 := h.1.t4
  have p4 := h.p4
  have sk := skB_le p4
  have wq := wl_le sk.2
  refine r_takes h.1.1 hi (s_blanks h.1 h.pp (by omega) (fun M1 g1 e1 => ⟨g1.ra h.1.1, ?_⟩))
  have h1 := h.mv g1 e1 sk.2 sk.1
  refine s_isAt h1.1 hi e1 sk.2 ⟨h1.1.1, bz (fun c => ?_) (fun c => ?_)⟩
  · rw [cif_T c] at hq
    refine s_length hi ⟨h1.1.1, fun M7 e7 => ⟨bI_or _, ?_⟩⟩
    rw [e1, nI_add] at e7
    have g7 : Frl m [14] [] M1 M7 := by rw [e7]; exact Frl.sf (by decide)
    have lw := wl_of c
    exact hq M7 (g1.trans g7) (h1.mv g7 (by rw [e7, vi_seti, if_pos ⟨rfl, rfl⟩]) (by omega) (by omega))
  · rw [cif_F c] at hq
    intro M4 e4
    rw [e1, show (0 : Int32) = nI 0 from rfl, nI_add, Nat.add_zero] at e4
    have g4 : Frl m [14] [] M1 M4 := by rw [e4]; exact Frl.sf (by decide)
    exact ⟨bI_or _, hq M4 (g1.trans g4) (h1.mv g4 (by rw [e4, vi_seti, if_pos ⟨rfl, rfl⟩]) sk.2 (Nat.le_refl _))⟩
theorem LwF.arr {o i : Nat} {v : Int32} (h : LwF M m T f) (hs : qN T ≤ s) (ho : o = 17 ∨ o = 18 ∨ o = 19) : LwF (seti M (m + o) (12 * s + i) v) m T f := by
  obtain ⟨q, q4, eq⟩ := h.2.2.2
  exact ⟨h.1.arr hs ho, by rw [vi_seti, if_neg (by omega)]; exact h.2.1, h.2.2.1, q, q4, by rw [vi_seti, if_neg (by omega)]; exact eq⟩
/-- what a clause writes of its places -/
def clP (m s i : Nat) (M M' : Mem) (a b c : Nat) : Prop := (vi M' (m + 17) (12 * s + i) = nI a ∧ vi M' (m + 18) (12 * s + i) = nI b ∧ vi M' (m + 19) (12 * s + i) = nI c) ∧ ∀ o, (o = 17 ∨ o = 18 ∨ o = 19) → ∀ j, j ≠ 12 * s + i → vi M' (m + o) j = vi M (m + o) j
theorem s_clause {i : Nat} {Q : Mem → Prop} (h : LwA M m T s p cd n 0) (h19 : vi M m 19 = nI 0) (i12 : i ≤ 12)
    (hy : (pCl T.1 i (skB T.1 p) cd n).1 = 0 → ∀ M', Ou m M M' → LwA M' m T s (pCl T.1 i (skB T.1 p) cd n).2.1 (pCl T.1 i (skB T.1 p) cd n).2.2.1 (pCl T.1 i (skB T.1 p) cd n).2.2.2 0 → vi M' m 19 = nI 0 → clP m s i M M' cd.length (clS' T.1 (skB T.1 p) cd n).2.2.1.length (pCl T.1 i (skB T.1 p) cd n).2.2.1.length → Q M')
    (hn : ¬ (pCl T.1 i (skB T.1 p) cd n).1 = 0 → ∀ M', Ou m M M' → LwF M' m T (pCl T.1 i (skB T.1 p) cd n).1 → vi M' m 16 = nI s → Q M') : CV G (d + 12) 197 [.ref m, .int (nI i)] M Q := by
  have t4 : T.1.1 ≤ 400 := h.1.t4
  have p4 := h.p4
  have sk := skB_le p4
  have b := h.b rfl
  have s4 := h.2.2.1
  have sid := skB_id T.1 p
  refine r_clause h.1.1 (s_blanks h.1 h.pp (by omega) (fun M1 g1 e1 => ⟨g1.ra h.1.1, ?_⟩))
  have h1 := h.mv g1 e1 sk.2 sk.1
  rw [e1]
  generalize skB T.1 p = q at *
  -- a FAULT at the start
  have bad : ∀ c, c < 8 → (pCl T.1 i q cd n).1 = flt q c → CV G (d + 11) 173 [.ref m, .int (nI c), .int (nI q)] M1 (fun M15 => RefAt M15 m ∧ Q M15) := fun c hc e => by
    refine s_fails h1.1.1 h1.ff (by omega) (by omega) hc (fun M3 g3 e3 => ⟨g3.ra h1.1.1, ?_⟩)
    rw [if_pos rfl, ← e] at e3
    have ne : ¬ (pCl T.1 i q cd n).1 = 0 := by rw [e]; exact flt_ne _ _
    have h3 := h1.ft g3 e3 ne (by rw [e]; exact flt_lt (by omega) hc)
    exact hn ne M3 ((g1.ou (by decide)).trans (g3.ou (by decide))) h3.toF h3.2.2.2.2.2.1
  refine s_isAt (i := 15) h1.1 (by decide) e1 sk.2 ⟨h1.1.1, bnz (fun c => ?_) (fun c => bad 0 (by omega) ?_)⟩
  · have c : wAt T.1 q = wSt := c
    rw [show (12 : Int32) = nI 12 from rfl, eq_I (by omega) (by omega)]
    refine ⟨fun ci => ?_, fun ci => bad 4 (by omega) ?_⟩
    · have lw := wl_of c
      have l6 : wSt.length = 6 := rfl
      have wq := wl_le sk.2
      have sk6 := skB_le (t := T.1) (p := q + 6) (by omega)
      intro M4 e4
      rw [e1, show (6 : Int32) = nI 6 from rfl, nI_add] at e4
      have g4 : Frl m [14] [] M1 M4 := by rw [e4]; exact Frl.sf (by decide)
      have h4 := h1.mv g4 (by rw [e4, vi_seti, if_pos ⟨rfl, rfl⟩]) (by omega) (by omega)
      have ix : nI 12 * vi M4 m 16 + nI i = nI (12 * s + i) := by rw [h4.2.2.2.2.2.1, pk_mul, nI_add]
      have v48 : vp_in (nI (12 * s + i)) 48 := vp_in_nI (by omega) (by omega)
      rw [ix, nI_clamp (by omega), h4.2.2.2.2.2.2.1]
      refine ⟨v48, fun M5 e5 => ?_⟩
      have h5 : LwA M5 m T s (q + 6) cd n 0 := by rw [e5]; exact h4.arr (by omega)
      have o5 : Ou m M M5 := (g1.ou (by decide)).trans ((g4.ou (by decide)).trans (by rw [e5]; exact (Frl.si (F := []) (L := [17]) (by decide)).ou (by decide)))
      have y19 : vi M5 m 19 = nI 0 := by rw [e5, vi_seti, if_neg (by omega), g4.f (by decide) (by decide), g1.f (by decide) (by decide)]; exact h19
      have y17 : vi M5 (m + 17) (12 * s + i) = nI cd.length := by rw [e5, vi_seti, if_pos ⟨rfl, rfl⟩]
      have yo : ∀ o, (o = 17 ∨ o = 18 ∨ o = 19) → ∀ j, j ≠ 12 * s + i → vi M5 (m + o) j = vi M (m + o) j := fun o ho j hj => by
        rw [e5, vi_seti, if_neg (fun z => hj z.2), g4.i (by simp) (by omega), g1.i (by simp) (by omega)]
      have eC : pCl T.1 i q cd n = bnd (clS' T.1 q cd n) (fun p cd n => cif (wAt T.1 p = wIf) (pTst T.1 (skB T.1 (p + 2)) cd n) (0, p, cd, n)) := by
        unfold pCl; rw [cif_T c, cif_F ci]
      rw [eC] at hy hn
      refine s_sum h5 (fun M6 p6 cd6 n6 f6 g6 h6 st6 => ⟨h6.1.1, v48, fun M7 e7 => ?_⟩)
      have st : f6 = (clS' T.1 q cd n).1 ∧ (f6 = 0 → (clS' T.1 q cd n).2 = (p6, cd6, n6)) := st6.zero
      have h7 : LwA M7 m T s p6 cd6 n6 f6 := by rw [e7]; exact h6.arr (by omega)
      have o7 : Ou m M M7 := o5.trans (g6.t.ou.trans (by rw [e7]; exact (Frl.si (F := []) (L := [18]) (by decide)).ou (by decide)))
      have z19 : vi M7 m 19 = nI 0 := by rw [e7, vi_seti, if_neg (by omega), g6.1.f (by decide) (by decide)]; exact y19
      have z17 : vi M7 (m + 17) (12 * s + i) = nI cd.length := by rw [e7, vi_seti, if_neg (by omega), g6.1.i (by decide) (by decide)]; exact y17
      have z18 : vi M7 (m + 18) (12 * s + i) = nI cd6.length := by rw [e7, vi_seti, if_pos ⟨rfl, rfl⟩]; exact h6.2.2.2.2.2.2.1
      have zo : ∀ o, (o = 17 ∨ o = 18 ∨ o = 19) → ∀ j, j ≠ 12 * s + i → vi M7 (m + o) j = vi M (m + o) j := fun o ho j hj => by
        rw [e7, vi_seti, if_neg (fun z => hj z.2), g6.1.i (by simp; omega) (by omega)]; exact yo o ho j hj
      have f64 := h6.f4
      rw [h7.ff, il_0, eq_I (by omega) (by omega)]
      refine ⟨fun z => ⟨v48, fun M8 e8 => ?_⟩, fun z => ?_⟩
      · rw [bnd_F (by rw [← st.1]; exact z), ← st.1] at hn
        have h8 : LwA M8 m T s p6 cd6 n6 f6 := by rw [e8]; exact h7.arr (by omega)
        exact hn z M8 (o7.trans (by rw [e8]; exact (Frl.si (F := []) (L := [19]) (by decide)).ou (by decide))) h8.toF h8.2.2.2.2.2.1
      · subst z
        have e6 := st.2 rfl
        have z6 : (clS' T.1 q cd n).1 = 0 := st.1.symm
        rw [bnd_T z6, e6] at hy hn
        dsimp only at hy hn
        have s6 : skB T.1 p6 = p6 := by
          have := pSm_sk (cd := cd) t4 sk6.2 b.1 z6
          unfold clS' at e6
          rw [e6] at this
          exact this
        -- the end of the clause
        have fin : ∀ (M9 M11 : Mem) (p9 : Nat) (cd9 : List Nat) (n9 : Nat), LwA M9 m T s p9 cd9 n9 0 → vi M9 m 19 = nI 0 → FrT m s M7 M9 → M11 = seti M9 (m + 19) (12 * s + i) (vi M9 m 18) → Ou m M M11 ∧ LwA M11 m T s p9 cd9 n9 0 ∧ vi M11 m 19 = nI 0 ∧ clP m s i M M11 cd.length cd6.length cd9.length := by
          intro M9 M11 p9 cd9 n9 h9 x19 g9 e11
          refine ⟨o7.trans (g9.ou.trans (by rw [e11]; exact (Frl.si (F := []) (L := [19]) (by decide)).ou (by decide))), by rw [e11]; exact h9.arr (by omega), by rw [e11, vi_seti, if_neg (by omega)]; exact x19, ⟨?_, ?_, ?_⟩, fun o ho j hj => ?_⟩
          · rw [e11, vi_seti, if_neg (by omega), g9.1.i (by decide) (by decide)]; exact z17
          · rw [e11, vi_seti, if_neg (by omega), g9.1.i (by decide) (by decide)]; exact z18
          · rw [e11, vi_seti, if_pos ⟨rfl, rfl⟩]; exact h9.2.2.2.2.2.2.1
          · rw [e11, vi_seti, if_neg (fun z => hj z.2), g9.1.i (by simp; omega) (by omega)]; exact zo o ho j hj
        refine s_takes (i := 23) h7 (by decide) (fun M9 g9 h9 => ⟨h9.1.1, bz (fun cc => ?_) (fun cc => ?_)⟩)
        · rw [cif_T cc, s6] at h9
          have cc : wAt T.1 (skB T.1 p6) = wIf := cc
          rw [s6] at cc
          have h9 : LwA M9 m T s (p6 + 2) cd6 n6 0 := h9
          rw [cif_T cc] at hy hn
          refine s_test h9 (by rw [g9.f (by decide) (by decide)]; exact z19) (fun y M12 g12 h12 => ⟨h12.1.1, v48, fun M13 e13 => ?_⟩) (fun y M12 g12 h12 x19 => ⟨h12.1.1, v48, fun M13 e13 => ?_⟩)
          · have h13 : LwF M13 m T (pTst T.1 (skB T.1 (p6 + 2)) cd6 n6).1 := by rw [e13]; exact h12.arr h.2.1 (by omega)
            exact hn y M13 (o7.trans ((g9.ou (by decide)).trans (g12.ou.trans (by rw [e13]; exact (Frl.si (F := []) (L := [19]) (by decide)).ou (by decide))))) h13 (by rw [e13, vi_seti, if_neg (by omega), g12.1.f (by decide) (by decide)]; exact h9.2.2.2.2.2.1)
          · have r := fin M12 M13 _ _ _ h12 x19 ((FrT.ofF g9 (by decide)).trans g12) e13
            exact hy y M13 r.1 r.2.1 r.2.2.1 r.2.2.2
        · rw [cif_F cc, s6] at h9
          have cc : ¬ wAt T.1 (skB T.1 p6) = wIf := cc
          rw [s6] at cc
          rw [cif_F cc] at hy hn
          refine ⟨v48, fun M11 e11 => ?_⟩
          have r := fin M9 M11 _ _ _ h9 (by rw [g9.f (by decide) (by decide)]; exact z19) (FrT.ofF g9 (by decide)) e11
          exact hy rfl M11 r.1 r.2.1 r.2.2.1 r.2.2.2
    · unfold pCl; rw [cif_T c, cif_T ci]
  · have c : ¬ wAt T.1 q = wSt := c
    unfold pCl; rw [cif_F c]
end
