/-! READING LAWS: a clause; the reference -/
def wSt : List Int32 := strB.getD 15 []
def wIf : List Int32 := strB.getD 23 []
/-- the sum of a clause at q -/
noncomputable def clS' (t : TpT) (q : Nat) (cd : List Nat) (n : Nat) : Nat × LxT := pSm t (skB t (q + 6)) cd n
noncomputable def pCl (t : TpT) (i q : Nat) (cd : List Nat) (n : Nat) : Nat × LxT :=
  cif (wAt t q = wSt) (cif (i = 12) (flt q 4, q, cd, n) (bnd (clS' t q cd n) (fun p cd n => cif (wAt t p = wIf) (pTst t (skB t (p + 2)) cd n) (0, p, cd, n)))) (flt q 0, q, cd, n)
section
variable {G : GT} {d : Nat} {M M' : Mem} {m s p n f : Nat} {T : StT} {cd : List Nat}
theorem FrT.ou (g : FrT m s M M') : Ou m M M' := g.1.ou (by decide)
/-- a place of a clause is written -/
theorem LwA.arr {o i : Nat} {v : Int32} (h : LwA M m T s p cd n f) (ho : o = 17 ∨ o = 18 ∨ o = 19) : LwA (seti M (m + o) (12 * s + i) v) m T s p cd n f := by
  have g : Frl m [] [17, 18, 19] M (seti M (m + o) (12 * s + i) v) := Frl.si (by simp; omega)
  have e : ∀ j, j < 12 * s → ∀ o', vi (seti M (m + o) (12 * s + i) v) (m + o') j = vi M (m + o') j := fun j hj o' => by rw [vi_seti, if_neg (by omega)]
  have W := h.1
  have q1 := h.2.1
  have RX' : RX (seti M (m + o) (12 * s + i) v) m T := by
    have e2 : ∀ o', o' ≠ 17 → o' ≠ 18 → o' ≠ 19 → 0 < o' → ∀ k, vi (seti M (m + o) (12 * s + i) v) (m + o') k = vi M (m + o') k := fun o' h1 h2 h3 h4 k => g.i (by simp; omega) h4 k
    refine ⟨g.ra W.1, W.2.1, W.2.2.1.fr W.2.1.2.2.1 g (fun o ho => by simp; omega), ⟨?_, fun k hk => ?_⟩, ?_, ⟨?_, fun l hl => ?_⟩, fun ii hi => ?_⟩
    · rw [g.f (by decide) (by decide)]; exact W.t
    · rw [e2 13 (by omega) (by omega) (by omega) (by omega)]; exact W.tb hk
    · rw [g.f (by decide) (by decide)]; exact W.2.2.2.2.1
    · rw [g.f (by decide) (by decide)]; exact W.q
    · have z := W.2.2.2.2.2.1.2 l hl
      have l12 := (W.2.1.2.2.2.2.1 l hl).2.1
      refine ⟨fun k hk => ?_, ?_, fun i hi => ?_⟩
      · rw [e2 14 (by omega) (by omega) (by omega) (by omega), e2 15 (by omega) (by omega) (by omega) (by omega)]; exact z.1 k hk
      · rw [e2 16 (by omega) (by omega) (by omega) (by omega)]; exact z.2.1
      · rw [e _ (by omega) 17, e _ (by omega) 18, e _ (by omega) 19]; exact z.2.2 i hi
    · refine ⟨fun z => ?_, fun S hS => ?_⟩
      · rw [e2 45 (by omega) (by omega) (by omega) (by omega)]; exact (W.2.2.2.2.2.2 ii hi).1 z
      · rw [e2 45 (by omega) (by omega) (by omega) (by omega)]
        have z := (W.2.2.2.2.2.2 ii hi).2 S hS
        refine ⟨z.1, ?_⟩
        have eq : (fun o' k => vi (seti M (m + o) (12 * s + i) v) (m + 44) (2100 * ii + rOff o' + k)) = (fun o' k => vi M (m + 44) (2100 * ii + rOff o' + k)) := by
          funext o' k
          exact e2 44 (by omega) (by omega) (by omega) (by omega) _
        unfold rImg
        rw [eq]
        exact z.2
  exact ⟨RX', q1, h.2.2.1, by rw [g.f (by decide) (by decide)]; exact h.pp, by rw [g.f (by decide) (by decide)]; exact h.ff, by rw [g.f (by decide) (by decide)]; exact h.2.2.2.2.2.1, by rw [g.f (by decide) (by decide)]; exact h.2.2.2.2.2.2.1, by rw [g.f (by decide) (by decide)]; exact h.cc, h.p4, h.f4, h.2.2.2.2.2.2.2.2.2.2.1, fun k hk => by rw [g.i (by decide) (by decide), g.i (by decide) (by decide)]; exact h.2.2.2.2.2.2.2.2.2.2.2 k hk⟩
theorem s_takes {i : Nat} {Q : Int32 → Mem → Prop} (h : LwA M m T s p cd n f) (hi : i < 27) (hq : ∀ M', Frl m [14] [] M M' → LwA M' m T s (cif (wAt T.1 (skB T.1 p) = strB.getD i []) (skB T.1 p + (strB.getD i []).length) (skB T.1 p)) cd n f → Q (bI (wAt T.1 (skB T.1 p) = strB.getD i [])) M') : CI G (d + 6) 178 [.ref m, .ref (gk G i)] M Q := by
  have t4 : T.1.1 ≤ 400 := h.1.t4
  have p4 := h.p4
  have sk := skB_le p4
  have wq := wl_le sk.2
  refine r_takes h.1.1 hi (s_blanks h.1 h.pp (by omega) (fun M1 g1 e1 => ⟨g1.ra h.1.1, ?_⟩))
  have h1 := h.mv g1 e1 sk.2 sk.1
  refine s_isAt h1.1 hi e1 sk.2 ⟨h1.1.1, bz (fun c => ?_) (fun c => ?_)⟩
  · rw [cif_T c] at hq
    refine s_length hi ⟨h1.1.1, fun M7 e7 => ⟨bI_or _, ?_⟩⟩
    rw [e1, nI_add] at e7
    have g7 : Frl m [14] [] M1 M7 := by rw [e7]; exact Frl.sf (by decide)
    have lw := wl_of c
    exact hq M7 (g1.trans g7) (h1.mv g7 (by rw [e7, vi_seti, if_pos ⟨rfl, rfl⟩]) (by omega) (by omega))
  · rw [cif_F c] at hq
    intro M4 e4
    rw [e1, show (0 : Int32) = nI 0 from rfl, nI_add, Nat.add_zero] at e4
    have g4 : Frl m [14] [] M1 M4 := by rw [e4]; exact Frl.sf (by decide)
    exact ⟨bI_or _, hq M4 (g1.trans g4) (h1.mv g4 (by rw [e4, vi_seti, if_pos ⟨rfl, rfl⟩]) sk.2 (Nat.le_refl _))⟩
theorem LwF.arr {o i : Nat} {v : Int32} (h : LwF M m T f) (hs : qN T ≤ s) (ho : o = 17 ∨ o = 18 ∨ o = 19) (W : RX (seti M (m + o) (12 * s + i) v) m T) : LwF (seti M (m + o) (12 * s + i) v) m T f := by
  obtain ⟨q, q4, eq⟩ := h.2.2.2
  exact ⟨W, by rw [vi_seti, if_neg (by omega)]; exact h.2.1, h.2.2.1, q, q4, by rw [vi_seti, if_neg (by omega)]; exact eq⟩
end
