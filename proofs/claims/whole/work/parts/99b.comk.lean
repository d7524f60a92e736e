/-! THE TEXT: the class; its chain, its moves -/
theorem c_X0_writeN {G : GT} {d : Nat} {M : Mem} {o : Nat} {Q : Mem → Prop} (hq : Q M) : CV G (d + 1) 8 [.ref o, .null] M Q := by
  refine Cl.ofM (Nat.le_of_ble_eq_true rfl) rfl ?_
  refine vcc ok8 0 [14] ?_
  exact ⟨rfl, hq⟩
/-- a row of MARKS -/
def mrA (w : Nat → Nat) (M : Mem) (a : Nat) (S : ShT) (ss : List Nat) : Prop := mK M a = 19 ∧ ss.length ≤ mA M a ∧ mA M a ≤ 64 ∧ ∀ i, i < ss.length → isM S (ss.getD i 0) ∧ ∃ r, vr M a i = some r ∧ cMk w M r (kM S (ss.getD i 0))
theorem wdl_some {S : ShT} {dn : Nat → Prop} : ∀ (n : Nat) (l : List Nat) {b : Nat}, n = l.length → wdl S dn l = some b → b ∈ l ∧ kK (kM S b) = 4
  | 0, l, b, hn, h => by
    have : l = [] := List.eq_nil_of_length_eq_zero hn.symm
    rw [this] at h; cases h
  | n + 1, l, b, hn, h => by
    obtain ⟨l0, s, el⟩ : ∃ l0 s, l = l0 ++ [s] := ⟨l.dropLast, l.getLast (fun z => by rw [z] at hn; cases hn), (List.dropLast_concat_getLast _).symm⟩
    subst el
    rw [List.length_append] at hn
    have hn : n + 1 = l0.length + 1 := hn
    rw [wdl_s] at h
    unfold wdS' at h
    cases e : wdl S dn l0 with
    | none =>
      rw [e] at h
      dsimp only at h
      by_cases c : kK (kM S s) = 4 ∧ ¬ dn s
      · rw [cif_T c] at h; cases h; exact ⟨by simp, c.1⟩
      · rw [cif_F c] at h; cases h
    | some b' =>
      rw [e] at h
      dsimp only at h
      by_cases c : (kK (kM S s) = 4 ∧ ¬ dn s) ∧ mSp (kM S b') < mSp (kM S s)
      · rw [cif_T c] at h; cases h; exact ⟨by simp, c.1.1⟩
      · rw [cif_F c] at h; cases h
        have := wdl_some n l0 (by omega) e
        exact ⟨List.mem_append_left _ this.1, this.2⟩
section
variable {G : GT} {d : Nat} {M M' : Mem} {o a : Nat} {w : Nat → Nat} {S : ShT} {L ss : List Nat} {p dn : Nat → Prop}
theorem mv_span {r n : Nat} {x : MkT} (n2 : n ≤ 200) (hm : mkAt M r x) (ok : okM n x) (k : kK x = 4) : vi M r 7 - vi M r 6 = mSp x := by
  have q := mv_ok n2 ok k
  have nt : ¬ kT x = -1 := by rw [q.2.2.1]; exact nI_neN1 (by omega)
  rw [hm.f6, hm.f7, if_neg nt, if_neg nt]
  rfl
theorem k_hook {x : Nat} {X : List Nat} {Q : Mem → Prop} (O : ObAt 0 M o) (x4 : x < 401) (X4 : ∀ z ∈ X, z < 401) (hq : ∀ M', Frl o [] [2, 3] M M' → (∀ z, vi M' (o + 2) z = if z = x then hdI (-1) X else vi M (o + 2) z) → (∀ z, vi M' (o + 3) z = if X.head? = some z then nI x else vi M (o + 3) z) → Q M') : CV G (d + 1) 6 [.ref o, .int (nI x), .int (hdI (-1) X)] M Q := by
  refine c_X0_hook O ⟨fun z => absurd z (nlt0 _ (by omega)), fun _ => ⟨fun z => absurd z (nI_ge (a := x) (b := 401) (by omega) (by decide)), fun _ => ⟨vp_in_nI (by omega) (by omega), fun M3 e3 => ?_⟩⟩⟩
  rw [nI_clamp (by omega)] at e3
  have g3 : Frl o [] [2, 3] M M3 := by rw [e3]; exact Frl.si (by decide)
  have n3 : ∀ z, vi M3 (o + 2) z = if z = x then hdI (-1) X else vi M (o + 2) z := fun z => by
    rw [e3, vi_seti]
    by_cases y : z = x
    · rw [if_pos ⟨rfl, y⟩, if_pos y]
    · rw [if_neg (fun u => y u.2), if_neg y]
  have b3 : ∀ z, vi M3 (o + 3) z = vi M (o + 3) z := fun z => by rw [e3, vi_seti, if_neg (by omega)]
  match X, X4, n3, hq with
  | [], _, n3, hq =>
    refine ⟨fun _ => hq M3 g3 n3 (fun z => ?_), fun z => absurd (show (-1 : Int32) < 0 by decide) z⟩
    rw [b3]; exact (if_neg (fun e => by cases e)).symm
  | y :: X, X4, n3, hq =>
    have y4 := X4 y List.mem_cons_self
    show ((nI y < 0 → Q M3) ∧ (¬ nI y < 0 → ((401 : Int32) ≤ nI y → Q M3) ∧ (¬ (401 : Int32) ≤ nI y → vp_in (nI y) 401 ∧ (∀ M4, M4 = seti M3 (o + 3) ((nI y)).toNatClampNeg (nI x) → Q M4))))
    refine ⟨fun z => absurd z (nlt0 _ (by omega)), fun _ => ⟨fun z => absurd z (nI_ge (a := y) (b := 401) (by omega) (by decide)), fun _ => ⟨vp_in_nI (by omega) (by omega), fun M4 e4 => ?_⟩⟩⟩
    rw [nI_clamp (by omega)] at e4
    refine hq M4 (g3.trans (by rw [e4]; exact Frl.si (by decide))) (fun z => by rw [e4, vi_seti, if_neg (by omega)]; exact n3 z) (fun z => ?_)
    rw [e4, vi_seti, b3]
    by_cases u : z = y
    · rw [if_pos ⟨rfl, u⟩, u]; exact (if_pos rfl).symm
    · rw [if_neg (fun q => u q.2)]; exact (if_neg (fun e => u (by cases e; rfl))).symm
/-- the items hang in a chain -/
def chR (M : Mem) (o : Nat) (L : List Nat) : Prop := chn (fun z => vi M (o + 2) z) (fun z => vi M (o + 3) z) (-1) L (-1)
theorem k_shift {r f s t n : Nat} {x : MkT} {Q : Mem → Prop} (O : ObAt 0 M o) (hm : mkAt M r x) (e1 : kF x = nI f) (e2 : kS x = nI s) (e3 : kT x = nI t) (fs : f < s) (s4 : s ≤ 200) (t4 : t ≤ 200) (ht : t ≤ f ∨ s ≤ t) (hN : L.Nodup) (lb : ∀ z ∈ L, z < 401) (hc : contig L f s) (hu : 2 * t ∈ L) (h0 : ∃ L', L = 0 :: L') (hL : chR M o L) (hq : ∀ M', Frl o [] [2, 3] M M' → chR M' o (mvL L f s t) → Q M') : CV G (d + 2) 5 [.ref o, .ref r] M Q := by
  obtain ⟨A, B, C, D, e, eab, nc, em⟩ := mv_str hN hc hu fs ht
  obtain ⟨L', eL'⟩ := h0
  obtain ⟨A0, a0, eA⟩ : ∃ A0 a0, A = A0 ++ [a0] := by
    match A, e with
    | [], e =>
      exfalso
      have m0 : (0 : Nat) ∈ row f s := by
        have : (row f s ++ B).head? = some 0 := by rw [show row f s ++ B = L by rw [e]; rfl, eL']; rfl
        have rl : 0 < (row f s).length := by unfold row; rw [List.length_range']; omega
        match hr : row f s, rl with
        | y :: R, _ => rw [hr] at this; simp at this; rw [this]; exact List.mem_cons_self
      have := mem_row.mp m0
      omega
    | y :: A', e => exact ⟨(y :: A').dropLast, (y :: A').getLast (by simp), (List.dropLast_concat_getLast _).symm⟩
  subst eA
  have eR : row f s = (2 * f + 1) :: (row f s).tail := by
    unfold row
    rw [show 2 * (s - f) - 1 = (2 * (s - f) - 2) + 1 by omega, List.range'_succ]; rfl
  have eT : row f s = (row f s).dropLast ++ [2 * s - 1] := by
    have : row f s = List.range' (2 * f + 1) (2 * (s - f) - 2) ++ [2 * s - 1] := by
      unfold row
      rw [show 2 * (s - f) - 1 = (2 * (s - f) - 2) + 1 by omega, List.range'_concat]
      congr 2
      omega
    rw [this, List.dropLast_concat]
  generalize hR1 : (row f s).tail = R1 at *
  generalize hR0 : (row f s).dropLast = R0 at *
  have eRT : (2 * f + 1) :: R1 = R0 ++ [2 * s - 1] := by rw [← eR]; exact eT
  rw [eR] at e em
  have lt : ∀ z, z ∈ A0 ++ [a0] ∨ z ∈ B ∨ z ∈ C ∨ z ∈ D → z < 401 := fun z hz => by
    have hAB : z ∈ A0 ++ [a0] ++ B → z < 401 := fun y => lb z (by
      rw [e]
      rcases List.mem_append.mp y with u | u
      · exact List.mem_append_left _ (List.mem_append_left _ u)
      · exact List.mem_append_right _ u)
    rcases hz with y | y | y | y
    · exact hAB (List.mem_append_left _ y)
    · exact hAB (List.mem_append_right _ y)
    · exact hAB (by rw [eab]; exact List.mem_append_left _ y)
    · exact hAB (by rw [eab]; exact List.mem_append_right _ (List.mem_cons_of_mem _ y))
  have a4 := lt a0 (Or.inl (by simp))
  have hc0 : chn (fun z => vi M (o + 2) z) (fun z => vi M (o + 3) z) (-1) (A0 ++ [a0] ++ ((2 * f + 1) :: R1) ++ B) (-1) := by rw [← e]; exact hL
  have hN0 : (A0 ++ [a0] ++ ((2 * f + 1) :: R1) ++ B).Nodup := by rw [← e]; exact hN
  -- what stands at the ends
  have c0 : chn (fun z => vi M (o + 2) z) (fun z => vi M (o + 3) z) (-1) (A0 ++ [a0] ++ R0 ++ [2 * s - 1] ++ B) (-1) := by
    have : A0 ++ [a0] ++ R0 ++ [2 * s - 1] ++ B = A0 ++ [a0] ++ ((2 * f + 1) :: R1) ++ B := by rw [eRT]; simp only [List.append_assoc]
    rw [this]; exact hc0
  have c1 := chn_ap.mp c0
  have c2 : chn (fun z => vi M (o + 2) z) (fun z => vi M (o + 3) z) (-1) (A0 ++ [a0] ++ (2 * f + 1) :: R1) (hdI (-1) B) := by
    have : A0 ++ [a0] ++ R0 ++ [2 * s - 1] = A0 ++ [a0] ++ (2 * f + 1) :: R1 := by rw [eRT]; simp only [List.append_assoc]
    rw [← this]; exact c1.1
  have vh : vi M (o + 3) (2 * f + 1) = nI a0 := chn_first (chn_app.mp c2).2
  have vt : vi M (o + 2) (2 * s - 1) = hdI (-1) B := chn_last c1.1
  refine c_X0_shift O hm.k ?_
  have i1 : (2 : Int32) * nI f + 1 = nI (2 * f + 1) := by rw [show (2 : Int32) = nI 2 from rfl, pk_mul, nI_1]
  have i2 : (2 : Int32) * nI s - 1 = nI (2 * s - 1) := by rw [show (2 : Int32) = nI 2 from rfl, pk_mul, show (1 : Int32) = nI 1 from rfl, pk_sub (by omega)]
  have i3 : (2 : Int32) * nI t = nI (2 * t) := by rw [show (2 : Int32) = nI 2 from rfl, pk_mul]
  rw [hm.f1, hm.f2, hm.f3, e1, e2, e3, i1, i2, i3, nI_clamp (n := 2 * f + 1) (by omega), nI_clamp (n := 2 * s - 1) (by omega), nI_clamp (n := 2 * t) (by omega), vh, vt, lt_I (by omega) (by omega), show (401 : Int32) = nI 401 from rfl, le_I (by omega) (by omega), lt_I (by omega) (by omega)]
  refine ⟨fun z => absurd z (nlt0 _ (by omega)), fun _ => ⟨fun z => absurd z (by omega), fun _ => ⟨fun z => absurd z (by omega), fun _ => ⟨fun z => absurd z (nlt0 _ (by omega)), fun _ => ⟨fun _ => ⟨vp_in_nI (by omega) (by omega), vp_in_nI (by omega) (by omega), ?_⟩, fun z => absurd (by omega) z⟩⟩⟩⟩⟩
  refine k_hook O (by omega) (fun z hz => lt z (Or.inr (Or.inl hz))) (fun M1 g1 n1 b1 => ⟨⟨g1.ob O, by rw [g1.2.2.1]; exact hm.k⟩, vp_in_nI (by omega) (by omega), ?_⟩)
  -- the rest by what is known of chains
  have fin : ∀ (nx2 bf2 nx3 bf3 : Nat → Int32), (∀ z, nx2 z = if z = 2 * s - 1 then vi M1 (o + 2) (2 * t) else vi M1 (o + 2) z) → (∀ z, bf2 z = if D.head? = some z then nI (2 * s - 1) else vi M1 (o + 3) z) → (∀ z, nx3 z = if z = 2 * t then nI (2 * f + 1) else nx2 z) → (∀ z, bf3 z = if z = 2 * f + 1 then nI (2 * t) else bf2 z) → chn nx3 bf3 (-1) (C ++ 2 * t :: ((2 * f + 1) :: R1 ++ D)) (-1) ∧ vi M1 (o + 2) (2 * t) = hdI (-1) D := fun nx2 bf2 nx3 bf3 q1 q2 q3 q4 => by
    have r := chn_mv (nx1 := fun z => vi M1 (o + 2) z) (bf1 := fun z => vi M1 (o + 3) z) eRT hN0 hc0 eab (fun z => by rw [n1 z, vt]) b1 q1 q2 q3 q4
    exact ⟨r.1, r.2.2.2⟩
  have nu := (fin (fun z => if z = 2 * s - 1 then vi M1 (o + 2) (2 * t) else vi M1 (o + 2) z) (fun z => if D.head? = some z then nI (2 * s - 1) else vi M1 (o + 3) z) (fun z => if z = 2 * t then nI (2 * f + 1) else if z = 2 * s - 1 then vi M1 (o + 2) (2 * t) else vi M1 (o + 2) z) (fun z => if z = 2 * f + 1 then nI (2 * t) else if D.head? = some z then nI (2 * s - 1) else vi M1 (o + 3) z) (fun _ => rfl) (fun _ => rfl) (fun _ => rfl) (fun _ => rfl)).2
  rw [nu]
  refine k_hook (g1.ob O) (by omega) (fun z hz => lt z (Or.inr (Or.inr (Or.inr hz)))) (fun M2 g2 n2 b2 => ⟨⟨g2.ob (g1.ob O), by rw [g2.2.2.1, g1.2.2.1]; exact hm.k⟩, ?_⟩)
  have ex : nI (2 * f + 1) = hdI (-1) [2 * f + 1] := rfl
  rw [ex]
  refine k_hook (g2.ob (g1.ob O)) (by omega) (fun z hz => by rw [List.mem_singleton.mp hz]; omega) (fun M3 g3 n3 b3 => ⟨⟨g3.ob (g2.ob (g1.ob O)), by rw [g3.2.2.1, g2.2.2.1, g1.2.2.1]; exact hm.k⟩, hq M3 (g1.trans (g2.trans g3)) ?_⟩)
  rw [em]
  refine (fin (fun z => vi M2 (o + 2) z) (fun z => vi M2 (o + 3) z) (fun z => vi M3 (o + 2) z) (fun z => vi M3 (o + 3) z) (fun z => by rw [n2 z, nu]) b2 n3 (fun z => ?_)).1
  rw [b3 z]
  by_cases y : z = 2 * f + 1
  · rw [if_pos y, y]; exact if_pos rfl
  · rw [if_neg y]; exact if_neg (fun e => y (by cases e; rfl))
end
