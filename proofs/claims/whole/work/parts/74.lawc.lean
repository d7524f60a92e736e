/-! READING LAWS: a FACT made of a SIGN; the reference -/
/-- < or > with = behind it -/
def isOr (t : TpT) (p : Nat) : Prop := ¬ pk t p = 61 ∧ pk t (p + 1) = 61
noncomputable def cmX (t : TpT) (p : Nat) : Nat := cif (isOr t p) (p + 2) (p + 1)
noncomputable def cmC (t : TpT) (p : Nat) : Nat := cif (pk t p = 61) 200006 (cif (pk t p = 60) (cif (isOr t p) 200005 200004) (cif (isOr t p) 200007 200008))
def isCm (t : TpT) (p : Nat) : Prop := pk t p = 60 ∨ pk t p = 61 ∨ pk t p = 62
noncomputable def pCm2 (t : TpT) (p : Nat) (cd : List Nat) (n : Nat) : Nat × LxT :=
  cif (isCm t p) (cif (n = 60) (flt p 3, p, cd, n) (cif ((pSm t (skB t (cmX t p)) cd (n + 1)).1 = 0) (0, (pSm t (skB t (cmX t p)) cd (n + 1)).2.1, (pSm t (skB t (cmX t p)) cd (n + 1)).2.2.1 ++ [cmC t p], (pSm t (skB t (cmX t p)) cd (n + 1)).2.2.2) (pSm t (skB t (cmX t p)) cd (n + 1)))) (flt p 0, p, cd, n)
noncomputable def pCmp (t : TpT) (p : Nat) (cd : List Nat) (n : Nat) : Nat × LxT :=
  cif ((pSm t p cd n).1 = 0) (pCm2 t (pSm t p cd n).2.1 (pSm t p cd n).2.2.1 (pSm t p cd n).2.2.2) (pSm t p cd n)
theorem cmX_le {t : TpT} {p : Nat} (h : isCm t p) : p + 1 ≤ cmX t p ∧ cmX t p ≤ t.1 := by
  have q : p < t.1 := (pk_at (c := pk t p) rfl (by rcases h with c | c | c <;> rw [c] <;> decide)).1
  unfold cmX
  refine cif_el (φ := fun r => p + 1 ≤ r ∧ r ≤ t.1) (fun z => ?_) (fun _ => by omega)
  have := (pk_at z.2 (by decide)).1
  omega
theorem pCm2_rom {t : TpT} {p n : Nat} {cd : List Nat} (t4 : t.1 ≤ 400) (p4 : p ≤ t.1) (n6 : n ≤ 60) : rom t p cd n 6 (pCm2 t p cd n) := by
  have fl : ∀ c, c < 8 → rom t p cd n 6 (flt p c, p, cd, n) := fun c hc => ⟨flt_lt (by omega) hc, fun z => absurd z (by show ¬ flt p c = 0; unfold flt; omega)⟩
  unfold pCm2
  refine cif_el (φ := rom t p cd n 6) (fun c => ?_) (fun _ => fl 0 (by omega))
  refine cif_el (φ := rom t p cd n 6) (fun _ => fl 3 (by omega)) (fun z => ?_)
  have cx := cmX_le c
  have sk := skB_le cx.2
  have v := pSm_rom (cd := cd) t4 sk.2 (show n + 1 ≤ 60 by omega)
  refine cif_el (φ := rom t p cd n 6) (fun z => ⟨by show 0 < _; omega, fun _ => ?_⟩) (fun z => ⟨v.1, fun y => absurd y z⟩)
  have v2 := v.2 z
  show p ≤ (pSm t (skB t (cmX t p)) cd (n + 1)).2.1 ∧ (pSm t (skB t (cmX t p)) cd (n + 1)).2.1 ≤ t.1 ∧ (pSm t (skB t (cmX t p)) cd (n + 1)).2.2.2 ≤ 60 ∧ 6 * n + p + 3 * ((pSm t (skB t (cmX t p)) cd (n + 1)).2.2.1 ++ [cmC t p]).length + 6 ≤ 6 * (pSm t (skB t (cmX t p)) cd (n + 1)).2.2.2 + (pSm t (skB t (cmX t p)) cd (n + 1)).2.1 + 3 * cd.length
  rw [List.length_append, List.length_singleton]
  omega
theorem pCmp_rom {t : TpT} {p n : Nat} {cd : List Nat} (t4 : t.1 ≤ 400) (p4 : p ≤ t.1) (n6 : n ≤ 60) : rom t p cd n 9 (pCmp t p cd n) := by
  have v := pSm_rom (cd := cd) t4 p4 n6
  unfold pCmp
  refine cif_el (φ := rom t p cd n 9) (fun z => ?_) (fun z => ⟨v.1, fun y => absurd y z⟩)
  have v2 := v.2 z
  have r := pCm2_rom (cd := (pSm t p cd n).2.2.1) t4 v2.2.1 v2.2.2.1
  exact ⟨r.1, fun y => by have r2 := r.2 y; omega⟩
section
variable {G : GT} {d : Nat} {M M' : Mem} {m s p n f : Nat} {T : StT} {cd : List Nat}
theorem s_compared {Q : Mem → Prop} (h : LwA M m T s p cd n f) (hq : ∀ M' p' cd' n' f', FrW m s M M' → LwA M' m T s p' cd' n' f' → lStp (pCmp T.1 (skB T.1 p) cd n) f f' p' cd' n' → Q M') : CV G (d + 9) 185 [.ref m] M Q := by
  have t4 : T.1.1 ≤ 400 := h.x.t4
  have p4 := h.p4
  have sk := skB_le p4
  refine r_compared h.1.1 (s_sum h (fun M1 p1 cd1 n1 f1 g1 h1 st1 => ⟨h1.1.1, ?_⟩))
  have p14 := h1.p4
  have f14 := h1.f4
  have rb : f1 = 0 → n1 ≤ 60 ∧ 3 * cd1.length + 3 ≤ 6 * n1 + p1 := fun z => by
    have f0 : f = 0 := Classical.byContradiction (fun y => y (by rw [← st1.1 y]; exact z))
    have b := h.b f0
    have st := st1.2 f0
    have rm := (pSm_rom (cd := cd) t4 sk.2 b.1).2 (by rw [← st.1]; exact z)
    rw [st.2 z] at rm
    dsimp only at rm
    omega
  -- it suffices to go on from here
  have hq2 : ∀ M' p' cd' n' f', FrW m s M1 M' → LwA M' m T s p' cd' n' f' → lStp (pCm2 T.1 p1 cd1 n1) f1 f' p' cd' n' → Q M' := fun M' p' cd' n' f' g' h' st' => hq M' p' cd' n' f' (g1.trans g') h' ⟨fun y => by
      have e := st1.1 y
      rw [st'.1 (by rw [e]; exact y), e], fun y => by
      have st := st1.2 y
      unfold pCmp
      by_cases z : f1 = 0
      · rw [cif_T (by rw [← st.1]; exact z)]
        rw [st.2 z]
        exact st'.2 z
      · rw [cif_F (by rw [← st.1]; exact z)]
        rw [st'.1 z]
        exact ⟨st.1, fun y => absurd y z⟩⟩
  have e37 : isCm T.1 p1 → At G (d + 9) 185 37 [(0, .ref m), (1, .int (pk T.1 p1))] [] M1 (qV Q) := fun cm => by
    have cx := cmX_le cm
    have q1 : p1 < T.1.1 := by omega
    refine r_compared_37 h1.1.1 ?_
    rw [h1.pp]
    refine s_isCounted h1 (by omega) (fun M5 f5 g5 h5 a5 b5 => ⟨h5.1.1, fun M6 e6 => ?_⟩)
    rw [h5.pp, nI_1] at e6
    have g6 : Frl m [14] [] M5 M6 := by rw [e6]; exact Frl.sf (by decide)
    have h6 := h5.mv g6 (by rw [e6, vi_seti, if_pos ⟨rfl, rfl⟩]) (by omega) (by omega)
    have gB : FrW m s M1 M6 := g5.trans (FrW.ofF g6 (by decide))
    have e90 : ∀ (l2 : Int32) (k : Nat), (isOr T.1 p1 → ¬ l2 = 0 ∧ k = 1) → (¬ isOr T.1 p1 → l2 = 0 ∧ k = 0) → At G (d + 9) 185 90 [(0, .ref m), (1, .int (pk T.1 p1)), (2, .int l2)] [.int (nI k), .int (vi M6 m 14), .ref m] M6 (qV Q) := by
      intro l2 k hy hn
      have ek : p1 + 1 + k = cmX T.1 p1 := by
        unfold cmX
        by_cases z : isOr T.1 p1
        · rw [cif_T z, (hy z).2]
        · rw [cif_F z, (hn z).2]
      refine r_compared_90 h6.1.1 ⟨h6.1.1.1, fun M9 e9 => ?_⟩
      rw [h6.pp, nI_add, ek] at e9
      have g9 : Frl m [14] [] M6 M9 := by rw [e9]; exact Frl.sf (by decide)
      have h9 := h6.mv g9 (by rw [e9, vi_seti, if_pos ⟨rfl, rfl⟩]) cx.2 (by omega)
      refine s_sum h9 (fun M10 p10 cd10 n10 f10 g10 h10 st10 => ⟨h10.1.1, ?_⟩)
      have skc := skB_le cx.2
      have z5 : f5 = 0 → f1 = 0 ∧ n1 + 1 ≤ 60 := fun z => by
        have f0 : f1 = 0 := Classical.byContradiction (fun y => y (by rw [← a5 y]; exact z))
        have := b5 f0
        have b := rb f0
        by_cases u : n1 = 60
        · rw [if_pos u, z] at this; exact absurd this.symm (flt_ne _ _)
        · exact ⟨f0, by omega⟩
      have z10 : f10 = 0 → f5 = 0 := fun z => Classical.byContradiction (fun y => y (by rw [← st10.1 y]; exact z))
      have e139 : ∀ (e c : Nat), c = cmC T.1 p1 → (nI e = nI (rSort c) ∧ nI 0 = nI (rNum c)) → At G (d + 9) 185 139 [] [.int (nI e), .ref m] M10 (qV Q) := by
        intro e c ec es
        refine r_compared_139 h10.1.1 ⟨h10.1.1.1, s_entry (c := c) h10 (fun _ => es) (fun z => ?_) (fun M11 cd11 g11 h11 c11 => ⟨h11.1.1, hq2 M11 p10 cd11 n10 f10 (gB.trans ((FrW.ofF g9 (by decide)).trans (g10.trans g11))) h11 ⟨fun y => ?_, fun y => ?_⟩⟩)⟩
        · have y5 := z10 z
          have y1 := z5 y5
          have b := rb y1.1
          have st := st10.2 y5
          have rm := (pSm_rom (cd := cd1) t4 skc.2 y1.2).2 (by rw [← st.1]; exact z)
          rw [st.2 z] at rm
          dsimp only at rm
          omega
        · have e5 := a5 y
          rw [st10.1 (by rw [e5]; exact y), e5]
        · have e5 := b5 y
          unfold pCm2
          rw [cif_T cm]
          by_cases u : n1 = 60
          · rw [if_pos u] at e5
            rw [cif_T u, st10.1 (by rw [e5]; exact flt_ne _ _), e5]
            exact ⟨rfl, fun y => absurd y (flt_ne _ _)⟩
          · rw [if_neg u] at e5
            have st := st10.2 e5
            rw [cif_F u]
            by_cases z : f10 = 0
            · rw [cif_T (by rw [← st.1]; exact z)]
              refine ⟨z, fun _ => ?_⟩
              rw [c11 z, ← ec, st.2 z]
            · rw [cif_F (by rw [← st.1]; exact z)]
              exact ⟨st.1, fun y => absurd y z⟩
      by_cases z : isOr T.1 p1
      · have l2 := (hy z).1
        refine ⟨fun c61 => ⟨fun c60 => ⟨fun y => absurd y l2, fun _ => e139 7 200007 ?_ (rS_o (k := 7) (by decide) rfl)⟩, fun c60 => ⟨fun y => absurd y l2, fun _ => e139 5 200005 ?_ (rS_o (k := 5) (by decide) rfl)⟩⟩, fun c61 => absurd c61 z.1⟩
        · unfold cmC; rw [cif_F c61, cif_F c60, cif_T z]
        · unfold cmC; rw [cif_F c61, cif_T c60, cif_T z]
      · have l2 := (hn z).1
        refine ⟨fun c61 => ⟨fun c60 => ⟨fun _ => e139 8 200008 ?_ (rS_o (k := 8) (by decide) rfl), fun y => absurd l2 y⟩, fun c60 => ⟨fun _ => e139 4 200004 ?_ (rS_o (k := 4) (by decide) rfl), fun y => absurd l2 y⟩⟩, fun c61 => e139 6 200006 ?_ (rS_o (k := 6) (by decide) rfl)⟩
        · unfold cmC; rw [cif_F c61, cif_F c60, cif_F z]
        · unfold cmC; rw [cif_F c61, cif_T c60, cif_F z]
        · unfold cmC; rw [cif_T c61]
    have no : ¬ isOr T.1 p1 → At G (d + 9) 185 74 [(0, .ref m), (1, .int (pk T.1 p1))] [] M6 (qV Q) := fun z => r_compared_74 h6.1.1 (r_compared_75 h6.1.1 ⟨fun _ => e90 0 0 (fun y => absurd y z) (fun _ => ⟨rfl, rfl⟩), fun y => absurd rfl y⟩)
    refine ⟨fun c => no (fun z => z.1 c), fun c => s_sign h6.1 h6.pp (by omega) ⟨h6.1.1, fun c2 => no (fun z => c2 z.2), fun c2 => r_compared_75 h6.1.1 ⟨fun y => absurd y (by decide), fun _ => e90 1 1 (fun _ => ⟨by decide, rfl⟩) (fun y => absurd ⟨c, c2⟩ y)⟩⟩⟩
  refine s_sign h1.1 h1.pp (by omega) ⟨h1.1.1, fun c => e37 (Or.inl c), fun c => ⟨fun c2 => e37 (Or.inr (Or.inl c2)), fun c2 => ⟨fun c3 => e37 (Or.inr (Or.inr c3)), fun c3 => ?_⟩⟩⟩
  rw [h1.pp]
  have ncm : ¬ isCm T.1 p1 := fun z => z.elim c (fun z => z.elim c2 c3)
  refine s_fails (c := 0) h1.1.1 h1.ff f14 (by omega) (by omega) (fun M3 g3 h3 => ⟨g3.ra h1.1.1, ?_⟩)
  refine hq2 M3 p1 cd1 n1 (if f1 = 0 then flt p1 0 else f1) (FrW.ofF g3 (by decide)) (h1.ft g3 h3 ?_ ?_) ⟨fun z => if_neg z, fun z => ?_⟩
  · by_cases z : f1 = 0
    · rw [if_pos z]; exact flt_ne _ _
    · rw [if_neg z]; exact z
  · by_cases z : f1 = 0
    · rw [if_pos z]; exact flt_lt (by omega) (by omega)
    · rw [if_neg z]; exact f14
  · unfold pCm2
    rw [cif_F ncm, if_pos z]
    exact ⟨rfl, fun u => absurd u (flt_ne _ _)⟩
end
