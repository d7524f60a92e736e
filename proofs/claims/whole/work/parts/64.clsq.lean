/-! THE CLASS'S READER OF MARKS: ins, close, the others -/
section
variable {G : GT} {d x p f : Nat} {M M' : Mem} {t : TpT} {S : ShT}
theorem flt_ne (p c : Nat) : ¬ flt p c = 0 := by unfold flt; omega
/-- a new MARK object -/
def nwM (N : Nat) (M : Mem) (o : Nat) (y : MkT) : Prop := mkAt M o y ∧ N ≤ o ∧ ∀ t, vr M o 5 = some t → N ≤ t
/-- what a reader of a MARK hands over -/
def rdQ (M : Mem) (x : Nat) (t : TpT) (S : ShT) (r : RdT) (Q : Option Nat → Mem → Prop) : Prop :=
  (r.1 = 0 → ∀ M' ob, Rm x 1 M M' → RDA M' x t S (skB t r.2.2) 0 → nwM (mN M) M' ob r.2.1 → Q (some ob) M') ∧ (¬ r.1 = 0 → ∀ M' q, Rm x 0 M M' → RDA M' x t S q r.1 → Q none M')
theorem rdQ.bad {r : RdT} {Q : Option Nat → Mem → Prop} {e q : Nat} (h : rdQ M x t S r Q) (he : r.1 = e) (e0 : ¬ e = 0) (g : Rm x 0 M M') (H : RDA M' x t S q e) : Q none M' := h.2 (by rw [he]; exact e0) M' q g (by rw [he]; exact H)
/-- a new MARK without a text -/
theorem k_newR {a b e g : Int32} {q : Nat} {r : RdT} {Q : Mem → Prop} {Q2 : Option Nat → Mem → Prop} {M1 : Mem} (h : rdQ M x t S r Q2) (g1 : Rm x 0 M M1) (h1 : RDA M1 x t S q 0) (hr : r.1 = 0) (hy : r.2.1 = (a, b, e, g, [])) (hp : skB t r.2.2 = q) (ne : a ≠ 0) (hq : ∀ M', RDA M' x t S q 0 → Q2 (some (mN M1)) M' → Q M') : CV G (d + 1) 47 [.ref (mN M1), .int a, .int b, .int e, .int g, .null] (mnew M1 6 8) Q := by
  refine k_newN h1.fr rfl ne (fun M' gr n1 s1 hm ht => ?_)
  have r1 : Rm x 1 M1 M' := Rm.gr gr h1.2.2.2.2.1 (by omega) (by omega)
  have H : RDA M' x t S q 0 := h1.keepT r1 ((gr.1 (x + 1) (by have := h1.2.2.2.2.1; omega)).2.2 id).1
  have le := g1.1.2.1
  refine hq M' H (h.1 hr M' (mN M1) (g1.tr0 r1) (by rw [hp]; exact H) ⟨by rw [hy]; exact hm, le, fun t et => Nat.le_trans le (ht t et)⟩)
theorem k_readIns {Q : Option Nat → Mem → Prop} (h : RDA M x t S p 0) (p4 : p ≤ t.1) (hq : rdQ M x t S (pIns t S p) Q) : CR G (d + 4) 63 [.ref (x + 15), .ref (x + 1), .int (nI (gN S))] M Q := by
  have t4 := h.1.2.2.1
  have g2 := h.2.2.2.2.2.2.2
  have sq := (skB_le (nX_le p4))
  have nx4 := nX_le p4
  unfold pIns at hq
  rw [nuE_F] at hq
  refine c_X6_readIns h.2.1 h.1.1 h.fr ?_
  refine k_readNumber (lo := 0) (hi := gN S + 1) h p4 rfl (by omega) (le_b g2) (fun z M1 r1 h1 e3 => ⟨⟨h1.2.1, h1.1.1, h1.fr⟩, ?_⟩) (fun z M1 r1 h1 => ⟨⟨h1.2.1, h1.1.1, h1.fr⟩, ?_⟩)
  · rw [cif_T z] at hq
    rw [h1.1.ff]
    refine ⟨fun _ => k_peek h1.1 (by omega) ⟨⟨h1.2.1, h1.1.1, h1.fr⟩, ?_⟩, fun c => absurd rfl c⟩
    by_cases c : skB t (nX t p) < t.1 ∧ t.2 (skB t (nX t p)) = 39
    · rw [cif_T c] at hq
      rw [show pk t (skB t (nX t p)) = 39 from by unfold pk; rw [cif_T c.1]; exact c.2]
      refine ⟨fun _ M5 e5 => ?_, fun y => absurd rfl y⟩
      rw [h1.1.pp, nI_1] at e5
      have g5 : Frl (x + 1) [2] [] M1 M5 := by rw [e5]; exact Frl.sf (by decide)
      have r5 := Rm.tp g5 h1.fr (by decide)
      have h5 := h1.step r5 (h1.1.pl g5 (by rw [e5, vi_seti, if_pos ⟨rfl, rfl⟩]))
      refine k_readText h5 (by omega) (fun z2 M6 r6 h6 ht => ⟨⟨h6.2.1, h6.1.1, h6.fr⟩, ?_⟩) (fun z2 M6 q r6 h6 => ⟨⟨h6.2.1, h6.1.1, h6.fr⟩, ?_⟩)
      · have tok := pTx_ok 21 (skB t (nX t p) + 1) [] (pTx t 21 (skB t (nX t p) + 1) []).2.1 (pTx t 21 (skB t (nX t p) + 1) []).2.2 (Prod.ext z2 rfl) (by decide) (fun c hc => by cases hc) (by omega)
        rw [cif_T z2] at hq
        generalize pTx t 21 (skB t (nX t p) + 1) [] = P at *
        rw [h6.1.ff]
        refine ⟨fun y => absurd rfl y, fun _ => ⟨fun _ M8 e8 => ?_, fun y => absurd (nI_le (a := 1) tok.1 (by omega)) y⟩⟩
        have gr8 : Grw (fun _ => False) M6 M8 := by rw [e8]; exact Grw.new h6.fr 6 8
        have F8 := gr8.2.2.2
        have O8 : ObAt 6 M8 (x + 15) := gr8.ob2 h6.fr h6.2.1 id (by decide)
        have n8 : mN M8 = mN M6 + 1 := by rw [e8]; rfl
        have s8 : mS M8 = mS M6 + 8 := by rw [e8]; rfl
        have lx := h6.2.2.2.2.1
        refine k_copyOf (ob6_k2 O8) (ob6_l2 O8) F8 tok.2.1 (fun M9 gr9 n9 s9 k9 l9 v9 => ?_)
        have gr89 := gr8.trans gr9
        have T9 : RDA M9 x t S (skB t P.2.2) 0 := h6.keepT (Rm.gr gr89 lx (by omega) (by omega)) ((gr89.1 (x + 1) (by omega)).2.2 id).1
        refine ⟨⟨T9.2.1, T9.1.1, T9.fr⟩, fun r10 er => ?_, fun er => (by cases er)⟩
        cases er
        have k6 : mK M9 (mN M6) = 6 := by rw [(gr9.1 (mN M6) (by omega)).1, e8, mK_mnew, if_pos rfl]
        refine k_markT k6 T9.fr k9 (fun M11 f11 h11 => ?_)
        have grA : Grw (fun _ => False) M6 M11 := ⟨fun b hb => by
          have z := gr89.1 b hb
          exact ⟨by rw [f11.2.2.1]; exact z.1, by rw [f11.2.2.2.1]; exact z.2.1, fun n => (z.2.2 n).trans (f11.2.2.2.2 b (by omega))⟩, by rw [f11.1]; exact gr89.2.1, by rw [f11.2.1]; exact gr89.2.2.1, f11.fr T9.fr⟩
        have rA : Rm x 1 M6 M11 := Rm.gr grA lx (by rw [f11.1]; omega) (by rw [f11.2.1]; omega)
        have HA : RDA M11 x t S (skB t P.2.2) 0 := h6.keepT rA ((grA.1 (x + 1) (by omega)).2.2 id).1
        have rall : Rm x 1 M M11 := r1.tr0 (r5.tr0 (r6.tr0 rA))
        have le : mN M ≤ mN M6 := (r1.tr0 (r5.tr0 r6)).1.2.1
        refine ⟨⟨HA.2.1, HA.1.1, HA.fr⟩, hq.1 rfl M11 (mN M6) rall HA ⟨⟨f11.k k6, h11.1, h11.2.1, h11.2.2.1, h11.2.2.2.1, ?_, h11.2.2.2.2.2.1, h11.2.2.2.2.2.2.1, Or.inr ⟨rfl, mN M8, h11.2.2.2.2.2.2.2, by rw [f11.2.2.1]; exact k9, by rw [f11.2.2.2.1]; exact l9, fun i hi => ?_⟩⟩, le, fun t et => ?_⟩⟩
        · rw [h11.2.2.2.2.1, l9]
          show nI P.2.1.length = if (0 : Int32) = 0 then nI P.2.1.length else _
          rw [if_pos rfl]
        · rw [(f11.2.2.2.2 (mN M8) (by omega)).1, v9 i hi, ((gr8.1 (x + 15 + 2) (by omega)).2.2 id).1]
          exact ht i hi
        · rw [h11.2.2.2.2.2.2.2] at et
          cases et
          omega
      · have lt2 := pTx_lt (t := t) 21 (skB t (nX t p) + 1) [] (by omega)
        rw [cif_F z2] at hq
        rw [h6.1.ff, il_0, eq_I (by omega) (by omega)]
        exact ⟨fun y => hq.bad rfl y (r1.tr0 (r5.tr0 r6)) h6, fun y => absurd y z2⟩
    · rw [cif_F c] at hq
      have ne : ¬ pk t (skB t (nX t p)) = 39 := fun y => c (by
        unfold pk at y
        by_cases z : skB t (nX t p) < t.1
        · rw [cif_T z] at y; exact ⟨z, y⟩
        · rw [cif_F z] at y; exact absurd y (by decide))
      refine ⟨fun y => absurd y ne, fun _ => ?_⟩
      rw [h1.1.pp]
      refine k_fail (c := 0) h1.1 (by omega) (fun M6 g6 h6 => ?_)
      have r6 := Rm.tp g6 h1.fr (by decide)
      rw [if_pos rfl] at h6
      have H := h1.step r6 h6
      exact ⟨⟨H.2.1, H.1.1, H.fr⟩, hq.bad rfl (flt_ne _ _) (r1.tr0 r6) H⟩
  · rw [cif_F z] at hq
    have lt2 : nuE t p 0 (gN S + 1) < 100000 := nuF_lt (t := t) (p := p) (lo := 0) (hi := gN S) (by omega)
    rw [h1.1.ff, il_0, eq_I (by omega) (by omega)]
    exact ⟨fun y => absurd y z, fun y => hq.bad rfl y r1 h1⟩
theorem k_readClose {Q : Option Nat → Mem → Prop} (h : RDA M x t S p 0) (p4 : p ≤ t.1) (hq : rdQ M x t S (pClo t S p) Q) : CR G (d + 4) 62 [.ref (x + 15), .ref (x + 1), .ref (x + 3)] M Q := by
  have t4 := h.1.2.2.1
  have g2 := h.2.2.2.2.2.2.2
  unfold pClo at hq
  rw [nuE_F] at hq
  refine c_X6_readClose h.2.1 h.1.1 h.2.2.1 h.fr ?_
  rw [h.2.2.2.2.2.1]
  have hb : ∀ v, v < 1000 → (nI v ≤ nI (gN S) - 1 ↔ v < gN S) := fun v hv => by
    rcases Nat.eq_zero_or_pos (gN S) with z | z
    · rw [z, show nI 0 - 1 = mI 1 from rfl, nm_le (by decide) (by decide) (by omega)]
      exact ⟨fun y => y.elim, fun y => absurd y (Nat.not_lt_zero v)⟩
    · rw [show (1 : Int32) = nI 1 from rfl, pk_sub z, le_I (by omega) (by omega)]; omega
  have eF : nuE t p 0 (gN S) = 0 → nuE t p 0 (gN S + 1) = 0 ∧ nV t p < gN S := fun y => by
    unfold nuE at y ⊢
    by_cases c : dl t p = 0
    · rw [cif_T c] at y; unfold flt at y; omega
    · rw [cif_F c] at y ⊢
      by_cases c2 : 3 < dl t p ∨ nV t p < 0 ∨ gN S ≤ nV t p
      · rw [cif_T c2] at y; unfold flt at y; omega
      · rw [cif_F (by omega)]; omega
  refine k_readNumber (lo := 0) (hi := gN S) h p4 rfl (by omega) hb (fun z M1 r1 h1 e3 => ⟨⟨h1.2.1, h1.1.1, h1.2.2.1, h1.fr⟩, ?_⟩) (fun z M1 r1 h1 => ⟨⟨h1.2.1, h1.1.1, h1.2.2.1, h1.fr⟩, ?_⟩)
  · have ef := eF z
    rw [cif_T ef.1] at hq
    rw [h1.1.ff, h1.2.2.2.2.2.1]
    refine ⟨fun c => absurd rfl c, fun _ => ⟨fun c => absurd c (nlt0 _ (by omega)), fun _ => ⟨fun _ => ⟨vp_in_nI (by omega) (by omega), ?_⟩, fun c => absurd (nI_lt ef.2 (by omega)) c⟩⟩⟩
    rw [nI_clamp (by omega), show x + 3 + 1 = x + 4 from rfl, h1.2.2.2.2.2.2.1 _ ef.2]
    refine ⟨fun c M3 e3' => ?_, fun c => ?_⟩
    · rw [cif_F (fun y => y.elim (fun y => by omega) (fun y => y c))] at hq
      subst e3'
      rw [nI_1]
      exact k_newR hq r1 h1 rfl rfl rfl (by decide) (fun M' H hQ => ⟨⟨H.2.1, H.1.1, H.2.2.1, H.fr⟩, hQ⟩)
    · rw [cif_T (Or.inr c)] at hq
      rw [e3]
      refine k_fail (c := 1) h1.1 (by omega) (fun M6 g6 h6 => ?_)
      have r6 := Rm.tp g6 h1.fr (by decide)
      rw [if_pos rfl] at h6
      have H := h1.step r6 h6
      exact ⟨⟨H.2.1, H.1.1, H.2.2.1, H.fr⟩, hq.bad rfl (flt_ne _ _) (r1.tr0 r6) H⟩
  · have lt2 : nuE t p 0 (gN S) < 100000 := cif_el (φ := fun r => r < 100000) (fun _ => flt_lt (by omega) (by omega)) (fun _ => cif_el (φ := fun r => r < 100000) (fun _ => flt_lt (by omega) (by omega)) (fun _ => by omega))
    rw [h1.1.ff, il_0, eq_I (by omega) (by omega)]
    refine ⟨fun y => hq.bad ?_ y r1 h1, fun y => absurd y z⟩
    by_cases c : nuE t p 0 (gN S + 1) = 0
    · rw [cif_T c]
      have e : nV t p = gN S ∧ nuE t p 0 (gN S) = flt p 1 := by
        unfold nuE at c z ⊢
        by_cases c1 : dl t p = 0
        · rw [cif_T c1] at c; unfold flt at c; omega
        · rw [cif_F c1] at c z ⊢
          by_cases c2 : 3 < dl t p ∨ nV t p < 0 ∨ gN S + 1 ≤ nV t p
          · rw [cif_T c2] at c; unfold flt at c; omega
          · by_cases c3 : 3 < dl t p ∨ nV t p < 0 ∨ gN S ≤ nV t p
            · rw [cif_T c3]; exact ⟨by omega, rfl⟩
            · rw [cif_F c3] at z; exact absurd rfl z
      rw [cif_T (Or.inl e.1), e.2]; rfl
    · rw [cif_F c]
      show nuE t p 0 (gN S + 1) = nuE t p 0 (gN S)
      unfold nuE at c ⊢
      by_cases c1 : dl t p = 0
      · rw [cif_T c1, cif_T c1]
      · rw [cif_F c1] at c
        rw [cif_F c1, cif_F c1]
        by_cases c2 : 3 < dl t p ∨ nV t p < 0 ∨ gN S + 1 ≤ nV t p
        · rw [cif_T c2, cif_T (by omega)]
        · rw [cif_F c2] at c; exact absurd rfl c
end
