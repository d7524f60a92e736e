/-! LAW: the class's call -/
theorem pCl_12 {t : TpT} {i q n : Nat} {cd : List Nat} (h : (pCl t i q cd n).1 = 0) (hi : i ≤ 12) : i < 12 := by
  rcases Nat.lt_or_ge i 12 with u | u
  · exact u
  · exfalso
    have e12 : i = 12 := by omega
    unfold pCl at h
    rw [e12] at h
    revert h
    exact cif_el (φ := fun r : Nat × LxT => r.1 = 0 → False) (fun _ => by rw [cif_T rfl]; exact fun z => flt_ne _ _ z) (fun _ z => flt_ne _ _ z)
theorem pLw_ok {t : TpT} (t4 : t.1 ≤ 400) : ∀ (k p : Nat) (cd : List Nat) (n : Nat) (acc : List (Nat × Nat)), p ≤ t.1 → n ≤ 60 → 3 * cd.length ≤ 6 * n + p → okA cd acc → cnV cd ≤ n → (pLw t k p cd n acc).1 = 0 → okL (pLw t k p cd n acc).2
  | 0, p, cd, n, acc, _, _, _, _, _ => fun z => absurd z (by show ¬ 99999 = 0; omega)
  | k + 1, p, cd, n, acc, p4, n6, b, oa, hc => by
    have sk := skB_le p4
    have ro := pCl_rom (i := acc.length) (cd := cd) t4 sk.2 n6
    have ko := pCl_ok (t := t) (i := acc.length) (q := skB t p) (n := n) (cd := cd)
    have h12 := pCl_12 (t := t) (i := acc.length) (q := skB t p) (n := n) (cd := cd)
    rw [pLw]
    generalize hR : pCl t acc.length (skB t p) cd n = R at *
    refine cif_el (φ := fun r : Nat × LawT => r.1 = 0 → okL r.2) (fun z => ?_) (fun z y => absurd y z)
    obtain ⟨x1, x2, k1, k2, k3, k4, k5⟩ := ko z
    have ro2 := ro.2 z
    have oa' := oa.add (h12 z oa.1) k3 k4
    rw [← k2, ← k1] at oa'
    have hc' : cnV R.2.2.1 ≤ R.2.2.2 := by rw [k2, cnV_app, cnV_app]; omega
    have skq := skB_le ro2.2.1
    refine cif_el (φ := fun r : Nat × LawT => r.1 = 0 → okL r.2) (fun c => ?_) (fun _ _ => oa'.ok (by omega) (by omega))
    exact cif_el (φ := fun r : Nat × LawT => r.1 = 0 → okL r.2) (fun c2 => pLw_ok t4 k _ _ _ _ (by omega) (by omega) (by omega) oa' hc') (fun _ z => absurd z (flt_ne _ _))
section
variable {G : GT} {d : Nat} {w w' : Nat → Nat} {M M' : Mem} {x a c : Nat} {T : StT}
theorem ObAt.lts {q n b : Nat} (h : ObAt q M b) (F : frM M) (hq : q < 13) (key : ∀ i, i < n → i = 0 ∨ ∃ z ∈ obTab q, z.2.1 = i) : ∀ i, i < n → b + i < mN M := fun i hi => by
  rcases key i hi with z | ⟨z, h1, h2⟩
  · rw [z, Nat.add_zero]; exact F.lt (by rw [h.1]; omega)
  · rw [← h2]; exact F.lt (by rw [(h.2 z h1).2.1]; exact (obTab_ok q hq z h1).1)
theorem ob2_lt {b : Nat} (h : ObAt 2 M b) (F : frM M) : ∀ i, i < 6 → b + i < mN M := h.lts F (by decide) (by decide +kernel)
theorem ob8_lt {b : Nat} (h : ObAt 8 M b) (F : frM M) : ∀ i, i < 9 → b + i < mN M := h.lts F (by decide) (by decide +kernel)
theorem ob10_lt {b : Nat} (h : ObAt 10 M b) (F : frM M) : ∀ i, i < 5 → b + i < mN M := h.lts F (by decide) (by decide +kernel)
theorem cSh.w2 {b : Nat} {S : ShT} (h : cSh w M b S) (F : frM M) (ww : ∀ i, i < mN M → w i = 2 → w' i = 2) : cSh w' M b S := by
  refine ⟨h.1, h.2.1, h.2.2.1, h.2.2.2.1, h.2.2.2.2.1, fun s hs => ⟨fun im => ?_, (h.2.2.2.2.2.1 s hs).2⟩, h.2.2.2.2.2.2⟩
  obtain ⟨o, e1, e2, e3, e4⟩ := (h.2.2.2.2.2.1 s hs).1 im
  refine ⟨o, e1, e2, ww o (F.lt (by rw [e2.k]; decide)) e3, fun t et => ww t (F.lt ?_) (e4 t et)⟩
  rcases e2.f5 with ⟨_, z⟩ | ⟨_, t', e5, e6, _⟩
  · rw [et] at z; cases z
  · have : t = t' := some_inj e5 et
    subst this
    rw [e6]; decide
/-- the draft and the place of reading are others -/
theorem XC.draft (h : XC w M x T c) (hw : ∀ i, i < 6 → w (a + i) = 40) (hd : LrAt M (x + 18) (x + 1) a) (u : FrU x a M M') : XC w M' x T c := by
  have F := h.2.1
  have X := h.1
  have lx := h.2.2.2.2.1
  have sm : ∀ b, w b ≠ 40 → b ≠ x + 1 → b ≠ x + 18 → same M M' b := fun b h1 h2 h3 => by
    have nb : b < a ∨ a + 4 ≤ b := by
      rcases Nat.lt_or_ge b a with z | z
      · exact Or.inl z
      · rcases Nat.lt_or_ge b (a + 4) with y | y
        · exact absurd (by have := hw (b - a) (by omega); rw [show a + (b - a) = b by omega] at this; exact this) h1
        · exact Or.inr y
    exact ⟨by funext k; exact (u.2.2.2.2.2.1 b k h2 h3 nb).1, by funext k; exact (u.2.2.2.2.2.1 b k h2 h3 nb).2, by rw [u.2.2.2.2.1]⟩
  have ow := h.ow.1
  have sx : ∀ i, i < 55 → (i < 19 ∨ 25 ≤ i) → i ≠ 1 → i ≠ 18 → same M M' (x + i) := fun i h1 h2 h3 h4 => sm _ (by rw [ow i h1 h2]; omega) (by omega) (by omega)
  have s0 : same M M' x := sx 0 (by decide) (by decide) (by decide) (by decide)
  have sw : ∀ b, w b ≠ 0 → w b ≠ 40 → same M M' b := fun b h1 h2 => sm b h2 (fun e => h1 (by rw [e]; exact ow 1 (by decide) (by decide))) (fun e => h1 (by rw [e]; exact ow 18 (by decide) (by decide)))
  have km : keepM w M M' := fun b hb _ => ⟨sw b (by omega) (by omega), by rw [u.2.2.1], by rw [u.2.2.2.1]⟩
  have cg : ∀ {q b : Nat}, ObAt q M b → ObAt q M' b := fun o => o.cg u.2.2.1 u.2.2.2.1 u.2.2.2.2.1
  obtain ⟨_, hl, hv, hi⟩ := h.dy
  refine ⟨⟨cg X.1, cg X.2.1, cg X.2.2.1, cg X.2.2.2.1, by rw [u.2.2.1]; exact X.2.2.2.2.1, cg X.2.2.2.2.2.1, cg X.2.2.2.2.2.2.1, cg X.2.2.2.2.2.2.2.1, cg X.2.2.2.2.2.2.2.2.1, cg X.2.2.2.2.2.2.2.2.2⟩, fun b hb => by rw [u.2.2.1]; exact F b (by rw [← u.1]; exact hb), h.2.2.1, h.ow, by rw [u.1]; exact lx, ⟨by rw [u.2.2.2.2.2.2]; exact h.t, fun k hk => by rw [(sx 2 (by decide) (by decide) (by decide) (by decide)).1]; exact h.tb hk⟩, ?_, by rw [s0.1]; exact h.q, ⟨h.cl, by rw [s0.1]; exact h.ch⟩, ⟨⟨a, ⟨by rw [u.2.2.1]; exact hd.1, by rw [u.2.2.2.2.1]; exact hd.2.1, cg hd.2.2.1, by rw [u.2.2.2.2.1]; exact hd.2.2.2.1, cg hd.2.2.2.2⟩, hw⟩, fun l hl2 => ?_, fun l hl2 => ?_, fun i hi2 => ⟨fun z => by rw [u.2.2.2.2.1]; exact (hi i hi2).1 z, fun S hS => ?_⟩⟩, ?_, ?_, ?_⟩
  · exact h.cs.2.2.keep F km (fun i hi => by rw [Nat.add_assoc]; exact sx _ (by omega) (by omega) (by omega) (by omega))
  · obtain ⟨b, h1, h2, h3, h4⟩ := hl l hl2
    have q4 := h.2.2.1.2.2.2.1
    have sb : ∀ i, i < 6 → same M M' (b + i) := fun i hi => sw _ (by rw [h4 i hi]; omega) (by rw [h4 i hi]; omega)
    refine ⟨b, by rw [u.2.2.2.2.1]; exact h1, cg h2, ?_, h4⟩
    unfold cLaw at h3 ⊢
    rw [(show same M M' b from sb 0 (by decide)).1, (sb 1 (by decide)).1, (sb 2 (by decide)).1, (sb 3 (by decide)).1]
    exact h3
  · obtain ⟨v, h1, h2, h3, h4⟩ := hv l hl2
    have q4 := h.2.2.1.2.2.2.1
    have sb : ∀ i, i < 5 → same M M' (v + i) := fun i hi => sw _ (by rw [h3 i hi]; omega) (by rw [h3 i hi]; omega)
    refine ⟨v, by rw [u.2.2.2.2.1]; exact h1, cg h2, h3, ?_⟩
    unfold cVd vSet vCom at h4 ⊢
    rw [(show same M M' v from sb 0 (by decide)).1, (show same M M' v from sb 0 (by decide)).2.1, (sb 1 (by decide)).2.1, (sb 2 (by decide)).1, (sb 3 (by decide)).1]
    exact h4
  · obtain ⟨b, h1, h2, h3, h4⟩ := (hi i hi2).2 S hS
    exact ⟨b, by rw [u.2.2.2.2.1]; exact h1, cg h2, h3.keep F km (fun j hj => sw _ (by rw [h4 j hj]; omega) (by rw [h4 j hj]; omega)), h4⟩
  · have z := h.2.2.2.2.2.2.2.2.2.2.1
    unfold cEd at z ⊢
    rw [(sx 46 (by decide) (by decide) (by decide) (by decide)).1, show x + 46 + 1 = x + 47 from rfl, (sx 47 (by decide) (by decide) (by decide) (by decide)).1]
    exact z
  · have z := h.2.2.2.2.2.2.2.2.2.2.2.1
    unfold cMv at z ⊢
    rw [(sx 50 (by decide) (by decide) (by decide) (by decide)).1]
    exact z
  · have z := h.2.2.2.2.2.2.2.2.2.2.2.2
    unfold cFw at z ⊢
    rw [s0.1]
    exact z
/-- a LAW more -/
theorem XC.lawN {N V : Nat} {L : LawT} (h : XC w M x T c) (q4 : qN T < 4) (okl : okL L) (t0 : tN T = 0) (hd : ObAt 2 M a) (hw : ∀ i, i < 6 → w (a + i) = 40) (hL : cLaw M a L)
    (hK : ∀ b, b < mN M → mK M' b = mK M b ∧ mA M' b = mA M b) (hs : ∀ b, b < mN M → b ≠ x → b ≠ x + 13 → b ≠ x + 14 → b ≠ x + 18 → same M M' b) (hx : vr M' x = vr M x ∧ vl M' x = vl M x ∧ ∀ k, k ≠ 12 → vi M' x k = vi M x k) (h12 : vi M' x 12 = nI (qN T + 1))
    (h13 : ∀ j, vr M' (x + 13) j = if j = qN T then some a else vr M (x + 13) j) (h14 : ∀ j, vr M' (x + 14) j = if j = qN T then some V else vr M (x + 14) j) (h18 : LrAt M' (x + 18) (x + 1) N) (hN : mN M ≤ N) (eV : N + 6 ≤ V) (oV : ObAt 10 M' V) (v4 : vi M' V 4 = -1 ∧ vi M' V 5 = -1) (F' : frM M') (nn : mN M ≤ mN M') :
    XC (fun b => if a ≤ b ∧ b < a + 6 then 20 + qN T else if b < mN M then w b else if b < V then 40 else 30 + qN T) M' x (v_law T L) c := by
  have F := h.2.1
  have X := h.1
  have lx := h.2.2.2.2.1
  have ow := h.ow.1
  have al := ob2_lt hd F
  have wo : ∀ b, b < mN M → w b ≠ 40 → (fun b => if a ≤ b ∧ b < a + 6 then 20 + qN T else if b < mN M then w b else if b < V then 40 else 30 + qN T) b = w b := fun b hb hn => by
    show (if a ≤ b ∧ b < a + 6 then 20 + qN T else if b < mN M then w b else if b < V then 40 else 30 + qN T) = w b
    rw [if_neg (fun z => hn (by have := hw (b - a) (by omega); rw [show a + (b - a) = b by omega] at this; exact this)), if_pos hb]
  have w20 : ∀ i, i < 6 → (fun b => if a ≤ b ∧ b < a + 6 then 20 + qN T else if b < mN M then w b else if b < V then 40 else 30 + qN T) (a + i) = 20 + qN T := fun i hi => if_pos ⟨by omega, by omega⟩
  have a5 := al 5 (by decide)
  have w40 : ∀ i, i < 6 → (fun b => if a ≤ b ∧ b < a + 6 then 20 + qN T else if b < mN M then w b else if b < V then 40 else 30 + qN T) (N + i) = 40 := fun i hi => by
    show (if a ≤ N + i ∧ N + i < a + 6 then 20 + qN T else if N + i < mN M then w (N + i) else if N + i < V then 40 else 30 + qN T) = 40
    rw [if_neg (by omega), if_neg (by omega), if_pos (by omega)]
  have w30 : ∀ i, i < 5 → (fun b => if a ≤ b ∧ b < a + 6 then 20 + qN T else if b < mN M then w b else if b < V then 40 else 30 + qN T) (V + i) = 30 + qN T := fun i hi => by
    show (if a ≤ V + i ∧ V + i < a + 6 then 20 + qN T else if V + i < mN M then w (V + i) else if V + i < V then 40 else 30 + qN T) = 30 + qN T
    rw [if_neg (by omega), if_neg (by omega), if_neg (by omega)]
  have w2 : ∀ i, i < mN M → (fun b => if a ≤ b ∧ b < a + 6 then 20 + qN T else if b < mN M then w b else if b < V then 40 else 30 + qN T) i = 2 → w i = 2 := fun i hi e => by
    have e : (if a ≤ i ∧ i < a + 6 then 20 + qN T else if i < mN M then w i else if i < V then 40 else 30 + qN T) = 2 := e
    by_cases z : a ≤ i ∧ i < a + 6
    · rw [if_pos z] at e; omega
    · rw [if_neg z, if_pos hi] at e; exact e
  generalize (fun b => if a ≤ b ∧ b < a + 6 then 20 + qN T else if b < mN M then w b else if b < V then 40 else 30 + qN T) = ww at *
  have sw : ∀ b, b < mN M → w b ≠ 0 → same M M' b := fun b hb hn => by
    have n0 : ∀ i, i < 19 → b ≠ x + i := fun i hi e => hn (by rw [e]; exact ow i (by omega) (by omega))
    exact hs b hb (n0 0 (by decide)) (n0 13 (by decide)) (n0 14 (by decide)) (n0 18 (by decide))
  have sx : ∀ i, i < 55 → i ≠ 0 → i ≠ 13 → i ≠ 14 → i ≠ 18 → same M M' (x + i) := fun i h1 h2 h3 h4 h5 => hs _ (by omega) (by omega) (by omega) (by omega) (by omega)
  have km : keepM ww M M' := fun b hb hl => ⟨sw b hl (by have := w2 b hl hb; omega), (hK b hl).1, (hK b hl).2⟩
  have hKA : ∀ b, mK M b ≠ 0 → mK M' b = mK M b ∧ mA M' b = mA M b := fun b hb => hK b (F.lt hb)
  have V2 := h.2.2.1
  obtain ⟨_, hl, hv, hi⟩ := h.dy
  have okt : okT (v_law T L) := by
    refine ⟨Nat.zero_le _, fun k hk => absurd hk (Nat.not_lt_zero k), V2.2.2.1, ?_, fun l hl => ?_, V2.2.2.2.2.2⟩
    · show qN T + 1 ≤ 4; omega
    · show okL (if l = qN T then L else qL T l)
      have hl : l < qN T + 1 := hl
      by_cases y : l = qN T
      · rw [if_pos y]; exact okl
      · rw [if_neg y]; exact V2.2.2.2.2.1 l (by omega)
  refine ⟨X.keep hKA (fun i hi => ?_), F', okt, ⟨fun i h1 h2 => ?_, fun i h1 => ?_⟩, by omega, ⟨?_, fun k hk => absurd hk (Nat.not_lt_zero k)⟩, ?_, h12, ⟨h.cl, by rw [hx.2.2 13 (by decide)]; exact h.ch⟩, ⟨⟨N, h18, w40⟩, fun l hl2 => ?_, fun l hl2 => ?_, fun i hi2 => ?_⟩, ?_, ?_, ?_⟩
  · by_cases z : i = 0
    · rw [z]; exact hx.1
    · exact (sx i (by simp at hi; omega) z (by simp at hi; omega) (by simp at hi; omega) (by simp at hi; omega)).2.2
  · rw [wo _ (by omega) (by rw [ow i h1 h2]; omega)]; exact ow i h1 h2
  · rw [wo _ (by omega) (by rw [h.ow.2 i h1]; omega)]; exact h.ow.2 i h1
  · rw [(sx 1 (by decide) (by decide) (by decide) (by decide) (by decide)).1, h.t, t0]; rfl
  · exact (h.cs.2.2.w2 F (fun i hi e => by rw [wo i hi (by omega)]; exact e)).keep F km (fun i hi => by rw [Nat.add_assoc]; exact sx _ (by omega) (by omega) (by omega) (by omega) (by omega))
  · have hl2 : l < qN T + 1 := hl2
    show ∃ b, vr M' (x + 13) l = some b ∧ ObAt 2 M' b ∧ cLaw M' b (if l = qN T then L else qL T l) ∧ _
    by_cases y : l = qN T
    · have sb : ∀ i, i < 6 → same M M' (a + i) := fun i hi => sw _ (al i hi) (by rw [hw i hi]; omega)
      rw [if_pos y]
      refine ⟨a, by rw [h13, if_pos y], hd.keep hKA (show same M M' a from sb 0 (by decide)).2.2 (by decide), ?_, fun i hi => by rw [y]; exact w20 i hi⟩
      unfold cLaw at hL ⊢
      rw [(show same M M' a from sb 0 (by decide)).1, (sb 1 (by decide)).1, (sb 2 (by decide)).1, (sb 3 (by decide)).1]
      exact hL
    · obtain ⟨b, h1, h2, h3, h4⟩ := hl l (by omega)
      have bl := ob2_lt h2 F
      have sb : ∀ i, i < 6 → same M M' (b + i) := fun i hi => sw _ (bl i hi) (by rw [h4 i hi]; omega)
      rw [if_neg y]
      refine ⟨b, by rw [h13, if_neg y]; exact h1, h2.keep hKA (show same M M' b from sb 0 (by decide)).2.2 (by decide), ?_, fun i hi => by rw [wo _ (bl i hi) (by rw [h4 i hi]; omega)]; exact h4 i hi⟩
      unfold cLaw at h3 ⊢
      rw [(show same M M' b from sb 0 (by decide)).1, (sb 1 (by decide)).1, (sb 2 (by decide)).1, (sb 3 (by decide)).1]
      exact h3
  · have hl2 : l < qN T + 1 := hl2
    show ∃ v, vr M' (x + 14) l = some v ∧ ObAt 10 M' v ∧ _ ∧ cVd M' v (sh T) (if l = qN T then L else qL T l) c
    by_cases y : l = qN T
    · rw [if_pos y]
      have m1 : (-1 : Int32).toInt = -1 := by decide
      refine ⟨V, by rw [h14, if_pos y], oV, fun i hi => by rw [y]; exact w30 i hi, ?_, ?_, fun z => ?_, fun z => ?_⟩
      · rw [v4.1, m1]; omega
      · rw [v4.2, m1]; omega
      · rw [v4.1] at z; exact absurd z.symm (nI_neN1 (by have := h.cl; omega))
      · rw [v4.2] at z; exact absurd z.symm (nI_neN1 (by have := h.cl; omega))
    · obtain ⟨v, h1, h2, h3, h4⟩ := hv l (by omega)
      have bl := ob10_lt h2 F
      have sb : ∀ i, i < 5 → same M M' (v + i) := fun i hi => sw _ (bl i hi) (by rw [h3 i hi]; omega)
      rw [if_neg y]
      refine ⟨v, by rw [h14, if_neg y]; exact h1, h2.keep hKA (show same M M' v from sb 0 (by decide)).2.2 (by decide), fun i hi => by rw [wo _ (bl i hi) (by rw [h3 i hi]; omega)]; exact h3 i hi, ?_⟩
      unfold cVd vSet vCom at h4 ⊢
      rw [(show same M M' v from sb 0 (by decide)).1, (show same M M' v from sb 0 (by decide)).2.1, (sb 1 (by decide)).2.1, (sb 2 (by decide)).1, (sb 3 (by decide)).1]
      exact h4
  · refine ⟨fun z => ?_, fun S hS => ?_⟩
    · rw [(sx 12 (by decide) (by decide) (by decide) (by decide) (by decide)).2.2]; exact (hi i hi2).1 z
    · obtain ⟨b, h1, h2, h3, h4⟩ := (hi i hi2).2 S hS
      have bl := ob8_lt h2 F
      have sb : ∀ j, j < 9 → same M M' (b + j) := fun j hj => sw _ (bl j hj) (by rw [h4 j hj]; omega)
      refine ⟨b, by rw [(sx 12 (by decide) (by decide) (by decide) (by decide) (by decide)).2.2]; exact h1, h2.keep hKA (show same M M' b from sb 0 (by decide)).2.2 (by decide), ?_, fun j hj => by rw [wo _ (bl j hj) (by rw [h4 j hj]; omega)]; exact h4 j hj⟩
      exact (h3.w2 F (fun i hi e => by rw [wo i hi (by omega)]; exact e)).keep F km sb
  · have z := h.2.2.2.2.2.2.2.2.2.2.1
    unfold cEd at z ⊢
    rw [(sx 46 (by decide) (by decide) (by decide) (by decide) (by decide)).1, show x + 46 + 1 = x + 47 from rfl, (sx 47 (by decide) (by decide) (by decide) (by decide) (by decide)).1]
    exact z
  · have z := h.2.2.2.2.2.2.2.2.2.2.2.1
    unfold cMv at z ⊢
    rw [(sx 50 (by decide) (by decide) (by decide) (by decide) (by decide)).1]
    exact z
  · have z := h.2.2.2.2.2.2.2.2.2.2.2.2
    unfold cFw at z ⊢
    rw [hx.2.2 14 (by decide), hx.2.2 15 (by decide)]
    exact z
theorem arr2 : (arrs l_X2).length = 5 := by decide
theorem sum2 : sumN l_X2 = 495 := by decide
theorem arr10 : (arrs l_X10).length = 4 := by decide
theorem sum10 : sumN l_X10 = 592 := by decide
theorem k_new2 {M3 : Mem} {Q : Mem → Prop} (F : frM M) (hM : M3 = mnew M 3 7) (hq : ∀ M4, ObAt 2 M4 (mN M) → mN M4 = mN M + 6 → mS M4 = mS M + 502 → (∀ a, a < mN M → same M M4 a ∧ mK M4 a = mK M a ∧ mA M4 a = mA M a) → frM M4 → Q M4) : CV G (d + 1) 20 [.ref (mN M)] M3 Q := by
  have O3 : mK M3 (mN M) = 3 := by rw [hM, mK_mnew, if_pos rfl]
  have F3 : frM M3 := by rw [hM]; exact fr_mnew F
  have N3 : mN M3 = mN M + 1 := by rw [hM]; rfl
  have B := bld_spec (o := mN M) l_X2 M3 (by omega) F3 nd_X2
  have z := B.new hM
  exact ki_X2 O3 F3 (by omega) (hq _ (B.ob O3 N3 tb_X2) (by rw [z.2.1, arr2]) (by rw [z.2.2, sum2]) z.1 B.2.2.2.2.2.2.2.2)
theorem k_new10 {M3 : Mem} {Q : Mem → Prop} (F : frM M) (hM : M3 = mnew M 11 8) (hq : ∀ M4, ObAt 10 M4 (mN M) → (vi M4 (mN M) 4 = -1 ∧ vi M4 (mN M) 5 = -1) → mN M4 = mN M + 5 → mS M4 = mS M + 600 → (∀ a, a < mN M → same M M4 a ∧ mK M4 a = mK M a ∧ mA M4 a = mA M a) → frM M4 → Q M4) : CV G (d + 1) 98 [.ref (mN M)] M3 Q := by
  have O3 : mK M3 (mN M) = 11 := by rw [hM, mK_mnew, if_pos rfl]
  have F3 : frM M3 := by rw [hM]; exact fr_mnew F
  have N3 : mN M3 = mN M + 1 := by rw [hM]; rfl
  have B := bld_spec (o := mN M) l_X10 M3 (by omega) F3 nd_X10
  have z := B.new hM
  exact ki_X10 O3 F3 (by omega) (hq _ (B.ob O3 N3 tb_X10) ⟨(B.2.2.2.2.2.2.2.1 (4, 0, 0) (List.mem_of_getElem? (i := 3) rfl)).1 rfl, (B.2.2.2.2.2.2.2.1 (5, 0, 0) (List.mem_of_getElem? (i := 4) rfl)).1 rfl⟩ (by rw [z.2.1, arr10]) (by rw [z.2.2, sum10]) z.1 B.2.2.2.2.2.2.2.2)
theorem k_law {Q : Int32 → Mem → Prop} (h : XC w M x T c) (hq : ∀ w' M', XC w' M' x (u_law T) c → Cu x M M' → Q (f_law T) M') : CI G (d + 31) 115 [.ref x] M Q := by
  have X := h.1
  have F := h.2.1
  have lx := h.2.2.2.2.1
  have q4 := h.2.2.1.2.2.2.1
  have t4 : T.1.1 ≤ 400 := h.t4
  unfold u_law f_law at hq
  refine c_X11_law X F ?_
  rw [h.q, show (4 : Int32) = nI 4 from rfl, lt_I (by omega) (by omega)]
  refine ⟨fun c4 => ?_, fun c4 => by
    have y4 : qN T = 4 := by omega
    rw [cif_T y4, cif_T y4] at hq; exact hq w M h Cu.refl⟩
  have n4 : ¬ qN T = 4 := by omega
  rw [cif_F n4, cif_F n4] at hq
  obtain ⟨⟨a, hd, hw⟩, _⟩ := h.dy
  obtain ⟨q0, eq0⟩ := nI_any (vi M (x + 1) 2)
  obtain ⟨e0, ee0⟩ := nI_any (vi M (x + 1) 3)
  have ht : tpA M (x + 1) T.1 q0 e0 := ⟨X.2.1, ⟨h.t, fun k hk => h.tb hk⟩, h.t4, fun k hk => h.tk hk, eq0, ee0⟩
  have ow := h.ow.1
  have dj : ((x + 1 < a ∨ a + 5 < x + 1) ∧ (x + 2 < a ∨ a + 5 < x + 2) ∧ (x + 18 < a ∨ a + 5 < x + 18)) := by
    have n : ∀ j, (j = 1 ∨ j = 2 ∨ j = 18) → ∀ i, i < 6 → a + i ≠ x + j := fun j hj i hi e => by
      have h1 := hw i hi
      rw [e, ow j (by omega) (by omega)] at h1
      omega
    have f : ∀ j, (j = 1 ∨ j = 2 ∨ j = 18) → x + j < a ∨ a + 5 < x + j := fun j hj => by
      rcases Nat.lt_or_ge (x + j) a with z | z
      · exact Or.inl z
      · rcases Nat.lt_or_ge (a + 5) (x + j) with y | y
        · exact Or.inr y
        · exact absurd (show a + (x + j - a) = x + j by omega) (n j hj (x + j - a) (by omega))
    exact ⟨f 1 (by omega), f 2 (by omega), f 18 (by omega)⟩
  have cu : ∀ {M1 : Mem}, FrU x a M M1 → Cu x M (seti M1 (x + 1) 1 (nI 0)) := fun u => by
    have al := ob2_lt hd.2.2.2.2 F
    have nb : ∀ b, x + 55 ≤ b → b < x + 101 → b < a ∨ a + 4 ≤ b := fun b h1 h2 => by
      rcases Nat.lt_or_ge b a with z | z
      · exact Or.inl z
      · rcases Nat.lt_or_ge b (a + 4) with y | y
        · have e1 := hw (b - a) (by omega)
          have e2 := h.ow.2 (b - (x + 55)) (by omega)
          rw [show a + (b - a) = b by omega] at e1
          rw [show x + 55 + (b - (x + 55)) = b by omega] at e2
          omega
        · exact Or.inr y
    refine ⟨fun b h1 h2 => ⟨⟨?_, ?_, ?_⟩, ?_, ?_⟩, ?_, ?_⟩
    · funext k; rw [vi_seti, if_neg (by omega)]; exact (u.2.2.2.2.2.1 b k (by omega) (by omega) (nb b h1 h2)).1
    · funext k; exact (u.2.2.2.2.2.1 b k (by omega) (by omega) (nb b h1 h2)).2
    · rw [vr_seti, u.2.2.2.2.1]
    · rw [mK_seti, u.2.2.1]
    · rw [mA_seti, u.2.2.2.1]
    · rw [mN_seti, u.1]; omega
    · rw [mS_seti, u.2.1]; omega
  refine k_readLaw hd dj ht (fun z M1 p1 n1 u1 h1 k1 l1 l12 => ?_) (fun z M1 p1 cd1 n1 u1 h1 => ?_)
  · have z0 : (pAllL T).1 = 0 := z
    have okl : okL (pAllL T).2 := pLw_ok t4 13 0 [] 0 [] (Nat.zero_le _) (by decide) (by decide) okA.nil (by decide) z0
    have h1 : Lk M1 x a T.1 p1 (pAllL T).2.1 n1 0 := h1
    have k1 : clK M1 a (pAllL T).2.2 := k1
    have l1 : vi M1 a 4 = nI (pAllL T).2.2.length := l1
    rw [cif_T z0, cif_T z0] at hq
    generalize hL : (pAllL T).2 = L at *
    have X1 := h.draft hw hd u1
    refine ⟨⟨X1.1, X1.2.1⟩, fun M2 e2 => ?_⟩
    have e2 : M2 = seti M1 (x + 1) 1 (nI 0) := e2
    have X2 : XC w M2 x (v_end T 0) c := by rw [e2]; exact X1.tape0 (Nat.zero_le _)
    have C2 : Cu x M M2 := by rw [e2]; exact cu u1
    have N2 : mN M2 = mN M := by rw [e2]; exact u1.1
    have x12 : vi M2 x 12 = nI (qN T) := X2.q
    have d2 : LrAt M2 (x + 18) (x + 1) a := by
      have y := h1.1
      rw [e2]
      exact ⟨y.1, y.2.1, y.2.2.1.cg rfl rfl rfl, y.2.2.2.1, y.2.2.2.2.cg rfl rfl rfl⟩
    have cl2 : cLaw M2 a L := by
      have sv : ∀ b, b ≠ x + 1 → vi M2 b = vi M1 b := fun b hb => by funext k; rw [e2, vi_seti, if_neg (fun y => hb y.1)]
      refine ⟨by rw [sv a (by omega)]; exact l1, fun k hk => by rw [sv _ (by omega)]; exact h1.2.2.2.2.2.2.2 k hk, fun i hi => by rw [sv _ (by omega), sv _ (by omega)]; exact k1 i hi⟩
    refine ⟨fun _ => ?_, fun y => absurd (by rw [e2, vi_seti, if_neg (by omega)]; exact h1.tpe.ff) y⟩
    refine c_X3_handOver d2 X2.2.1 (fun M3 e3 => k_new2 X2.2.1 e3 (fun M4 o4 N4 S4 s4 F4 => ?_))
    have lx2 : x + 101 ≤ mN M2 := X2.2.2.2.2.1
    have d4 : LrAt M4 (x + 18) (x + 1) a := by
      have hKA : ∀ b, mK M2 b ≠ 0 → mK M4 b = mK M2 b ∧ mA M4 b = mA M2 b := fun b hb => (s4 b (X2.2.1.lt hb)).2
      have r18 := (s4 (x + 18) (by omega)).1.2.2
      have al := ob2_lt d2.2.2.2.2 X2.2.1 0 (by decide)
      exact ⟨by rw [(s4 (x + 18) (by omega)).2.1]; exact d2.1, by rw [r18]; exact d2.2.1, d2.2.2.1.keep hKA (s4 (x + 1) (by omega)).1.2.2 (by decide), by rw [r18]; exact d2.2.2.2.1, d2.2.2.2.2.keep hKA (s4 a al).1.2.2 (by decide)⟩
    refine ⟨⟨d4, F4⟩, fun M5 e5 => ?_⟩
    have s5 : ∀ b, b ≠ x + 18 → same M4 M5 b := fun b hb => by rw [e5]; exact ⟨rfl, rfl, by funext j; rw [vr_setr, if_neg (fun y => hb y.1)]⟩
    have K5 : ∀ b, b < mN M2 → mK M5 b = mK M2 b ∧ mA M5 b = mA M2 b := fun b hb => by rw [e5]; exact (s4 b hb).2
    have F5 : frM M5 := by rw [e5]; exact F4
    have X5 : XAt M5 x := X2.1.keep (fun b hb => K5 b (X2.2.1.lt hb)) (fun i hi => by
      rw [(s5 (x + i) (by simp at hi; omega)).2.2, (s4 (x + i) (by simp at hi; omega)).1.2.2])
    have v4 : vp_in (nI (qN T)) 4 := vp_in_nI (by omega) (by omega)
    refine ⟨⟨X5, F5⟩, fun r4 er => ?_, fun er => (by cases er)⟩
    have er : a = r4 := by cases er; rfl
    subst er
    have a2 := ob2_lt d2.2.2.2.2 X2.2.1 0 (by decide)
    have k13 : mK M5 (x + 13) = 18 := ob11_k3 X5.1
    have ka : mK M5 a = 3 := by rw [(K5 a a2).1]; exact d2.2.2.2.2.1
    rw [x12, nI_clamp (by omega)]
    refine ⟨v4, by rw [ka, k13]; rfl, fun M6 e6 M7 e7 => ?_⟩
    have F6 : frM M6 := by rw [e6]; exact F5
    have N6 : mN M6 = mN M2 + 6 := by rw [e6, mN_setr, e5, mN_setr]; exact N4
    have s6 : ∀ b, b ≠ x + 13 → same M5 M6 b := fun b hb => by rw [e6]; exact ⟨rfl, rfl, by funext j; rw [vr_setr, if_neg (fun y => hb y.1)]⟩
    refine k_new10 F6 e7 (fun M8 o8 v8 N8 S8 s8 F8 => ?_)
    have K8 : ∀ b, b < mN M2 → mK M8 b = mK M2 b ∧ mA M8 b = mA M2 b := fun b hb => by
      have y := s8 b (by omega)
      refine ⟨y.2.1.trans ?_, y.2.2.trans ?_⟩
      · rw [e6]; exact (K5 b hb).1
      · rw [e6]; exact (K5 b hb).2
    have X8 : XAt M8 x := X2.1.keep (fun b hb => K8 b (X2.2.1.lt hb)) (fun i hi => by
      rw [(s8 (x + i) (by simp at hi; omega)).1.2.2, (s6 (x + i) (by simp at hi; omega)).2.2, (s5 (x + i) (by simp at hi; omega)).2.2, (s4 (x + i) (by simp at hi; omega)).1.2.2])
    have k14 : mK M8 (x + 14) = 21 := ob11_k4 X8.1
    refine ⟨⟨X8, F8⟩, v4, by rw [o8.1, k14]; rfl, fun M9 e9 M10 e10 => ?_⟩
    have s9 : ∀ b, b ≠ x + 14 → same M8 M9 b := fun b hb => by rw [e9]; exact ⟨rfl, rfl, by funext j; rw [vr_setr, if_neg (fun y => hb y.1)]⟩
    have s10 : ∀ b, b ≠ x → same M9 M10 b := fun b hb => by rw [e10]; exact ⟨by funext j; rw [vi_seti, if_neg (fun y => hb y.1)], rfl, rfl⟩
    have all : ∀ b, b < mN M2 → b ≠ x → b ≠ x + 13 → b ≠ x + 14 → b ≠ x + 18 → same M2 M10 b := fun b hb h1 h2 h3 h4 => (s4 b hb).1.trans ((s5 b h4).trans ((s6 b h2).trans ((s8 b (by omega)).1.trans ((s9 b h3).trans (s10 b h1)))))
    have x0 : same M2 M9 x := (s4 x (by omega)).1.trans ((s5 x (by omega)).trans ((s6 x (by omega)).trans ((s8 x (by omega)).1.trans (s9 x (by omega)))))
    have K10 : ∀ b, b < mN M2 → mK M10 b = mK M2 b ∧ mA M10 b = mA M2 b := fun b hb => by rw [e10, e9]; exact K8 b hb
    have F10 : frM M10 := by rw [e10, e9]; exact F8
    rw [x0.1, x12, nI_1] at e10
    refine hq _ M10 (XC.lawN (T := v_end T 0) (N := mN M2) (V := mN M6) X2 (by show qN T < 4; omega) okl rfl d2.2.2.2.2 hw cl2 K10 all ⟨?_, ?_, fun k hk => ?_⟩ ?_ (fun j => ?_) (fun j => ?_) ?_ (Nat.le_refl _) (by omega) ?_ ⟨?_, ?_⟩ F10 ?_) ⟨fun b h1 h2 => ?_, ?_, ?_⟩
    · rw [e10, vr_seti, x0.2.2]
    · rw [e10, vl_seti, x0.2.1]
    · rw [e10, vi_seti, if_neg (fun y => hk y.2), x0.1]
    · rw [e10, vi_seti, if_pos ⟨rfl, rfl⟩]; rfl
    · show vr M10 (x + 13) j = if j = qN T then some a else vr M2 (x + 13) j
      rw [(s10 (x + 13) (by omega)).2.2, (s9 (x + 13) (by omega)).2.2, (s8 (x + 13) (by omega)).1.2.2, e6, vr_setr]
      by_cases y : j = qN T
      · rw [if_pos ⟨rfl, y⟩, if_pos y]
      · rw [if_neg (fun u => y u.2), if_neg y, (s5 (x + 13) (by omega)).2.2, (s4 (x + 13) (by omega)).1.2.2]
    · show vr M10 (x + 14) j = if j = qN T then some (mN M6) else vr M2 (x + 14) j
      rw [(s10 (x + 14) (by omega)).2.2, e9, vr_setr]
      by_cases y : j = qN T
      · rw [if_pos ⟨rfl, y⟩, if_pos y]
      · rw [if_neg (fun u => y u.2), if_neg y, (s8 (x + 14) (by omega)).1.2.2, (s6 (x + 14) (by omega)).2.2, (s5 (x + 14) (by omega)).2.2, (s4 (x + 14) (by omega)).1.2.2]
    · have r18 : vr M10 (x + 18) = vr M5 (x + 18) := by rw [(s10 (x + 18) (by omega)).2.2, (s9 (x + 18) (by omega)).2.2, (s8 (x + 18) (by omega)).1.2.2, (s6 (x + 18) (by omega)).2.2]
      have K5' : ∀ b, mK M4 b ≠ 0 → mK M10 b = mK M4 b ∧ mA M10 b = mA M4 b := fun b hb => by
        have lt := F4.lt hb
        rw [e10, e9]
        have y := s8 b (by omega)
        refine ⟨y.2.1.trans ?_, y.2.2.trans ?_⟩
        · rw [e6, e5]; rfl
        · rw [e6, e5]; rfl
      refine ⟨by rw [(K10 (x + 18) (by omega)).1]; exact d2.1, ?_, ?_, ?_, ?_⟩
      · rw [r18, e5, vr_setr, if_neg (by omega)]; exact d4.2.1
      · exact d4.2.2.1.keep K5' (by rw [(s10 (x + 1) (by omega)).2.2, (s9 (x + 1) (by omega)).2.2, (s8 (x + 1) (by omega)).1.2.2, (s6 (x + 1) (by omega)).2.2, (s5 (x + 1) (by omega)).2.2]) (by decide)
      · rw [r18, e5, vr_setr, if_pos ⟨rfl, rfl⟩]
      · exact o4.keep K5' (by rw [(s10 _ (by omega)).2.2, (s9 _ (by omega)).2.2, (s8 _ (by omega)).1.2.2, (s6 _ (by omega)).2.2, (s5 _ (by omega)).2.2]) (by decide)
    · exact o8.keep (fun b _ => by rw [e10, e9]; exact ⟨rfl, rfl⟩) (by rw [(s10 _ (by omega)).2.2, (s9 _ (by omega)).2.2]) (by decide)
    · rw [(s10 _ (by omega)).1, (s9 _ (by omega)).1]; exact v8.1
    · rw [(s10 _ (by omega)).1, (s9 _ (by omega)).1]; exact v8.2
    · rw [e10, mN_seti, e9, mN_setr, N8]; omega
    · have y := C2.1 b h1 h2
      have k := K10 b (by omega)
      exact ⟨y.1.trans (all b (by omega) (by omega) (by omega) (by omega) (by omega)), k.1.trans y.2.1, k.2.trans y.2.2⟩
    · rw [e10, mN_seti, e9, mN_setr, N8]; omega
    · have S6 : mS M6 = mS M2 + 502 := by rw [e6, mS_setr, e5, mS_setr]; exact S4
      have S2 : mS M2 = mS M := by rw [e2]; exact u1.2.1
      rw [e10, mS_seti, e9, mS_setr, S8]; omega
  · have z0 : ¬ (pAllL T).1 = 0 := z
    have h1 : Lk M1 x a T.1 p1 cd1 n1 (pAllL T).1 := h1
    rw [cif_F z0, cif_F z0] at hq
    have X1 := h.draft hw hd u1
    refine ⟨⟨X1.1, X1.2.1⟩, fun M2 e2 => ?_⟩
    have e2 : M2 = seti M1 (x + 1) 1 (nI 0) := e2
    have X2 : XC w M2 x (v_end T 0) c := by rw [e2]; exact X1.tape0 (Nat.zero_le _)
    have C2 : Cu x M M2 := by rw [e2]; exact cu u1
    have ef : vi M2 (x + 1) 3 = nI (pAllL T).1 := by rw [e2, vi_seti, if_neg (by omega)]; exact h1.tpe.ff
    rw [ef]
    exact ⟨fun y => absurd y (nI_ne0 (by omega) (by have := h1.f4; omega)), fun _ => hq w M2 X2 C2⟩
end
