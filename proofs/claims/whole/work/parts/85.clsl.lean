/-! THE CLASS'S READER OF LAWS: its draft, values, sums -/
def FrL (x a : Nat) (M M' : Mem) : Prop := mN M' = mN M ∧ mS M' = mS M ∧ mK M' = mK M ∧ mA M' = mA M ∧ vr M' = vr M ∧ (∀ b k, b ≠ x + 1 → b ≠ x + 18 → b ≠ a → b ≠ a + 1 → vi M' b k = vi M b k ∧ vl M' b k = vl M b k) ∧ vi M' (x + 1) 1 = vi M (x + 1) 1 ∧ vi M' a 4 = vi M a 4
theorem ObAt.cg {q b : Nat} {M M' : Mem} (h : ObAt q M b) (hK : mK M' = mK M) (hA : mA M' = mA M) (hr : vr M' = vr M) : ObAt q M' b := by
  unfold ObAt at h ⊢
  rw [hK, hA, hr]
  exact h
def Lk (M : Mem) (x a : Nat) (t : TpT) (p : Nat) (cd : List Nat) (n f : Nat) : Prop :=
  LrAt M (x + 18) (x + 1) a ∧ ((x + 1 < a ∨ a + 5 < x + 1) ∧ (x + 2 < a ∨ a + 5 < x + 2) ∧ (x + 18 < a ∨ a + 5 < x + 18)) ∧ tpA M (x + 1) t p f ∧ p ≤ t.1 ∧ f < 100000 ∧ (vi M a 1 = nI cd.length ∧ cd.length ≤ 400) ∧ vi M (x + 18) 2 = nI n ∧ ∀ k, k < cd.length → vi M (a + 1) k = nI (cd.getD k 0)
/-- bounds of what is read -/
def bd (t : TpT) (p : Nat) (cd : List Nat) (n : Nat) : Prop := skB t p = p ∧ n ≤ 60 ∧ 3 * cd.length ≤ 6 * n + p
theorem nI_neN1 {b : Nat} (h : b < 2147483648) : ¬ nI b = (-1 : Int32) := fun e => by
  rw [show (-1 : Int32) = mI 1 from rfl, nm_eq (by decide) (by decide) h] at e; exact e
theorem fst_in {p : Nat → Prop} : ∀ n, fst p n < n → p (fst p n)
  | 0, h => absurd h (Nat.not_lt_zero _)
  | n + 1, h => by
    have h0 : fst p (n + 1) = cif (fst p n < n) (fst p n) (cif (p n) n (n + 1)) := rfl
    rw [h0] at h ⊢
    by_cases c : fst p n < n
    · rw [cif_T c]; exact fst_in n c
    · rw [cif_F c] at h ⊢
      by_cases c2 : p n
      · rw [cif_T c2]; exact c2
      · rw [cif_F c2] at h; omega
theorem pVal_gt {t : TpT} {p n : Nat} {cd : List Nat} : (pVal t p cd n).1 = 0 → p < (pVal t p cd n).2.1 := by
  unfold pVal
  refine cif_el (φ := fun r : Nat × LxT => r.1 = 0 → p < r.2.1) (fun c => ?_) (fun _ => ?_)
  · refine cif_el (φ := fun r : Nat × LxT => r.1 = 0 → p < r.2.1) (fun _ z => absurd z (flt_ne _ _)) (fun _ => cif_el (φ := fun r : Nat × LxT => r.1 = 0 → p < r.2.1) (fun _ z => absurd z (flt_ne _ _)) (fun _ _ => ?_))
    show p < p + dl t p
    omega
  · refine cif_el (φ := fun r : Nat × LxT => r.1 = 0 → p < r.2.1) (fun _ z => absurd z (flt_ne _ _)) (fun c => cif_el (φ := fun r : Nat × LxT => r.1 = 0 → p < r.2.1) (fun _ z => absurd z (flt_ne _ _)) (fun _ _ => ?_))
    show p < p + wl t p
    have l7 : lIx t p < 7 := by have : lIx t p ≤ 7 := fst_lt 7; omega
    have e : wAt t p = lWs.getD (lIx t p) [] := fst_in (p := fun k => wAt t p = lWs.getD k []) 7 l7
    have key : ∀ k, k < 7 → 0 < (lWs.getD k []).length := by decide +kernel
    have := key _ l7
    rw [wl_of e]
    omega
theorem pTm_gt {t : TpT} {p n : Nat} {cd : List Nat} (t4 : t.1 ≤ 400) (p4 : p ≤ t.1) (n6 : n ≤ 60) : (pTm t p cd n).1 = 0 → p < (pTm t p cd n).2.1 := by
  have v := pVal_rom (cd := cd) t4 p4 n6
  have g := pVal_gt (t := t) (p := p) (n := n) (cd := cd)
  unfold pTm
  refine cif_el (φ := fun r : Nat × LxT => r.1 = 0 → p < r.2.1) (fun z y => ?_) (fun z y => absurd y z)
  have v2 := v.2 z
  have r := (pTmL_rom t4 401 (pVal t p cd n).2.1 (pVal t p cd n).2.2.1 (pVal t p cd n).2.2.2 v2.2.1 v2.2.2.1).2 y
  have := g z
  omega
theorem pTmL_b {t : TpT} {j p n : Nat} {cd : List Nat} : pTmL t (j + 1) (skB t p) cd n = pTmL t (j + 1) p cd n := by
  unfold pTmL; rw [skB_id]
section
variable {G : GT} {d : Nat} {M M' M'' : Mem} {x a p n f : Nat} {t : TpT} {cd : List Nat}
theorem FrL.refl : FrL x a M M := ⟨rfl, rfl, rfl, rfl, rfl, fun _ _ _ _ _ _ => ⟨rfl, rfl⟩, rfl, rfl⟩
theorem FrL.trans (h : FrL x a M M') (h2 : FrL x a M' M'') : FrL x a M M'' :=
  ⟨h2.1.trans h.1, h2.2.1.trans h.2.1, h2.2.2.1.trans h.2.2.1, h2.2.2.2.1.trans h.2.2.2.1, h2.2.2.2.2.1.trans h.2.2.2.2.1, fun b k e1 e2 e3 e4 => ⟨(h2.2.2.2.2.2.1 b k e1 e2 e3 e4).1.trans (h.2.2.2.2.2.1 b k e1 e2 e3 e4).1, (h2.2.2.2.2.2.1 b k e1 e2 e3 e4).2.trans (h.2.2.2.2.2.1 b k e1 e2 e3 e4).2⟩, h2.2.2.2.2.2.2.1.trans h.2.2.2.2.2.2.1, h2.2.2.2.2.2.2.2.trans h.2.2.2.2.2.2.2⟩
theorem FrL.tp {F : List Nat} (g : Frl (x + 1) F [] M M') (h1 : 1 ∉ F) (ha : ((x + 1 < a ∨ a + 5 < x + 1) ∧ (x + 2 < a ∨ a + 5 < x + 2) ∧ (x + 18 < a ∨ a + 5 < x + 18))) : FrL x a M M' :=
  ⟨g.1, g.2.1, g.2.2.1, g.2.2.2.1, g.2.2.2.2.1, fun b k e1 _ _ _ => g.2.2.2.2.2 b k (fun e => absurd e e1) (fun o ho => by cases ho), g.f h1 (by decide), (g.2.2.2.2.2 a 4 (fun e => by omega) (fun o ho => by cases ho)).1⟩
theorem FrL.lr {o s l : Nat} (g : FrL x a M M') (h : LrAt M o s l) : LrAt M' o s l := by
  refine ⟨?_, ?_, h.2.2.1.cg g.2.2.1 g.2.2.2.1 g.2.2.2.2.1, ?_, h.2.2.2.2.cg g.2.2.1 g.2.2.2.1 g.2.2.2.2.1⟩
  · rw [g.2.2.1]; exact h.1
  · rw [g.2.2.2.2.1]; exact h.2.1
  · rw [g.2.2.2.2.1]; exact h.2.2.2.1
theorem Lk.lr (h : Lk M x a t p cd n f) : LrAt M (x + 18) (x + 1) a := h.1
theorem Lk.tpe (h : Lk M x a t p cd n f) : tpA M (x + 1) t p f := h.2.2.1
theorem Lk.p4 (h : Lk M x a t p cd n f) : p ≤ t.1 ∧ t.1 ≤ 400 := ⟨h.2.2.2.1, h.2.2.1.2.2.1⟩
theorem Lk.f4 (h : Lk M x a t p cd n f) : f < 100000 := h.2.2.2.2.1
theorem Lk.ob (h : Lk M x a t p cd n f) : ObAt 2 M a := h.1.2.2.2.2
/-- the tape is read on -/
theorem Lk.mv {p' f' : Nat} {F : List Nat} (h : Lk M x a t p cd n f) (g : Frl (x + 1) F [] M M') (h1 : 1 ∉ F) (ht : tpA M' (x + 1) t p' f') (p4 : p' ≤ t.1) (f4 : f' < 100000) : FrL x a M M' ∧ Lk M' x a t p' cd n f' := by
  have r := FrL.tp g h1 h.2.1
  have ha := h.2.1
  refine ⟨r, r.lr h.1, h.2.1, ht, p4, f4, ⟨?_, h.2.2.2.2.2.1.2⟩, ?_, fun k hk => ?_⟩
  · rw [(g.2.2.2.2.2 a 1 (fun e => by omega) (fun o ho => by cases ho)).1]; exact h.2.2.2.2.2.1.1
  · rw [(g.2.2.2.2.2 (x + 18) 2 (fun e => by omega) (fun o ho => by cases ho)).1]; exact h.2.2.2.2.2.2.1
  · rw [(g.2.2.2.2.2 (a + 1) k (fun e => by omega) (fun o ho => by cases ho)).1]; exact h.2.2.2.2.2.2.2 k hk
theorem k_lfail {q c : Nat} {Q : Mem → Prop} (h : Lk M x a t p cd n f) (q4 : q ≤ 400) (hc : c < 8) (hq : ∀ M', FrL x a M M' → Lk M' x a t p cd n (if f = 0 then flt q c else f) → Q M') : CV G (d + 1) 91 [.ref (x + 1), .int (nI q), .int (nI c)] M (fun M' => LrAt M' (x + 18) (x + 1) a ∧ Q M') := by
  have f4 := h.f4
  refine k_fail h.tpe f4 (fun M1 g1 t1 => ?_)
  have r := h.mv g1 (by decide) t1 h.p4.1 (by by_cases z : f = 0; · rw [if_pos z]; exact flt_lt (by omega) hc
                                              · rw [if_neg z]; exact f4)
  exact ⟨r.2.1, hq M1 r.1 r.2⟩
theorem k_add {c : Nat} {Q : Mem → Prop} (h : Lk M x a t p cd n f) (hf : f = 0 → cd.length < 400) (hq : ∀ M' cd', FrL x a M M' → Lk M' x a t p cd' n f → (f = 0 → cd' = cd ++ [c]) → Q M') : CV G (d + 1) 22 [.ref a, .int (nI c)] M (fun M' => LrAt M' (x + 18) (x + 1) a ∧ Q M') := by
  have ha := h.2.1
  have l4 := h.2.2.2.2.2.1.2
  refine c_X2_add h.ob ?_
  rw [h.2.2.2.2.2.1.1, show (400 : Int32) = nI 400 from rfl, le_I (by omega) (by omega)]
  refine ⟨fun z => absurd z (nlt0 _ (by omega)), fun _ => ⟨fun z => ⟨h.1, hq M cd FrL.refl h (fun y => absurd (hf y) (by omega))⟩, fun z => ⟨vp_in_nI (by omega) (by omega), ?_⟩⟩⟩
  rw [nI_clamp (by omega)]
  intro M1 e1 M2 e2
  have e2' : M2 = seti M1 a 1 (nI (cd.length + 1)) := by
    rw [e2, e1, vi_seti, if_neg (by omega), h.2.2.2.2.2.1.1, nI_1]
  have v2 : ∀ b k, vi M2 b k = if b = a ∧ k = 1 then nI (cd.length + 1) else if b = a + 1 ∧ k = cd.length then nI c else vi M b k := fun b k => by rw [e2', vi_seti, e1, vi_seti]
  have r : FrL x a M M2 := by
    refine ⟨by rw [e2, e1]; rfl, by rw [e2, e1]; rfl, by rw [e2, e1]; rfl, by rw [e2, e1]; rfl, by rw [e2, e1]; rfl, fun b k h1 h2 h3 h4 => ⟨?_, by rw [e2, e1]; rfl⟩, ?_, ?_⟩
    · rw [v2, if_neg (fun e => h3 e.1), if_neg (fun e => h4 e.1)]
    · rw [v2, if_neg (fun e => by omega), if_neg (fun e => by omega)]
    · rw [v2, if_neg (fun e => by omega), if_neg (fun e => by omega)]
  have L1 : (cd ++ [c]).length = cd.length + 1 := List.length_append
  refine ⟨r.lr h.1, hq M2 (cd ++ [c]) r ⟨r.lr h.1, ha, ?_, h.2.2.2.1, h.f4, ⟨?_, by omega⟩, ?_, fun k hk => ?_⟩ (fun _ => rfl)⟩
  · refine h.tpe.sm (h.tpe.1.cg r.2.2.1 r.2.2.2.1 r.2.2.2.2.1) ?_ ?_
    · funext k; rw [v2, if_neg (fun e => by omega), if_neg (fun e => by omega)]
    · funext k; rw [v2, if_neg (fun e => by omega), if_neg (fun e => by omega)]
  · rw [v2, if_pos ⟨rfl, rfl⟩, L1]
  · rw [v2, if_neg (fun e => by omega), if_neg (fun e => by omega)]; exact h.2.2.2.2.2.2.1
  · rw [L1] at hk
    rw [v2, if_neg (fun e => by omega)]
    by_cases y : k = cd.length
    · rw [if_pos ⟨rfl, y⟩, y, gA_r]
    · rw [if_neg (fun e => y e.2), gA_l (by omega)]; exact h.2.2.2.2.2.2.2 k (by omega)
theorem k_countAt {q : Nat} {Q : Mem → Prop} (h : Lk M x a t p cd n f) (q4 : q ≤ 400) (n6 : f = 0 → n ≤ 60) (hq : ∀ M' f', FrL x a M M' → Lk M' x a t p cd (n + 1) f' → (¬ f = 0 → f' = f) → (f = 0 → (n = 60 → f' = flt q 3) ∧ (¬ n = 60 → f' = 0)) → Q M') : CV G (d + 2) 38 [.ref (x + 18), .int (nI q)] M (fun M' => LrAt M' (x + 18) (x + 1) a ∧ Q M') := by
  have ha := h.2.1
  refine c_X3_countAt h.1 (fun M1 e1 => ?_)
  rw [h.2.2.2.2.2.2.1, nI_1] at e1
  have v1 : ∀ b k, vi M1 b k = if b = x + 18 ∧ k = 2 then nI (n + 1) else vi M b k := fun b k => by rw [e1, vi_seti]
  have r : FrL x a M M1 := by
    refine ⟨by rw [e1]; rfl, by rw [e1]; rfl, by rw [e1]; rfl, by rw [e1]; rfl, by rw [e1]; rfl, fun b k h1 h2 h3 h4 => ⟨?_, by rw [e1]; rfl⟩, ?_, ?_⟩
    · rw [v1, if_neg (fun e => h2 e.1)]
    · rw [v1, if_neg (fun e => by omega)]
    · rw [v1, if_neg (fun e => by omega)]
  have h1 : Lk M1 x a t p cd (n + 1) f := by
    refine ⟨r.lr h.1, ha, h.tpe.sm (h.tpe.1.cg r.2.2.1 r.2.2.2.1 r.2.2.2.2.1) ?_ ?_, h.2.2.2.1, h.f4, ⟨?_, h.2.2.2.2.2.1.2⟩, ?_, fun k hk => ?_⟩
    · funext k; rw [v1, if_neg (fun e => by omega)]
    · funext k; rw [v1, if_neg (fun e => by omega)]
    · rw [v1, if_neg (fun e => by omega)]; exact h.2.2.2.2.2.1.1
    · rw [v1, if_pos ⟨rfl, rfl⟩]
    · rw [v1, if_neg (fun e => by omega)]; exact h.2.2.2.2.2.2.2 k hk
  rw [h1.2.2.2.2.2.2.1]
  refine ⟨fun z => ⟨h1.1, hq M1 f r h1 (fun _ => rfl) (fun y => ?_)⟩, fun z => ?_⟩
  · have n6 := n6 y
    rw [show (60 : Int32) = nI 60 from rfl, le_I (by omega) (by omega)] at z
    exact ⟨fun u => by omega, fun _ => y⟩
  · refine k_lfail (Q := fun M' => LrAt M' (x + 18) (x + 1) a ∧ Q M') (c := 3) h1 q4 (by decide) (fun M2 r2 h2 => ⟨h2.1, hq M2 _ (r.trans r2) h2 (fun y => if_neg y) (fun y => ?_)⟩)
    have n6 := n6 y
    rw [show (60 : Int32) = nI 60 from rfl, le_I (by omega) (by omega)] at z
    exact ⟨fun _ => if_pos y, fun u => by omega⟩
/-- a word of one -/
theorem k_take1 {i : Nat} {W : List Int32} {Q : Int32 → Mem → Prop} (h : Lk M x a t p cd n f) (hi : i < 27) (hs : strB.getD i [] ++ [32] = flw [W]) (hW : ∀ w ∈ [W], w ≠ [] ∧ ∀ c ∈ w, c ≠ 32)
    (hy : f = 0 → wAt t p = W → ∀ M', FrL x a M M' → Lk M' x a t (skB t (p + W.length)) cd n f → Q (nI 0) M') (hn : (f = 0 → ¬ wAt t p = W) → Q (-1) M) : CI G (d + 5) 95 [.ref (x + 1), .ref (gk G i)] M (fun v M' => LrAt M' (x + 18) (x + 1) a ∧ Q v M') := by
  have p4 := h.p4
  refine k_takeWord (ws := [W]) hi hs hW h.tpe p4.1 h.f4 (fun f0 k hk M1 g1 t1 => ?_) (fun z => ⟨h.1, hn (fun y e => ?_)⟩)
  · obtain ⟨_, h2, h3, _⟩ := wix_s [W] 0 k hk
    have k0 : k = 0 := by rw [Nat.sub_zero] at h2; have h2 : k < 1 := h2; omega
    subst k0
    have e : wAt t p = W := h3.symm
    have wl := wl_le p4.1
    rw [wl_of e] at t1 wl
    have r := h.mv g1 (by decide) t1 (skB_le wl).2 h.f4
    exact ⟨r.2.1, hy f0 e M1 r.1 r.2⟩
  · exact wix_n [W] 0 (z y) 0 Nat.zero_lt_one e.symm
theorem k_lsign {c e : Int32} {Q : Int32 → Mem → Prop} (h : Lk M x a t p cd n f) (hc : c ≠ -1 ∧ e ≠ -1) (hy : f = 0 → (pk t p = c ∨ pk t p = e) → ∀ M', FrL x a M M' → Lk M' x a t (skB t (p + 1)) cd n f → Q (pk t p) M') (hn : ¬ (f = 0 ∧ (pk t p = c ∨ pk t p = e)) → Q (-1) M) : CI G (d + 2) 94 [.ref (x + 1), .int c, .int e] M (fun v M' => LrAt M' (x + 18) (x + 1) a ∧ Q v M') := by
  have p4 := h.p4
  refine k_takeSign h.tpe (by omega) h.f4 (fun f0 z M1 g1 t1 => ?_) (fun z => ⟨h.1, hn z⟩)
  have q := (pk_at (c := pk t p) rfl (by rcases z with z | z <;> rw [z]; exact hc.1; exact hc.2)).1
  have r := h.mv g1 (by decide) t1 (skB_le (by omega)).2 h.f4
  exact ⟨r.2.1, hy f0 z M1 r.1 r.2⟩
theorem flw_l : strB.getD 2 [] ++ [32] = flw lWs := by decide +kernel
theorem lWs_ok : ∀ w ∈ lWs, w ≠ [] ∧ ∀ c ∈ w, c ≠ 32 := by decide +kernel
theorem wix_lIx {k : Nat} (h : wix (wAt t p) lWs 0 = some k) : k < 7 ∧ lIx t p = k := by
  obtain ⟨_, h2, h3, h4⟩ := wix_s lWs 0 k h
  rw [Nat.sub_zero] at h2 h3 h4
  exact ⟨h2, fst_y (p := fun k => wAt t p = lWs.getD k []) h3.symm (fun j hj z => h4 j hj z.symm) 7 h2⟩
theorem wix_l7 (h : wix (wAt t p) lWs 0 = none) : lIx t p = 7 :=
  fst_n (p := fun k => wAt t p = lWs.getD k []) 7 (fun j hj z => wix_n lWs 0 h j hj z.symm)
/-- the end of a reader: what it made of (p, cd, n) -/
def lE (t : TpT) (F : Nat × LxT) (f' p' : Nat) (cd' : List Nat) (n' : Nat) : Prop := f' = F.1 ∧ (f' = 0 → p' = skB t F.2.1 ∧ cd' = F.2.2.1 ∧ n' = F.2.2.2)
theorem k_readValue {Q : Mem → Prop} (h : Lk M x a t p cd n 0) (b : bd t p cd n) (hq : ∀ M' p' cd' n' f', FrL x a M M' → Lk M' x a t p' cd' n' f' → lE t (pVal t p cd n) f' p' cd' n' → Q M') : CV G (d + 6) 37 [.ref (x + 18)] M (fun M' => LrAt M' (x + 18) (x + 1) a ∧ Q M') := by
  have p4 := h.p4
  have d4 := dl_le p4.1
  have b2 := b.2
  refine c_X3_readValue h.1 (k_digits h.tpe p4.1 ⟨h.1, ?_⟩)
  rw [h.tpe.pp, show (5 : Int32) = nI 5 from rfl, il_0, le_I (by omega) (by omega), le_I (by omega) (by omega)]
  refine ⟨fun c5 => ⟨fun c0 => ?_, fun c0 => ?_⟩, fun c5 => ?_⟩
  · have e : pVal t p cd n = cif (lIx t p = 7) (flt p 0, p, cd, n) (cif (n = 60) (flt p 3, p, cd, n) (0, p + wl t p, cd ++ [100000 + lIx t p], n + 1)) := by
      unfold pVal; rw [cif_F (by omega)]
    rw [e] at hq
    refine k_takeWord (ws := lWs) (by decide) flw_l lWs_ok h.tpe p4.1 h.f4 (fun _ k hk M1 g1 t1 => ?_) (fun z => ⟨h.1, fun y => absurd rfl y, fun _ => ?_⟩)
    · obtain ⟨k7, ek⟩ := wix_lIx hk
      rw [cif_F (by omega), ek] at hq
      have r1 := h.mv g1 (by decide) t1 (skB_le (wl_le p4.1)).2 h.f4
      refine ⟨r1.2.1, fun _ => ?_, fun y => absurd y (nI_neN1 (by omega))⟩
      rw [show (100000 : Int32) = nI 100000 from rfl, nI_add]
      refine k_add r1.2 (fun _ => by omega) (fun M2 cd2 r2 h2 e2 => ?_)
      have e2 := e2 rfl
      refine k_countAt (Q := fun M' => LrAt M' (x + 18) (x + 1) a ∧ Q M') h2 (by omega) (fun _ => b2.1) (fun M3 f3 r3 h3 _ hf => ⟨h3.1, ?_⟩)
      have hf := hf rfl
      refine hq M3 _ _ _ _ (r1.1.trans (r2.trans r3)) h3 ?_
      by_cases y : n = 60
      · rw [cif_T y]; exact ⟨hf.1 y, fun z => absurd z (by rw [hf.1 y]; exact flt_ne _ _)⟩
      · rw [cif_F y]; exact ⟨hf.2 y, fun _ => ⟨rfl, e2, rfl⟩⟩
    · rw [cif_T (wix_l7 (z rfl))] at hq
      refine k_lfail (Q := fun M' => LrAt M' (x + 18) (x + 1) a ∧ Q M') (c := 0) h (by omega) (by decide) (fun M2 r2 h2 => ⟨h2.1, hq M2 _ _ _ _ r2 h2 ⟨if_pos rfl, fun z => absurd z (by rw [if_pos rfl]; exact flt_ne _ _)⟩⟩)
  · have e : pVal t p cd n = cif (n = 60) (flt p 3, p, cd, n) (0, p + dl t p, cd ++ [vlF t p (dl t p)], n + 1) := by
      unfold pVal; rw [cif_T (by omega), cif_F (by omega)]
    rw [e] at hq
    refine k_valueOf h.tpe p4.1 (Nat.le_refl _) c5 ⟨h.1, ?_⟩
    refine k_add h (fun _ => by omega) (fun M2 cd2 r2 h2 e2 => ?_)
    have e2 := e2 rfl
    refine k_pass h2.tpe (by omega) (fun M3 g3 t3 => ?_)
    have r3 := h2.mv g3 (by decide) t3 (skB_le d4).2 (by decide)
    refine ⟨r3.2.1, k_countAt (Q := fun M' => LrAt M' (x + 18) (x + 1) a ∧ Q M') r3.2 (by omega) (fun _ => b2.1) (fun M4 f4 r4 h4 _ hf => ⟨h4.1, ?_⟩)⟩
    have hf := hf rfl
    refine hq M4 _ _ _ _ (r2.trans (r3.1.trans r4)) h4 ?_
    by_cases y : n = 60
    · rw [cif_T y]; exact ⟨hf.1 y, fun z => absurd z (by rw [hf.1 y]; exact flt_ne _ _)⟩
    · rw [cif_F y]; exact ⟨hf.2 y, fun _ => ⟨rfl, e2, rfl⟩⟩
  · have e : pVal t p cd n = (flt p 1, p, cd, n) := by
      unfold pVal; rw [cif_T (by omega), cif_T (by omega)]
    rw [e] at hq
    refine k_lfail (Q := fun M' => LrAt M' (x + 18) (x + 1) a ∧ Q M') (c := 1) h (by omega) (by decide) (fun M2 r2 h2 => ⟨h2.1, hq M2 _ _ _ _ r2 h2 ⟨if_pos rfl, fun z => absurd z (by rw [if_pos rfl]; exact flt_ne _ _)⟩⟩)
theorem k_tmL {l1 l2 : Int32} {Q : Mem → Prop} (j : Nat) : ∀ (i p : Nat) (cd : List Nat) (n f : Nat) (M : Mem), j + i = 401 → (f = 0 → i ≤ p) → Lk M x a t p cd n f → (f = 0 → bd t p cd n) →
    (∀ M' p' cd' n' f' (i' : Int32), FrL x a M M' → Lk M' x a t p' cd' n' f' → (¬ f = 0 → f' = f) → (f = 0 → lE t (pTmL t j p cd n) f' p' cd' n') → At G (d + 7) 36 40 [(0, .ref (x + 18)), (1, .int l1), (2, .int l2), (3, .int (-1)), (4, .int i')] [] M' (qV Q)) →
    CI G (d + 6) 94 [.ref (x + 1), .int (42 : Int32), .int (47 : Int32)] M (fun v M' => LrAt M' (x + 18) (x + 1) a ∧ At G (d + 7) 36 40 [(0, .ref (x + 18)), (1, .int l1), (2, .int l2), (3, .int v), (4, .int (nI i))] [] M' (qV Q)) := by
  induction j with
  | zero =>
    intro i p cd n f M e hi h b hT
    have p4 := h.p4
    exact k_lsign h (by decide) (fun f0 => absurd (hi f0) (by omega)) (fun _ => hT M p cd n f _ FrL.refl h (fun _ => rfl) (fun f0 => absurd (hi f0) (by omega)))
  | succ j ih =>
    intro i p cd n f M e hi h b hT
    have p4 := h.p4
    refine k_lsign h (by decide) (fun f0 hp M1 r1 h1 => ?_) (fun hp => hT M p cd n f _ FrL.refl h (fun _ => rfl) (fun f0 => ?_))
    · subst f0
      have b := b rfl
      have hi := hi rfl
      have b2 := b.2
      have q := (pk_at (c := pk t p) rfl (by rcases hp with z | z <;> rw [z] <;> decide)).1
      have sk := skB_le (t := t) (p := p + 1) (by omega)
      have b1 : bd t (skB t (p + 1)) cd n := ⟨skB_id _ _, b2.1, by omega⟩
      have ne1 : ¬ pk t p = -1 := by rcases hp with z | z <;> rw [z] <;> decide
      have v := pVal_rom (cd := cd) p4.2 sk.2 b2.1
      have vg := pVal_gt (t := t) (p := skB t (p + 1)) (n := n) (cd := cd)
      have ep : pTmL t (j + 1) p cd n = cif ((pVal t (skB t (p + 1)) cd n).1 = 0) (pTmL t j (pVal t (skB t (p + 1)) cd n).2.1 ((pVal t (skB t (p + 1)) cd n).2.2.1 ++ [cif (pk t p = 42) 200002 200003]) (pVal t (skB t (p + 1)) cd n).2.2.2) (pVal t (skB t (p + 1)) cd n) := by
        rw [pTmL, b.1, cif_T hp]
      rw [ep] at hT
      generalize hV : pVal t (skB t (p + 1)) cd n = V at *
      refine c_X3_readSum_40 h1.1 ⟨fun y => absurd y (nI_ge (a := i) (b := 400) (by omega) (by decide)), fun _ => ⟨fun y => absurd y ne1, fun _ => ?_⟩⟩
      refine k_readValue h1 b1 (fun M2 p2 cd2 n2 f2 r2 h2 e2 => ?_)
      rw [hV] at e2
      -- behind the sign
      have fin : ∀ c : Nat, (f2 = 0 → c = cif (pk t p = 42) 200002 200003) → CV G (d + 6) 22 [.ref a, .int (nI c)] M2 (fun M15 => LrAt M15 (x + 18) (x + 1) a ∧ CI G (d + 6) 94 [.ref (x + 1), .int (42 : Int32), .int (47 : Int32)] M15 (fun v17 M16 => LrAt M16 (x + 18) (x + 1) a ∧ At G (d + 7) 36 40 [(0, .ref (x + 18)), (1, .int l1), (2, .int l2), (3, .int v17), (4, .int (nI i + 1))] [] M16 (qV Q))) := fun c hc => by
        refine k_add h2 (fun z => ?_) (fun M3 cd3 r3 h3 e3 => ?_)
        · have e2' := e2.2 z
          have v2 := v.2 (by rw [← e2.1]; exact z)
          rw [e2'.2.1]
          omega
        · rw [nI_1]
          refine ih (i + 1) p2 cd3 n2 f2 M3 (by omega) (fun z => ?_) h3 (fun z => ?_) (fun M' p' cd' n' f' i' r' h' n' e' => hT M' p' cd' _ f' i' (r1.trans (r2.trans (r3.trans r'))) h' (fun z => absurd rfl z) (fun _ => ?_))
          · have e2' := e2.2 z
            have v2 := v.2 (by rw [← e2.1]; exact z)
            have g2 := vg (by rw [← e2.1]; exact z)
            have := (skB_le v2.2.1).1
            omega
          · have e2' := e2.2 z
            have v2 := v.2 (by rw [← e2.1]; exact z)
            have := (skB_le v2.2.1).1
            refine ⟨by rw [e2'.1]; exact skB_id _ _, by omega, ?_⟩
            rw [e3 z, e2'.2.1, List.length_append, List.length_singleton]
            omega
          · by_cases z : f2 = 0
            · have e2' := e2.2 z
              have g2 := vg (by rw [← e2.1]; exact z)
              have v2 := v.2 (by rw [← e2.1]; exact z)
              rw [cif_T (by rw [← e2.1]; exact z)]
              have e5 := e' z
              obtain ⟨j', rfl⟩ : ∃ j', j = j' + 1 := ⟨j - 1, by omega⟩
              rw [e2'.1, pTmL_b, e3 z, hc z, e2'.2.1, e2'.2.2] at e5
              exact e5
            · rw [cif_F (by rw [← e2.1]; exact z)]
              have := n' z
              rw [this]
              exact ⟨e2.1, fun y => absurd y z⟩
      exact ⟨fun y => fin 200003 (fun _ => by rw [cif_F y]), fun y => fin 200002 (fun _ => by rw [cif_T y])⟩
    · subst f0
      have b := b rfl
      have ep : pTmL t (j + 1) p cd n = (0, skB t p, cd, n) := by
        rw [pTmL, b.1, cif_F (fun z => hp ⟨rfl, z⟩), ]
      rw [ep]
      exact ⟨rfl, fun _ => ⟨by rw [skB_id]; exact b.1.symm, rfl, rfl⟩⟩
theorem k_term {l1 l2 : Int32} {Q : Mem → Prop} (h : Lk M x a t p cd n 0) (b : bd t p cd n) (hT : ∀ M' p' cd' n' f' (i' : Int32), FrL x a M M' → Lk M' x a t p' cd' n' f' → lE t (pTm t p cd n) f' p' cd' n' → At G (d + 7) 36 40 [(0, .ref (x + 18)), (1, .int l1), (2, .int l2), (3, .int (-1)), (4, .int i')] [] M' (qV Q)) :
    CV G (d + 6) 37 [.ref (x + 18)] M (fun M1 => LrAt M1 (x + 18) (x + 1) a ∧ CI G (d + 6) 94 [.ref (x + 1), .int (42 : Int32), .int (47 : Int32)] M1 (fun v M' => LrAt M' (x + 18) (x + 1) a ∧ At G (d + 7) 36 40 [(0, .ref (x + 18)), (1, .int l1), (2, .int l2), (3, .int v), (4, .int (0 : Int32))] [] M' (qV Q))) := by
  have p4 := h.p4
  have b2 := b.2
  have v := pVal_rom (cd := cd) p4.2 p4.1 b2.1
  have ep : pTm t p cd n = cif ((pVal t p cd n).1 = 0) (pTmL t 401 (pVal t p cd n).2.1 (pVal t p cd n).2.2.1 (pVal t p cd n).2.2.2) (pVal t p cd n) := rfl
  rw [ep] at hT
  refine k_readValue h b (fun M2 p2 cd2 n2 f2 r2 h2 e2 => ?_)
  generalize pVal t p cd n = V at *
  refine k_tmL 401 0 p2 cd2 n2 f2 M2 rfl (fun _ => Nat.zero_le _) h2 (fun z => ?_) (fun M' p' cd' n' f' i' r' h' n' e' => hT M' p' cd' _ f' i' (r2.trans r') h' ?_)
  · have e2' := e2.2 z
    have v2 := v.2 (by rw [← e2.1]; exact z)
    have := (skB_le v2.2.1).1
    refine ⟨by rw [e2'.1]; exact skB_id _ _, by omega, ?_⟩
    rw [e2'.2.1]
    omega
  · by_cases z : f2 = 0
    · have e2' := e2.2 z
      rw [cif_T (by rw [← e2.1]; exact z)]
      have e5 := e' z
      rw [e2'.1, pTmL_b, e2'.2.1, e2'.2.2] at e5
      exact e5
    · rw [cif_F (by rw [← e2.1]; exact z)]
      rw [n' z]
      exact ⟨e2.1, fun y => absurd y z⟩
theorem k_smL {Q : Mem → Prop} (j : Nat) : ∀ (i p : Nat) (cd : List Nat) (n f : Nat) (M : Mem), j + i = 401 → (f = 0 → i < p) → Lk M x a t p cd n f → (f = 0 → bd t p cd n) →
    (∀ M' p' cd' n' f', FrL x a M M' → Lk M' x a t p' cd' n' f' → (¬ f = 0 → f' = f) → (f = 0 → lE t (pSmL t j p cd n) f' p' cd' n') → Q M') →
    CI G (d + 6) 94 [.ref (x + 1), .int (43 : Int32), .int (45 : Int32)] M (fun v M' => LrAt M' (x + 18) (x + 1) a ∧ ((¬ v = (-1 : Int32) → (¬ v = (43 : Int32) → At G (d + 7) 36 4 [(0, .ref (x + 18)), (1, .int (200001 : Int32)), (2, .int (nI i + (1 : Int32)))] [] M' (qV Q)) ∧ (v = (43 : Int32) → At G (d + 7) 36 4 [(0, .ref (x + 18)), (1, .int (200000 : Int32)), (2, .int (nI i + (1 : Int32)))] [] M' (qV Q))) ∧ (v = (-1 : Int32) → Q M'))) := by
  induction j with
  | zero =>
    intro i p cd n f M e hi h b hQ
    have p4 := h.p4
    exact k_lsign h (by decide) (fun f0 => absurd (hi f0) (by omega)) (fun _ => ⟨fun y => absurd rfl y, fun _ => hQ M p cd n f FrL.refl h (fun _ => rfl) (fun f0 => absurd (hi f0) (by omega))⟩)
  | succ j ih =>
    intro i p cd n f M e hi h b hQ
    have p4 := h.p4
    refine k_lsign h (by decide) (fun f0 hp M1 r1 h1 => ?_) (fun hp => ⟨fun y => absurd rfl y, fun _ => hQ M p cd n f FrL.refl h (fun _ => rfl) (fun f0 => ?_)⟩)
    · subst f0
      have b := b rfl
      have hi := hi rfl
      have b2 := b.2
      have q := (pk_at (c := pk t p) rfl (by rcases hp with z | z <;> rw [z] <;> decide)).1
      have sk := skB_le (t := t) (p := p + 1) (by omega)
      have b1 : bd t (skB t (p + 1)) cd n := ⟨skB_id _ _, b2.1, by omega⟩
      have ne1 : ¬ pk t p = -1 := by rcases hp with z | z <;> rw [z] <;> decide
      have v := pTm_rom (cd := cd) p4.2 sk.2 b2.1
      have vg := pTm_gt (cd := cd) p4.2 sk.2 b2.1
      have vs := pTm_sk (cd := cd) p4.2 sk.2 b2.1
      have ep : pSmL t (j + 1) p cd n = cif ((pTm t (skB t (p + 1)) cd n).1 = 0) (pSmL t j (pTm t (skB t (p + 1)) cd n).2.1 ((pTm t (skB t (p + 1)) cd n).2.2.1 ++ [cif (pk t p = 43) 200000 200001]) (pTm t (skB t (p + 1)) cd n).2.2.2) (pTm t (skB t (p + 1)) cd n) := by
        rw [pSmL, cif_T hp]
      rw [ep] at hQ
      rw [nI_1]
      have go : ∀ c : Nat, 199999 < c → c < 200002 → c = cif (pk t p = 43) 200000 200001 → At G (d + 7) 36 4 [(0, .ref (x + 18)), (1, .int (nI c)), (2, .int (nI (i + 1)))] [] M1 (qV Q) := fun c c1 c2 hc => by
        have cn : ¬ nI c = (-1 : Int32) := nI_neN1 (by omega)
        refine c_X3_readSum_4 h1.1 ⟨fun y => absurd y (nI_ge (a := i + 1) (b := 400) (by omega) (by decide)), fun _ => ⟨fun y => absurd h1.tpe.ff y, fun _ => ?_⟩⟩
        refine k_term h1 b1 (fun M2 p2 cd2 n2 f2 i' r2 h2 e2 => ?_)
        generalize hV : pTm t (skB t (p + 1)) cd n = V at *
        have fin : CV G (d + 6) 22 [.ref a, .int (nI c)] M2 (fun M6 => LrAt M6 (x + 18) (x + 1) a ∧ CI G (d + 6) 94 [.ref (x + 1), .int (43 : Int32), .int (45 : Int32)] M6 (fun v8 M7 => LrAt M7 (x + 18) (x + 1) a ∧ ((¬ v8 = (-1 : Int32) → (¬ v8 = (43 : Int32) → At G (d + 7) 36 4 [(0, .ref (x + 18)), (1, .int (200001 : Int32)), (2, .int (nI (i + 1) + (1 : Int32)))] [] M7 (qV Q)) ∧ (v8 = (43 : Int32) → At G (d + 7) 36 4 [(0, .ref (x + 18)), (1, .int (200000 : Int32)), (2, .int (nI (i + 1) + (1 : Int32)))] [] M7 (qV Q))) ∧ (v8 = (-1 : Int32) → Q M7)))) := by
          refine k_add h2 (fun z => ?_) (fun M3 cd3 r3 h3 e3 => ?_)
          · have e2' := e2.2 z
            have v2 := v.2 (by rw [← e2.1]; exact z)
            rw [e2'.2.1]
            omega
          · refine ih (i + 1) p2 cd3 n2 f2 M3 (by omega) (fun z => ?_) h3 (fun z => ?_) (fun M' p' cd' n' f' r' h' n' e' => hQ M' p' cd' _ f' (r1.trans (r2.trans (r3.trans r'))) h' (fun z => absurd rfl z) (fun _ => ?_))
            · have e2' := e2.2 z
              have v2 := v.2 (by rw [← e2.1]; exact z)
              have g2 := vg (by rw [← e2.1]; exact z)
              have := (skB_le v2.2.1).1
              omega
            · have e2' := e2.2 z
              have v2 := v.2 (by rw [← e2.1]; exact z)
              have := (skB_le v2.2.1).1
              refine ⟨by rw [e2'.1]; exact skB_id _ _, by omega, ?_⟩
              rw [e3 z, e2'.2.1, List.length_append, List.length_singleton]
              omega
            · by_cases z : f2 = 0
              · have e2' := e2.2 z
                have s2 := vs (by rw [← e2.1]; exact z)
                rw [cif_T (by rw [← e2.1]; exact z)]
                have e5 := e' z
                rw [e2'.1, s2, e3 z, hc, e2'.2.1, e2'.2.2] at e5
                exact e5
              · rw [cif_F (by rw [← e2.1]; exact z)]
                rw [n' z]
                exact ⟨e2.1, fun y => absurd y z⟩
        exact c_X3_readSum_40 h2.1 ⟨fun _ => ⟨fun y => absurd y cn, fun _ => fin⟩, fun _ => ⟨fun _ => ⟨fun y => absurd y cn, fun _ => fin⟩, fun y => absurd rfl y⟩⟩
      exact ⟨fun _ => ⟨fun y => go 200001 (by omega) (by omega) (by rw [cif_F y]), fun y => go 200000 (by omega) (by omega) (by rw [cif_T y])⟩, fun y => absurd y ne1⟩
    · subst f0
      have b := b rfl
      have ep : pSmL t (j + 1) p cd n = (0, p, cd, n) := by
        rw [pSmL, cif_F (fun z => hp ⟨rfl, z⟩)]
      rw [ep]
      exact ⟨rfl, fun _ => ⟨b.1.symm, rfl, rfl⟩⟩
theorem k_readSum {Q : Mem → Prop} (h : Lk M x a t p cd n f) (b : f = 0 → bd t p cd n) (hq : ∀ M' p' cd' n' f', FrL x a M M' → Lk M' x a t p' cd' n' f' → lStp (pSm t p cd n) f f' p' cd' n' → (f' = 0 → bd t p' cd' n') → Q M') : CV G (d + 7) 36 [.ref (x + 18)] M (fun M' => LrAt M' (x + 18) (x + 1) a ∧ Q M') := by
  have p4 := h.p4
  have f4 := h.f4
  refine c_X3_readSum h.1 (c_X3_readSum_4 h.1 ⟨fun y => absurd y (by decide), fun _ => ?_⟩)
  rw [h.tpe.ff, il_0, eq_I (by omega) (by omega)]
  refine ⟨fun z => ⟨h.1, hq M p cd n f FrL.refl h ⟨fun _ => rfl, fun y => absurd y z⟩ (fun y => absurd y z)⟩, fun z => ?_⟩
  subst z
  have b := b rfl
  have b2 := b.2
  have v := pTm_rom (cd := cd) p4.2 p4.1 b2.1
  have vg := pTm_gt (cd := cd) p4.2 p4.1 b2.1
  have vs := pTm_sk (cd := cd) p4.2 p4.1 b2.1
  have sr := pSm_rom (cd := cd) p4.2 p4.1 b2.1
  have ss := pSm_sk (cd := cd) p4.2 p4.1 b2.1
  have ep : pSm t p cd n = cif ((pTm t p cd n).1 = 0) (pSmL t 401 (pTm t p cd n).2.1 (pTm t p cd n).2.2.1 (pTm t p cd n).2.2.2) (pTm t p cd n) := rfl
  refine k_term h b (fun M2 p2 cd2 n2 f2 i' r2 h2 e2 => ?_)
  have fin : CI G (d + 6) 94 [.ref (x + 1), .int (43 : Int32), .int (45 : Int32)] M2 (fun v8 M7 => LrAt M7 (x + 18) (x + 1) a ∧ ((¬ v8 = (-1 : Int32) → (¬ v8 = (43 : Int32) → At G (d + 7) 36 4 [(0, .ref (x + 18)), (1, .int (200001 : Int32)), (2, .int (nI 0 + (1 : Int32)))] [] M7 (qV (fun M' => LrAt M' (x + 18) (x + 1) a ∧ Q M'))) ∧ (v8 = (43 : Int32) → At G (d + 7) 36 4 [(0, .ref (x + 18)), (1, .int (200000 : Int32)), (2, .int (nI 0 + (1 : Int32)))] [] M7 (qV (fun M' => LrAt M' (x + 18) (x + 1) a ∧ Q M')))) ∧ (v8 = (-1 : Int32) → LrAt M7 (x + 18) (x + 1) a ∧ Q M7))) := by
    refine k_smL (Q := fun M' => LrAt M' (x + 18) (x + 1) a ∧ Q M') 401 0 p2 cd2 n2 f2 M2 rfl (fun z => ?_) h2 (fun z => ?_) (fun M' p' cd' n9 f' r' h' n' e' => ?_)
    · have e2' := e2.2 z
      have g2 := vg (by rw [← e2.1]; exact z)
      have s2 := vs (by rw [← e2.1]; exact z)
      rw [e2'.1, s2]
      omega
    · have e2' := e2.2 z
      have v2 := v.2 (by rw [← e2.1]; exact z)
      have := (skB_le v2.2.1).1
      refine ⟨by rw [e2'.1]; exact skB_id _ _, by omega, ?_⟩
      rw [e2'.2.1]
      omega
    · have le : lE t (pSm t p cd n) f' p' cd' n9 := by
        rw [ep]
        by_cases z : f2 = 0
        · have e2' := e2.2 z
          have s2 := vs (by rw [← e2.1]; exact z)
          rw [cif_T (by rw [← e2.1]; exact z)]
          have e5 := e' z
          rw [e2'.1, s2, e2'.2.1, e2'.2.2] at e5
          exact e5
        · rw [cif_F (by rw [← e2.1]; exact z), n' z]
          exact ⟨e2.1, fun y => absurd y z⟩
      refine ⟨h'.1, hq M' p' cd' n9 f' (r2.trans r') h' ⟨fun y => absurd rfl y, fun _ => ⟨le.1, fun y => ?_⟩⟩ (fun y => ?_)⟩
      · have u := le.2 y
        have s := ss (by rw [← le.1]; exact y)
        rw [u.1, s, u.2.1, u.2.2]
      · have u := le.2 y
        have s := ss (by rw [← le.1]; exact y)
        have w := sr.2 (by rw [← le.1]; exact y)
        rw [u.1, s, u.2.1, u.2.2]
        exact ⟨s, w.2.2.1, by omega⟩
  exact c_X3_readSum_40 h2.1 ⟨fun _ => ⟨fun _ => fin, fun y => absurd rfl y⟩, fun _ => ⟨fun _ => ⟨fun _ => fin, fun y => absurd rfl y⟩, fun y => absurd rfl y⟩⟩
end
