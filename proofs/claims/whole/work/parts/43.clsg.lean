/-! FRAMES with references: cells b + o (o in L) may change, the object at b keeps its references and the fields that are not in F, all other cells keep all -/
def Frv (b : Nat) (F L : List Nat) (M M' : Mem) : Prop :=
  mN M' = mN M ∧ mS M' = mS M ∧ mK M' = mK M ∧ mA M' = mA M ∧ (∀ a, a ≠ b → (∀ o ∈ L, a ≠ b + o) → same M M' a) ∧ vr M' b = vr M b ∧ ∀ k, k ∉ F → vi M' b k = vi M b k ∧ vl M' b k = vl M b k
section
variable {b : Nat} {F L F' L' : List Nat} {M M' M'' : Mem}
theorem Frv.refl : Frv b F L M M := ⟨rfl, rfl, rfl, rfl, fun _ _ _ => same.refl, rfl, fun _ _ => ⟨rfl, rfl⟩⟩
theorem Frv.trans (h : Frv b F L M M') (h2 : Frv b F L M' M'') : Frv b F L M M'' :=
  ⟨h2.1.trans h.1, h2.2.1.trans h.2.1, h2.2.2.1.trans h.2.2.1, h2.2.2.2.1.trans h.2.2.2.1, fun a h3 h4 => (h.2.2.2.2.1 a h3 h4).trans (h2.2.2.2.2.1 a h3 h4), h2.2.2.2.2.2.1.trans h.2.2.2.2.2.1, fun k hk => ⟨(h2.2.2.2.2.2.2 k hk).1.trans (h.2.2.2.2.2.2 k hk).1, (h2.2.2.2.2.2.2 k hk).2.trans (h.2.2.2.2.2.2 k hk).2⟩⟩
theorem Frv.sub (h : Frv b F L M M') (hF : ∀ o ∈ F, o ∈ F') (hL : ∀ o ∈ L, o ∈ L') : Frv b F' L' M M' :=
  ⟨h.1, h.2.1, h.2.2.1, h.2.2.2.1, fun a h3 h4 => h.2.2.2.2.1 a h3 (fun o ho => h4 o (hL o ho)), h.2.2.2.2.2.1, fun k hk => h.2.2.2.2.2.2 k (fun z => hk (hF k z))⟩
theorem Frl.v (h : Frl b F L M M') (h0 : 0 ∉ L) : Frv b F L M M' :=
  ⟨h.1, h.2.1, h.2.2.1, h.2.2.2.1, fun a h3 h4 => ⟨by funext k; exact (h.2.2.2.2.2 a k (fun e => absurd e h3) h4).1, by funext k; exact (h.2.2.2.2.2 a k (fun e => absurd e h3) h4).2, by rw [h.2.2.2.2.1]⟩, by rw [h.2.2.2.2.1],
    fun k hk => h.2.2.2.2.2 b k (fun _ => hk) (fun o ho e => h0 (by have e2 : o = 0 := by omega
                                                                    exact e2 ▸ ho))⟩
theorem Frv.c (h : Frv b F L M M') {o : Nat} (ho : o ∉ L) (h0 : 0 < o) : same M M' (b + o) := by
  refine h.2.2.2.2.1 _ (by omega) (fun q hq e => ho ?_)
  have e2 : o = q := by omega
  exact e2 ▸ hq
theorem Frv.f (h : Frv b F L M M') {k : Nat} (hk : k ∉ F) : vi M' b k = vi M b k := (h.2.2.2.2.2.2 k hk).1
theorem Frv.fl (h : Frv b F L M M') {k : Nat} (hk : k ∉ F) : vl M' b k = vl M b k := (h.2.2.2.2.2.2 k hk).2
theorem Frv.si {k o : Nat} {x : Int32} (ho : o ∈ L) (h0 : 0 < o) : Frv b F L M (seti M (b + o) k x) :=
  ⟨rfl, rfl, rfl, rfl, fun a h3 h4 => ⟨by funext j; rw [vi_seti, if_neg (fun e => h4 o ho e.1)], rfl, rfl⟩, rfl, fun j _ => ⟨by rw [vi_seti, if_neg (fun e => by omega)], rfl⟩⟩
theorem Frv.sl {k o : Nat} {x : Int64} (ho : o ∈ L) (h0 : 0 < o) : Frv b F L M (setl M (b + o) k x) :=
  ⟨rfl, rfl, rfl, rfl, fun a h3 h4 => ⟨rfl, by funext j; rw [vl_setl, if_neg (fun e => h4 o ho e.1)], rfl⟩, rfl, fun j _ => ⟨rfl, by rw [vl_setl, if_neg (fun e => by omega)]⟩⟩
theorem Frv.sr {k o : Nat} {x : Option Nat} (ho : o ∈ L) (h0 : 0 < o) : Frv b F L M (setr M (b + o) k x) :=
  ⟨rfl, rfl, rfl, rfl, fun a h3 h4 => ⟨rfl, rfl, by funext j; rw [vr_setr, if_neg (fun e => h4 o ho e.1)]⟩, by funext j; rw [vr_setr, if_neg (fun e => by omega)], fun j _ => ⟨rfl, rfl⟩⟩
theorem Frv.sf {k : Nat} {x : Int32} (hk : k ∈ F) : Frv b F L M (seti M b k x) :=
  ⟨rfl, rfl, rfl, rfl, fun a h3 h4 => ⟨by funext j; rw [vi_seti, if_neg (fun e => h3 e.1)], rfl, rfl⟩, rfl, fun j hj => ⟨by rw [vi_seti, if_neg (fun e => hj (by rw [e.2]; exact hk))], rfl⟩⟩
theorem Frv.sfl {k : Nat} {x : Int64} (hk : k ∈ F) : Frv b F L M (setl M b k x) :=
  ⟨rfl, rfl, rfl, rfl, fun a h3 h4 => ⟨rfl, by funext j; rw [vl_setl, if_neg (fun e => h3 e.1)], rfl⟩, rfl, fun j hj => ⟨rfl, by rw [vl_setl, if_neg (fun e => hj (by rw [e.2]; exact hk))]⟩⟩
theorem Frv.ob {c : Nat} (h : Frv b F L M M') (O : ObAt c M b) : ObAt c M' b := by
  unfold ObAt
  rw [h.2.2.1, h.2.2.2.1, h.2.2.2.2.2.1]
  exact O
theorem Frv.ob2 {c a : Nat} (h : Frv b F L M M') (h3 : a ≠ b) (h4 : ∀ o ∈ L, a ≠ b + o) (O : ObAt c M a) : ObAt c M' a := by
  unfold ObAt
  rw [h.2.2.1, h.2.2.2.1, (h.2.2.2.2.1 a h3 h4).2.2]
  exact O
/-- a frame of a part is one of the whole -/
theorem Frv.up {x i : Nat} (h : Frv (x + i) F L M M') (hi : 0 < i) (hx : 0 ∉ L) (hL : ∀ o ∈ L, i + o ∈ L') (h0 : i ∈ L') : Frv x F' L' M M' :=
  ⟨h.1, h.2.1, h.2.2.1, h.2.2.2.1, fun a h3 h4 => h.2.2.2.2.1 a (fun e => h4 i h0 e) (fun o ho e => h4 (i + o) (hL o ho) (by omega)), (h.2.2.2.2.1 x (by omega) (fun o ho e => by omega)).2.2, fun k _ => ⟨by rw [(h.2.2.2.2.1 x (by omega) (fun o ho e => by omega)).1], by rw [(h.2.2.2.2.1 x (by omega) (fun o ho e => by omega)).2.1]⟩⟩
end
section
variable {G : GT} {d : Nat} {w : Nat → Nat} {M M' : Mem} {x c : Nat} {T : StT} {Q : Int32 → Mem → Prop}
theorem Frv.km {F L : List Nat} (f : Frv x F L M M') (ow : xOw w x) (hL : ∀ o ∈ L, o < 19) : keepM w M M' := fun b hb _ => by
  have o0 : ∀ o, o < 19 → b ≠ x + o := fun o ho e => by have := ow.1 o (by omega) (by omega); rw [← e] at this; omega
  exact ⟨f.2.2.2.2.1 b (fun e => o0 0 (by decide) e) (fun o ho => o0 o (hL o ho)), by rw [f.2.2.1], by rw [f.2.2.2.1]⟩
theorem Frv.cu {F L : List Nat} (f : Frv x F L M M') (hL : ∀ o ∈ L, o < 55) : Cu x M M' :=
  ⟨fun a h1 h2 => ⟨f.2.2.2.2.1 a (by omega) (fun o ho e => by have := hL o ho; omega), by rw [f.2.2.1], by rw [f.2.2.2.1]⟩, by rw [f.1]; omega, by rw [f.2.1]; omega⟩
/-- as XC.updF, references of the sheet's arrays changed, too -/
theorem XC.updV {T' : StT} {c' : Nat} {F L : List Nat} (h : XC w M x T c) (f : Frv x F L M M') (hL : ∀ o ∈ L, 1 ≤ o ∧ o ≤ 11) (hF : ∀ k ∈ F, k = 13) (hr : vr M' (x + 1) = vr M (x + 1) ∧ vr M' (x + 3) = vr M (x + 3))
    (hT : T'.2.2 = T.2.2) (V : okS (sh T')) (t4 : tN T' ≤ 400) (tk : ∀ k, k < tN T' → 0 ≤ (tB T' k).toInt ∧ (tB T' k).toInt ≤ 255) (t1 : vi M' (x + 1) 1 = nI (tN T')) (t2 : ∀ k, k < tN T' → vi M' (x + 2) k = tB T' k) (hS : cSh w M' (x + 3) (sh T'))
    (hc : (c' = c ∧ sh T' = sh T) ∨ c' = c + 1) (hc1 : c' < 1000000) (hc2 : vi M' x 13 = nI c') : XC w M' x T' c' := by
  have off : ∀ a, w a ≠ 0 → a ≠ x ∧ ∀ o ∈ L, a ≠ x + o := fun a ha => by
    refine ⟨fun e => ?_, fun o ho e => ?_⟩
    · have := h.ow.1 0 (by decide) (by decide)
      rw [Nat.add_zero, ← e] at this; omega
    · have h1 := hL o ho
      have := h.ow.1 o (by omega) (by omega)
      rw [← e] at this; omega
  exact h.upd f.1 f.2.2.1 f.2.2.2.1 (fun a ha => f.2.2.2.2.1 a (off a (by omega)).1 (off a (by omega)).2) (fun i h1 h2 => f.2.2.2.2.1 _ (by omega) (fun o ho e => by have := hL o ho; omega)) ⟨f.2.2.2.2.2.1, fun k hk => f.f (fun z => hk (hF k z))⟩ hr hT V t4 tk t1 t2 hS hc hc1 hc2
theorem k_takeGalley {n : Nat} {t : Nat → Int32} {a b : Nat} {Q : Mem → Prop} (O : ObAt 8 M a) (n2 : n ≤ 200) (hb : mK M b = 15) (lb : mA M b = 400) (ht : ∀ k, k < n → vi M b k = t k) (nb : b ≠ a ∧ b ≠ a + 1)
    (hq : ∀ M', Frv a [1] [1, 4, 5] M M' → vi M' a 1 = nI n → (∀ k, k < n → vi M' (a + 1) k = t k) → (∀ i, i < 4 → vi M' (a + 4) i = 0) → (∀ s, s < 64 → vr M' (a + 5) s = none) → Q M') : CV G (d + 2) 75 [.ref a, .ref b, .int (nI n)] M Q := by
  refine c_X8_takeGalley O ?_
  rw [show (200 : Int32) = nI 200 from rfl, if_neg (by rw [lt_I (by omega) (by omega)]; omega)]
  intro M0 e0
  have lp2 : ∀ (m i : Nat) (M1 : Mem), m + i = 64 → Frv a [1] [1, 4, 5] M M1 → vi M1 a 1 = nI n → (∀ k, k < n → vi M1 (a + 1) k = t k) → (∀ s, s < i → vr M1 (a + 5) s = none) → At G (d + 2) 75 44 [(0, .ref a), (3, .int (nI i))] [] M1 (qV Q) := by
    intro m
    induction m with
    | zero => 
      intro i M1 h1 f h2 h3 h4
      have l4 := ob8_l5 (f.ob O)
      refine c_X8_takeGalley_44 (a1 := 0) (f.ob O) ⟨fun _ => k_fill (b := a) (F := []) (L := [4]) (o := 4) rfl (by decide) (ob8_k5 (f.ob O)) (by rw [l4]; decide) (fun M2 f2 h5 h6 => ?_), fun c => absurd (show (64 : Int32) ≤ nI i from nI_le (a := 64) (by omega) (by omega)) c⟩
      have f2v := (f2.v (by decide)).sub (F' := [1]) (L' := [1, 4, 5]) (by decide) (by decide)
      have g := f.trans f2v
      rw [l4] at h5
      refine ⟨g.ob O, hq M2 g ?_ (fun k hk => ?_) (fun j hj => h5 j hj) (fun s hs => ?_)⟩
      · rw [(h6 a (by omega)).1]; exact h2
      · rw [(h6 (a + 1) (by omega)).1]; exact h3 k hk
      · rw [(h6 (a + 5) (by omega)).2.2]; exact h4 s (by omega)
    | succ m ih => 
      intro i M1 h1 f h2 h3 h4
      refine c_X8_takeGalley_44 (a1 := 0) (f.ob O) ⟨fun c => absurd c (nI_ge (a := i) (b := 64) (by omega) (by decide)), fun _ => ⟨vp_in_nI (by omega) (by omega), ?_⟩⟩
      rw [nI_clamp (by omega), nI_1]
      intro M2 e2
      refine ih (i + 1) M2 (by omega) ?_ ?_ (fun k hk => ?_) (fun s hs => ?_)
      · rw [e2]; exact f.trans (Frv.sr (by decide) (by decide))
      · rw [e2, vi_setr]; exact h2
      · rw [e2, vi_setr]; exact h3 k hk
      · rw [e2, vr_setr]
        by_cases z : s = i
        · rw [if_pos ⟨rfl, z⟩]
        · rw [if_neg (fun h => z h.2)]; exact h4 s (by omega)
  have lp1 : ∀ (m i : Nat) (M1 : Mem), m + i = n → Frv a [1] [1, 4, 5] M M1 → vi M1 a 1 = nI n → (∀ k, k < i → vi M1 (a + 1) k = t k) → vi M1 b = vi M b → At G (d + 2) 75 13 [(0, .ref a), (1, .ref b), (3, .int (nI i))] [] M1 (qV Q) := by
    intro m
    induction m with
    | zero => 
      intro i M1 h1 f h2 h3 h4
      refine c_X8_takeGalley_13 (f.ob O) ?_
      rw [h2]
      exact ⟨fun _ => lp2 64 0 M1 rfl f h2 (fun k hk => h3 k (by omega)) (fun s hs => absurd hs (by omega)), fun c => absurd (nI_le (by omega) (by omega)) c⟩
    | succ m ih => 
      intro i M1 h1 f h2 h3 h4
      refine c_X8_takeGalley_13 (f.ob O) ?_
      rw [h2, f.2.2.1, f.2.2.2.1, hb, lb]
      refine ⟨fun c => absurd c (nI_ge (by omega) (by omega)), fun _ => ⟨by decide, fun c => absurd c (nI_ge (by omega) (by omega)), fun _ => ⟨rfl, vp_in_nI (by omega) (by omega), vp_in_nI (by omega) (by omega), ?_⟩⟩⟩
      rw [nI_clamp (by omega), nI_1, h4, ht i (by omega)]
      intro M2 e2
      refine ih (i + 1) M2 (by omega) ?_ ?_ (fun k hk => ?_) ?_
      · rw [e2]; exact f.trans (Frv.si (by decide) (by decide))
      · rw [e2, vi_seti, if_neg (by omega)]; exact h2
      · rw [e2, vi_seti]
        by_cases z : k = i
        · rw [if_pos ⟨rfl, z⟩, z]
        · rw [if_neg (fun h => z h.2)]; exact h3 k (by omega)
      · rw [e2]; funext j; rw [vi_seti, if_neg (fun h => nb.2 h.1), h4]
  refine lp1 n 0 M0 (by omega) ?_ ?_ (fun k hk => absurd hk (by omega)) ?_
  · rw [e0]; exact Frv.sf (by decide)
  · rw [e0, vi_seti, if_pos ⟨rfl, rfl⟩]
  · rw [e0]; funext j; rw [vi_seti, if_neg (fun h => nb.1 h.1)]
theorem k_galley (h : XC w M x T c) (hc : c + 1 < 1000000) (hq : ∀ M' c', XC w M' x (u_gal T) c' → c' ≤ c + 1 → Cu x M M' → Q (f_gal T) M') : CI G (d + 3) 111 [.ref x] M Q := by
  have t4 := h.t4
  have W := h.cs
  have V := W.2.1
  have X := h.1
  unfold u_gal f_gal at hq
  refine c_X11_galley X (k_firstWrong X.2.1 (t := T.1) ⟨h.t, fun k hk => h.tb hk⟩ t4 ⟨X, ?_⟩)
  intro M3 e3
  have h3 : XC w M3 x (v_end T 0) c := by rw [e3]; exact h.tape0 (Nat.zero_le _)
  have f3 : Frl x [] [1] M M3 := by rw [e3]; exact Frl.si (by decide)
  rw [h.t]
  by_cases z : wrg T.1 < tN T
  · rw [cif_T z, cif_T z] at hq
    rw [cif_T (show wrg T.1 < T.1.1 from z)]
    refine ⟨fun c2 => absurd c2 ?_, fun _ => hq M3 c h3 (by omega) (f3.cu (by decide))⟩
    rw [il_m1, nm_eq (by decide) (by decide) (by omega)]
    exact fun h => h
  · rw [cif_F z, cif_F z] at hq
    rw [cif_F (show ¬ wrg T.1 < T.1.1 from z)]
    refine ⟨fun _ => ?_, fun c2 => absurd rfl c2⟩
    have ok := wrg_ok (t := T.1) z
    have n2 : tN T ≤ 200 := ok.1
    refine k_takeGalley (t := tB T) h3.1.2.2.1 n2 (ob9_k0 h3.1.2.1) (ob9_l0 h3.1.2.1) (fun k hk => ?_) ⟨by omega, by omega⟩ (fun M4 f4 r4 r5 r6 r7 => ?_)
    · rw [show x + 1 + 1 = x + 2 from rfl, f3.i (by decide) (by decide)]; exact h.tb hk
    · have u4 : Frv x [13] [1, 3, 4, 7, 8] M3 M4 := f4.up (by decide) (by decide) (by decide) (by decide)
      have X4 : XAt M4 x := by
        have X3 := h3.1
        have z : ∀ {q i : Nat}, ObAt q M3 (x + i) → 0 < i → i ∉ [1, 3, 4, 7, 8] ∨ i = 3 ∨ i = 1 → ObAt q M4 (x + i) := fun O hi hz => by
          unfold ObAt
          rw [u4.2.2.1, u4.2.2.2.1]
          rcases hz with hz | hz | hz
          · rw [(u4.c hz hi).2.2]; exact O
          · subst hz; rw [f4.2.2.2.2.2.1]; exact O
          · subst hz; rw [(f4.2.2.2.2.1 (x + 1) (by omega) (fun o ho e => by omega)).2.2]; exact O
        exact ⟨u4.ob X3.1, z X3.2.1 (by decide) (by decide), z X3.2.2.1 (by decide) (by decide), z X3.2.2.2.1 (by decide) (by decide), by rw [u4.2.2.1]; exact X3.2.2.2.2.1, z X3.2.2.2.2.2.1 (by decide) (by decide), z X3.2.2.2.2.2.2.1 (by decide) (by decide), z X3.2.2.2.2.2.2.2.1 (by decide) (by decide), z X3.2.2.2.2.2.2.2.2.1 (by decide) (by decide), z X3.2.2.2.2.2.2.2.2.2 (by decide) (by decide)⟩
      refine ⟨X4, ?_⟩
      intro M5 e5
      have r13 : vi M4 x 13 = nI c := by
        rw [(f4.2.2.2.2.1 x (by omega) (fun o ho e => by omega)).1]; exact h3.ch
      rw [r13, nI_1] at e5
      have u5 : Frv x [13] [1, 3, 4, 7, 8] M M5 := by
        refine ((f3.v (by decide)).sub (by decide) (by decide)).trans (u4.trans ?_)
        rw [e5]; exact Frv.sf (by decide)
      refine hq M5 (c + 1) ?_ (by omega) (u5.cu (by decide))
      have V2 : okS (sh (v_gal T)) := ⟨n2, fun k hk => ok.2 k hk, V.2.2.1, V.2.2.2.1, V.2.2.2.2.1, V.2.2.2.2.2.1, fun h => Nat.zero_le 16, fun h hh => rfl, fun s hs => absurd hs.2 (Nat.not_lt_zero _), V.2.2.2.2.2.2.2.2.2⟩
      have s5 : ∀ a, a ≠ x → same M4 M5 a := fun a ha => by rw [e5]; exact ⟨by funext j; rw [vi_seti, if_neg (fun e => ha e.1)], rfl, rfl⟩
      have sh3 : ∀ k, k ≠ 1 → vi M5 (x + 3) k = vi M (x + 3) k := fun k hk => by
        rw [(s5 (x + 3) (by omega)).1, f4.f (by simp; exact hk), f3.i (by decide) (by decide)]
      have t5 : vi M5 (x + 1) 1 = nI 0 := by
        rw [(s5 (x + 1) (by omega)).1, (f4.2.2.2.2.1 (x + 1) (by omega) (fun o ho e => by omega)).1, e3, vi_seti, if_pos ⟨rfl, rfl⟩]; rfl
      refine h.updV u5 (by decide) (by decide) ⟨?_, ?_⟩ rfl V2 (Nat.zero_le _) (fun k hk => absurd hk (Nat.not_lt_zero k)) t5 (fun k hk => absurd hk (Nat.not_lt_zero k)) ?_ (Or.inr rfl) hc ?_
      · rw [(s5 (x + 1) (by omega)).2.2, (f4.2.2.2.2.1 (x + 1) (by omega) (fun o ho e => by omega)).2.2, f3.2.2.2.2.1]
      · rw [(s5 (x + 3) (by omega)).2.2, f4.2.2.2.2.2.1, f3.2.2.2.2.1]
      · refine ⟨⟨?_, ?_, ?_⟩, fun k hk => ?_, fun k hk => ?_, fun k hk => ?_, fun k hk => ?_, fun s hs => ⟨fun im => absurd im.2 (Nat.not_lt_zero _), fun _ => ?_⟩, fun k hk => ?_, fun s hs => absurd hs.2 (Nat.not_lt_zero _), fun s hs => absurd hs.2 (Nat.not_lt_zero _)⟩
        · rw [(s5 (x + 3) (by omega)).1]; exact r4
        · rw [sh3 3 (by decide)]; exact W.ww
        · rw [sh3 6 (by decide)]; exact W.h
        · rw [(s5 (x + 3 + 1) (by omega)).1]; exact r5 k hk
        · rw [show x + 3 + 2 = x + 5 from rfl, (u5.c (by decide) (by decide)).1]; exact W.wb hk
        · rw [show x + 3 + 3 = x + 6 from rfl, (u5.c (by decide) (by decide)).1]; exact W.r hk
        · show vi M5 (x + 3 + 4) k = nI 0
          rw [(s5 (x + 3 + 4) (by omega)).1]; exact r6 k hk
        · rw [(s5 (x + 3 + 5) (by omega)).2.2]; exact r7 s hs
        · rw [show x + 3 + 6 = x + 9 from rfl, (u5.c (by decide) (by decide)).1]; exact W.k hk
      · rw [e5, vi_seti, if_pos ⟨rfl, rfl⟩]
end
