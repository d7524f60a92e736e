/-! IMAGES: image and back of the class -/
section
variable {G : GT} {d : Nat} {w : Nat → Nat} {M M' : Mem} {x c : Nat} {T : StT} {Q : Int32 → Mem → Prop}
/-- cells of an image are not those of the sheet -/
theorem img_ap {b k : Nat} (ow : xOw w x) (hb : ∀ i, i < 9 → w (b + i) = 10 + k) : b + 9 ≤ x + 3 ∨ x + 3 + 9 ≤ b := by
  rcases Nat.lt_or_ge (x + 3) (b + 9) with z | z
  · rcases Nat.lt_or_ge b (x + 3 + 9) with y | y
    · exfalso
      rcases Nat.lt_or_ge b (x + 3) with u | u
      · have h1 := hb (x + 3 - b) (by omega)
        rw [show b + (x + 3 - b) = x + 3 by omega, ow.1 3 (by decide) (by decide)] at h1
        omega
      · have h1 := hb 0 (by decide)
        have h2 := ow.1 (b - x) (by omega) (by omega)
        rw [show x + (b - x) = b + 0 by omega, h1] at h2
        omega
    · exact Or.inr y
  · exact Or.inl z
theorem k_back {k : Int32} (h : XC w M x T c) (hc : c + 1 < 1000000) (hq : ∀ M' c', XC w M' x (u_back T k) c' → c' ≤ c + 1 → Cu x M M' → Q (f_back T k) M') : CI G (d + 2) 140 [.ref x, .int k] M Q := by
  have X := h.1
  unfold u_back f_back at hq
  have no : ¬ iOk k → Q (-1) M := fun n => by
    rw [cif_F n, cif_F n] at hq
    exact hq M c h (by omega) Cu.refl
  refine c_X11_back X ?_
  rw [fb_lt0, fa_lt k 4, show (4 : Int32).toInt = 4 from rfl]
  refine ⟨fun c1 => no (fun z => by have := z.1; omega), fun c1 => ⟨fun c2 => ?_, fun c2 => no (fun z => by have := z.2; omega)⟩⟩
  have y : iOk k := ⟨by omega, c2⟩
  rw [cif_T y, cif_T y] at hq
  obtain ⟨i, hi, e⟩ := asN (N := 4) y.1 y.2
  subst e
  rw [nI_clamp (by omega)] at hq ⊢
  have q := h.dy.2.2.2 i hi
  cases hS : iM T i with
  | none => 
    rw [hS] at hq
    refine ⟨vp_in_nI hi (by omega), fun r e => (by rw [q.1 hS] at e; cases e), fun _ => hq M c h (by omega) Cu.refl⟩
  | some S => 
    rw [hS] at hq
    obtain ⟨b, b1, b2, b3, b4⟩ := q.2 S hS
    have V := h.2.2.1.2.2.2.2.2 i S hi hS
    refine ⟨vp_in_nI hi (by omega), fun r e => ?_, fun e => (by rw [b1] at e; cases e)⟩
    have er : r = b := some_inj b1 e
    subst er
    have ap := img_ap h.ow b4
    refine k_copyFrom X.2.2.1 b2 (by omega) b3.mk (fun M2 f2 cp => ?_)
    have u2 : Frv x [13] [3, 4, 5, 6, 7, 8, 9, 10, 11] M M2 := f2.up (by decide) (by decide) (by decide) (by decide)
    have X2 : XAt M2 x := by
      have z : ∀ {q i : Nat}, ObAt q M (x + i) → 0 < i → i ∉ [3, 4, 5, 6, 7, 8, 9, 10, 11] ∨ i = 3 → ObAt q M2 (x + i) := fun O hi hz => by
        unfold ObAt
        rw [u2.2.2.1, u2.2.2.2.1]
        rcases hz with hz | hz
        · rw [(u2.c hz hi).2.2]; exact O
        · subst hz; rw [f2.2.2.2.2.2.1]; exact O
      exact ⟨u2.ob X.1, z X.2.1 (by decide) (by decide), z X.2.2.1 (by decide) (by decide), z X.2.2.2.1 (by decide) (by decide), by rw [u2.2.2.1]; exact X.2.2.2.2.1, z X.2.2.2.2.2.1 (by decide) (by decide), z X.2.2.2.2.2.2.1 (by decide) (by decide), z X.2.2.2.2.2.2.2.1 (by decide) (by decide), z X.2.2.2.2.2.2.2.2.1 (by decide) (by decide), z X.2.2.2.2.2.2.2.2.2 (by decide) (by decide)⟩
    refine ⟨X2, ?_⟩
    intro M3 e3
    have r13 : vi M2 x 13 = nI c := by
      rw [(f2.2.2.2.2.1 x (by omega) (fun o ho e => by omega)).1]; exact h.ch
    rw [r13, nI_1] at e3
    have s3 : ∀ a, a ≠ x → same M2 M3 a := fun a ha => by rw [e3]; exact ⟨by funext j; rw [vi_seti, if_neg (fun e => ha e.1)], rfl, rfl⟩
    have u3 : Frv x [13] [3, 4, 5, 6, 7, 8, 9, 10, 11] M M3 := u2.trans (by rw [e3]; exact Frv.sf (by decide))
    have sh2 : cSh w M2 (x + 3) S := cp.sh h.2.1 V b3 (u2.km h.ow (by decide))
    have sh3 : cSh w M3 (x + 3) S := by
      refine sh2.keep (M := M2) ?_ (fun a ha _ => ⟨s3 a (fun e => ?_), by rw [e3]; rfl, by rw [e3]; rfl⟩) (fun j hj => s3 _ (by omega))
      · intro a ha
        rw [u2.2.2.1]; exact h.2.1 a (by rw [← u2.1]; exact ha)
      · have := h.ow.1 0 (by decide) (by decide)
        rw [Nat.add_zero, ← e] at this; omega
    rw [sh3.1.1]
    refine hq M3 (c + 1) ?_ (by omega) (u3.cu (by decide))
    refine h.updV u3 (by decide) (by decide) ⟨?_, ?_⟩ rfl V h.t4 (fun k hk => h.tk hk) ?_ (fun k hk => ?_) sh3 (Or.inr rfl) hc ?_
    · rw [(u3.c (o := 1) (by decide) (by decide)).2.2]
    · rw [(s3 (x + 3) (by omega)).2.2, f2.2.2.2.2.2.1]
    · rw [(u3.c (o := 1) (by decide) (by decide)).1]; exact h.t
    · rw [(u3.c (o := 2) (by decide) (by decide)).1]; exact h.tb hk
    · rw [e3, vi_seti, if_pos ⟨rfl, rfl⟩]
/-- an image's cells are filled -/
theorem k_fillImg {i b : Nat} {M0 : Mem} {Q : Mem → Prop} (h : XC w M0 x T c) (hi : i < 4) (hs0 : ∀ a, a ≠ x + 12 → same M0 M a) (hK0 : mK M = mK M0) (hA0 : mA M = mA M0) (hN0 : mN M = mN M0) (hS0 : mS M = mS M0) (h12 : ∀ j, vr M (x + 12) j = if j = i then some b else vr M0 (x + 12) j) (hb : ObAt 8 M b) (b4 : ∀ j, j < 9 → w (b + j) = 10 + i)
    (hq : ∀ M', XC w M' x (v_image T i) c → Cu x M0 M' → mN M' = mN M0 → mS M' = mS M0 → Q M') : CV G (d + 1) 74 [.ref b, .ref (x + 3)] M Q := by
  have X := h.1
  have ap := img_ap h.ow b4
  have w12 := h.ow.1 12 (by decide) (by decide)
  have km0 : keepM w M0 M := fun a ha _ => ⟨hs0 a (fun e => by rw [e, w12] at ha; omega), by rw [hK0], by rw [hA0]⟩
  have A : ObAt 8 M (x + 3) := ob_vr X.2.2.1 hK0 hA0 (hs0 _ (by omega)).2.2
  have sh0 : cSh w M (x + 3) (sh T) := h.cs.2.2.keep h.2.1 km0 (fun j hj => hs0 _ (by omega))
  have F : frM M := fun a ha => by rw [hK0]; exact h.2.1 a (by rw [← hN0]; exact ha)
  refine k_copyFrom hb A (by omega) sh0.mk (fun M2 f2 cp => ?_)
  have off : ∀ a, w a ≠ 10 + i → same M M2 a := fun a ha => by
    refine f2.2.2.2.2.1 a (fun e => ha ?_) (fun o ho e => ha ?_)
    · have := b4 0 (by decide); rw [Nat.add_zero] at this; rw [e]; exact this
    · have ho2 : o < 9 := by
        have key : ∀ o ∈ [1, 2, 3, 4, 5, 6, 7, 8], o < 9 := by decide
        exact key o ho
      rw [e]; exact b4 o ho2
  have km : keepM w M M2 := fun a ha _ => ⟨off a (by omega), by rw [f2.2.2.1], by rw [f2.2.2.2.1]⟩
  have kk : mK M2 = mK M0 ∧ mA M2 = mA M0 ∧ mN M2 = mN M0 ∧ mS M2 = mS M0 := ⟨by rw [f2.2.2.1, hK0], by rw [f2.2.2.2.1, hA0], by rw [f2.1, hN0], by rw [f2.2.1, hS0]⟩
  refine hq M2 (h.img hi kk.2.2.1 kk.1 kk.2.1 (fun a ha h2 => (hs0 a h2).trans (off a ha)) (fun j => ?_) ⟨f2.ob hb, cp.sh F h.cs.2.1 sh0 km, b4⟩) ⟨fun a h1 h2 => ⟨(hs0 a (by omega)).trans (off a ?_), by rw [kk.1], by rw [kk.2.1]⟩, by rw [kk.2.2.1]; omega, by rw [kk.2.2.2]; omega⟩ kk.2.2.1 kk.2.2.2
  · rw [(off (x + 12) (by rw [w12]; omega)).2.2]
    exact h12 j
  · have := h.ow.2 (a - (x + 55)) (by omega)
    rw [show x + 55 + (a - (x + 55)) = a by omega] at this
    omega
theorem arr8 : (arrs l_X8).length = 8 := by decide
theorem sum8 : sumN l_X8 = 607 := by decide
/-- what a new object with arrays is like -/
theorem new_same {K n : Nat} (hM : M' = mnew M K n) : ∀ a, a < mN M → same M M' a ∧ mK M' a = mK M a ∧ mA M' a = mA M a := fun a ha => by
  rw [hM]
  exact ⟨⟨by rw [vi_mnew, if_neg (by omega)], by rw [vl_mnew, if_neg (by omega)], by rw [vr_mnew, if_neg (by omega)]⟩, by rw [mK_mnew, if_neg (by omega)], by rw [mA_mnew, if_neg (by omega)]⟩
theorem BS.new {K n : Nat} {M3 M4 : Mem} {l : List (Nat × Nat × Nat)} (hM : M3 = mnew M K n) (B : BS (mN M) l M3 M4) : (∀ a, a < mN M → same M M4 a ∧ mK M4 a = mK M a ∧ mA M4 a = mA M a) ∧ mN M4 = mN M + 1 + (arrs l).length ∧ mS M4 = mS M + n + sumN l := by
  have N3 : mN M3 = mN M + 1 := by rw [hM]; rfl
  have S3 : mS M3 = mS M + n := by rw [hM]; rfl
  refine ⟨fun a ha => ?_, by rw [B.1, N3], by rw [B.2.1, S3]⟩
  have z := B.2.2.1 a (by omega) (by omega)
  have y := new_same hM a ha
  exact ⟨y.1.trans z.1, z.2.1.trans y.2.1, z.2.2.trans y.2.2⟩
theorem k_new8 {M3 : Mem} {Q : Mem → Prop} (F : frM M) (hM : M3 = mnew M 9 11) (hq : ∀ M4, ObAt 8 M4 (mN M) → mN M4 = mN M + 9 → mS M4 = mS M + 618 → (∀ a, a < mN M → same M M4 a ∧ mK M4 a = mK M a ∧ mA M4 a = mA M a) → frM M4 → BS (mN M) l_X8 M3 M4 → Q M4) : CV G (d + 1) 73 [.ref (mN M)] M3 Q := by
  have O3 : mK M3 (mN M) = 9 := by rw [hM, mK_mnew, if_pos rfl]
  have F3 : frM M3 := by rw [hM]; exact fr_mnew F
  have N3 : mN M3 = mN M + 1 := by rw [hM]; rfl
  have B := bld_spec (o := mN M) l_X8 M3 (by omega) F3 nd_X8
  have z := B.new hM
  exact ki_X8 O3 F3 (by omega) (hq _ (B.ob O3 N3 tb_X8) (by rw [z.2.1, arr8]) (by rw [z.2.2, sum8]) z.1 B.2.2.2.2.2.2.2.2 B)
theorem k_image {k : Int32} (h : XC w M x T c) (hq : ∀ M' w', XC w' M' x (u_image T k) c → Cu x M M' → Q (f_image T k) M') : CI G (d + 2) 139 [.ref x, .int k] M Q := by
  have X := h.1
  have F := h.2.1
  unfold u_image f_image at hq
  have no : ¬ iOk k → Q (-1) M := fun n => by
    rw [cif_F n, cif_F n] at hq
    exact hq M w h Cu.refl
  refine c_X11_image X F ?_
  rw [fb_lt0, fa_lt k 4, show (4 : Int32).toInt = 4 from rfl]
  refine ⟨fun c1 => no (fun z => by have := z.1; omega), fun c1 => ⟨fun c2 => ?_, fun c2 => no (fun z => by have := z.2; omega)⟩⟩
  have y : iOk k := ⟨by omega, c2⟩
  rw [cif_T y, cif_T y] at hq
  obtain ⟨i, hi, e⟩ := asN (N := 4) y.1 y.2
  subst e
  rw [nI_clamp (by omega)] at hq ⊢
  have q := h.dy.2.2.2 i hi
  cases hS : iM T i with
  | some S => 
    obtain ⟨b, b1, b2, b3, b4⟩ := q.2 S hS
    refine ⟨vp_in_nI hi (by omega), fun r e => ?_, fun e => (by rw [b1] at e; cases e)⟩
    have er : r = b := some_inj b1 e
    subst er
    refine ⟨b2.1, k_fillImg h hi (fun a _ => same.refl) rfl rfl rfl rfl (fun j => ?_) b2 b4 (fun M2 h2 u2 _ _ => ⟨⟨h2.1, h2.2.1⟩, ?_⟩)⟩
    · by_cases z : j = i
      · rw [if_pos z, z, b1]
      · rw [if_neg z]
    rw [h2.cs.g]
    exact hq M2 w h2 u2
  | none => 
    refine ⟨vp_in_nI hi (by omega), fun r e => (by rw [q.1 hS] at e; cases e), fun _ => ?_⟩
    intro M3 e3
    refine k_new8 F e3 (fun M4 hob N4 S4 s4 b9 _ => ?_)
    have h4 : XC (fun a => if a < mN M then w a else 10 + i) M4 x T c := h.grow (fun a ha => if_pos ha) s4 (by omega) b9
    have k12 : mK M4 (x + 12) = 20 := ob11_k2 h4.1.1
    refine ⟨⟨h4.1, b9⟩, vp_in_nI hi (by omega), by rw [hob.1, k12]; rfl, ?_⟩
    intro M5 e5
    have lx := h.2.2.2.2.1
    have s5 : ∀ a, a ≠ x + 12 → same M4 M5 a := fun a ha => by rw [e5]; exact ⟨rfl, rfl, by funext j; rw [vr_setr, if_neg (fun z => ha z.1)]⟩
    have ob5 : ObAt 8 M5 (mN M) := ob_vr hob (by rw [e5]; rfl) (by rw [e5]; rfl) (s5 _ (by omega)).2.2
    refine ⟨ob5.1, ?_⟩
    have B4 : ∀ j, j < 9 → (fun a => if a < mN M then w a else 10 + i) (mN M + j) = 10 + i := fun j _ => if_neg (by omega)
    refine k_fillImg h4 hi s5 (by rw [e5]; rfl) (by rw [e5]; rfl) (by rw [e5]; rfl) (by rw [e5]; rfl) (fun j => ?_) ob5 B4 (fun M6 h6 u6 n6 z6 => ⟨⟨h6.1, h6.2.1⟩, ?_⟩)
    · rw [e5, vr_setr]
      by_cases z : j = i
      · rw [if_pos ⟨rfl, z⟩, if_pos z]
      · rw [if_neg (fun y => z y.2), if_neg z]
    · rw [h6.cs.g]
      refine hq M6 _ h6 ⟨fun a h1 h2 => ?_, by omega, by omega⟩
      have z1 := s4 a (by omega)
      have z2 := u6.1 a h1 h2
      exact ⟨z1.1.trans z2.1, z2.2.1.trans z1.2.1, z2.2.2.trans z1.2.2⟩
end
