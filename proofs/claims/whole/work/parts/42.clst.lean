/-! THE CLASS'S PUBLIC METHODS: HANDS, COSTS, the TAPE, GALLEY and WISH -/
section
variable {G : GT} {d : Nat} {w : Nat → Nat} {M : Mem} {x c : Nat} {T : StT} {Q : Int32 → Mem → Prop}
theorem Frl.km {M M' : Mem} {F L : List Nat} (f : Frl x F L M M') (ow : xOw w x) (hL : ∀ o ∈ L, o < 19) : keepM w M M' := fun b hb _ => by
  have o0 : ∀ o, o < 19 → b ≠ x + o := fun o ho e => by have := ow.1 o (by omega) (by omega); rw [← e] at this; omega
  have o1 : b ≠ x := fun e => o0 0 (by decide) e
  have z := fun k => f.2.2.2.2.2 b k (fun e => absurd e o1) (fun o ho => o0 o (hL o ho))
  exact ⟨⟨by funext k; exact (z k).1, by funext k; exact (z k).2, by rw [f.2.2.2.2.1]⟩, by rw [f.2.2.1], by rw [f.2.2.2.1]⟩
theorem k_hand {a : Int32} (h : XC w M x T c) (hc : c + 1 < 1000000) (hq : ∀ M' c', XC w M' x (u_hand T a) c' → c' ≤ c + 1 → Cu x M M' → Q (f_hand T a) M') : CI G (d + 1) 113 [.ref x, .int a] M Q := by
  have W := h.cs
  have V := W.2.1
  have h4 := V.h
  unfold u_hand f_hand at hq
  have no : ¬ hOk T a → Q (-1) M := fun n => by
    rw [cif_F n, cif_F n] at hq
    exact hq M c h (by omega) Cu.refl
  refine c_X11_hand h.1 ?_
  rw [W.h, fb_lt0, fa_lt 9 a, show (9 : Int32).toInt = 9 from rfl, show (4 : Int32) = nI 4 from rfl, lt_I (by omega) (by omega)]
  refine ⟨fun c1 => no (fun z => by have := z.2; omega), fun c1 => ⟨fun c2 => no (fun z => by have := z.2; omega), fun c2 => ⟨fun c3 => ?_, fun c3 => no (fun z => c3 z.1)⟩⟩⟩
  have y : hOk T a := ⟨c3, by omega, by omega⟩
  rw [cif_T y, cif_T y] at hq
  rw [nI_clamp (by omega)]
  refine ⟨vp_in_nI c3 (by omega), ?_⟩
  intro M1 e1
  refine ⟨vp_in_nI c3 (by omega), ?_⟩
  intro M2 e2 M3 e3 M4 e4
  have r6 : vi M2 (x + 3) 6 = nI (hN (sh T)) := by
    rw [e2, vi_seti, if_neg (by omega), e1, vi_seti, if_neg (by omega)]; exact W.h
  rw [r6, nI_1] at e3
  have r13 : vi M3 x 13 = nI c := by
    rw [e3, vi_seti, if_neg (by omega), e2, vi_seti, if_neg (by omega), e1, vi_seti, if_neg (by omega)]; exact h.ch
  rw [r13, nI_1] at e4
  have f : Frl x [13] [3, 6, 7] M M4 := by
    rw [e4, e3, e2, e1]
    exact (((Frl.si (b := x) (o := 6) (by decide)).trans (Frl.si (o := 7) (by decide))).trans (Frl.si (o := 3) (by decide))).trans (Frl.sf (by decide))
  refine hq M4 (c + 1) ?_ (by omega) (f.cu (by decide))
  have km : keepM w M M4 := f.km h.ow (by decide)
  refine h.updF f (by decide) (by decide) rfl (v_hand_ok V y) h.t4 (fun k hk => h.tk hk) ?_ (fun k hk => ?_) ?_ (Or.inr rfl) hc ?_
  · rw [f.i (by decide) (by decide)]; exact h.t
  · rw [f.i (by decide) (by decide)]; exact h.tb hk
  · have S := W.2.2
    have im : ∀ s, isM (sh (v_hand T a)) s ↔ isM (sh T) s := v_hand_isM V
    have tl : ∀ i (z : MkT), tell (sh (v_hand T a)) i z ↔ tell (sh T) i z := fun i z => Iff.rfl
    have ag : ∀ z, agr (sh (v_hand T a)) z = agr (sh T) z := fun z => by
      show ct (fun i => tell (sh T) i z) (hN (sh T) + 1) = _
      rw [ct_n (fun ⟨k, hk, _⟩ => by rw [V.c0 (Nat.le_refl _)] at hk; omega)]
      rfl
    refine ⟨⟨?_, ?_, ?_⟩, fun k hk => ?_, fun k hk => ?_, fun k hk => ?_, fun k hk => ?_, ?_, fun k hk => ?_, fun s hs => ?_, fun s hs o ho => ?_⟩
    · rw [e4, vi_seti, if_neg (by omega), e3, vi_seti, if_neg (by omega), e2, vi_seti, if_neg (by omega), e1, vi_seti, if_neg (by omega)]; exact W.g
    · rw [e4, vi_seti, if_neg (by omega), e3, vi_seti, if_neg (by omega), e2, vi_seti, if_neg (by omega), e1, vi_seti, if_neg (by omega)]; exact W.ww
    · rw [e4, vi_seti, if_neg (by omega), e3, vi_seti, if_pos ⟨rfl, rfl⟩]; rfl
    · rw [show x + 3 + 1 = x + 4 from rfl, f.i (by decide) (by decide)]; exact W.gb hk
    · rw [show x + 3 + 2 = x + 5 from rfl, f.i (by decide) (by decide)]; exact W.wb hk
    · show vi M4 (x + 3 + 3) k = if k = hN (sh T) then a else hR (sh T) k
      have hk2 : k < hN (sh T) + 1 := hk
      rw [e4, vi_seti, if_neg (by omega), e3, vi_seti, if_neg (by omega), e2, vi_seti, if_neg (by omega), e1, vi_seti]
      by_cases z : k = hN (sh T)
      · rw [if_pos ⟨rfl, z⟩, if_pos z]
      · rw [if_neg (fun h => z h.2), if_neg z]; exact W.r (by omega)
    · show vi M4 (x + 3 + 4) k = nI (hC (sh T) k)
      rw [e4, vi_seti, if_neg (by omega), e3, vi_seti, if_neg (by omega), e2, vi_seti]
      by_cases z : k = hN (sh T)
      · rw [if_pos ⟨rfl, z⟩, V.c0 (by omega)]; rfl
      · rw [if_neg (fun h => z h.2), e1, vi_seti, if_neg (by omega)]; exact W.c hk
    · have z : cMs w M4 (x + 3) (sh T) := S.2.2.2.2.2.1.keep h.2.1 km (by rw [f.2.2.2.2.1])
      intro s hs
      rw [im s]
      exact z s hs
    · rw [show x + 3 + 6 = x + 9 from rfl, f.i (by decide) (by decide)]; exact W.k hk
    · rw [show x + 3 + 7 = x + 10 from rfl, f.i (by decide) (by decide)]
      show _ = nI (agr (sh (v_hand T a)) (kM (sh T) s))
      rw [ag]
      exact W.ag ((im s).mp hs)
    · rw [show x + 3 + 8 = x + 11 from rfl, f.l (by decide) (by decide), im o]
      exact W.cl ((im s).mp hs) ho
  · rw [e4, vi_seti, if_pos ⟨rfl, rfl⟩]
theorem k_cost {k n : Int32} (h : XC w M x T c) (hc : c + 1 < 1000000) (hq : ∀ M' c', XC w M' x (u_cost T k n) c' → c' ≤ c + 1 → Cu x M M' → Q (f_cost T k n) M') : CI G (d + 1) 116 [.ref x, .int k, .int n] M Q := by
  have W := h.cs
  have V := W.2.1
  unfold u_cost f_cost at hq
  have no : ¬ kOk k n → Q (-1) M := fun n => by
    rw [cif_F n, cif_F n] at hq
    exact hq M c h (by omega) Cu.refl
  refine c_X11_cost h.1 ?_
  rw [fb_lt0, fa_lt 6 k, show (6 : Int32).toInt = 6 from rfl, fb_lt0, fa_le n 99, show (99 : Int32).toInt = 99 from rfl]
  refine ⟨fun c1 => no (fun z => by have := z.1; omega), fun c1 => ⟨fun c2 => no (fun z => by have := z.1; omega), fun c2 => ⟨fun c3 => no (fun z => by have := z.2; omega), fun c3 => ⟨fun c4 => ?_, fun c4 => no (fun z => by have := z.2; omega)⟩⟩⟩⟩
  have y : kOk k n := ⟨by omega, by omega⟩
  rw [cif_T y, cif_T y] at hq
  obtain ⟨j, hj, e⟩ := asN (a := k) (N := 7) (by omega) (by omega)
  have e0 : k.toNatClampNeg = j := by rw [e, nI_clamp (by omega)]
  have v7 : vp_in k 7 := by rw [e]; exact vp_in_nI hj (by omega)
  refine ⟨v7, v7, ?_⟩
  rw [e0] at hq ⊢
  intro M1 e1 M2 e2
  have r13 : vi M1 x 13 = nI c := by rw [e1, vi_seti, if_neg (by omega)]; exact h.ch
  rw [r13, nI_1] at e2
  have f : Frl x [13] [9] M M2 := by
    rw [e2, e1]
    exact (Frl.si (b := x) (o := 9) (by decide)).trans (Frl.sf (by decide))
  rw [W.k hj]
  refine hq M2 (c + 1) ?_ (by omega) (f.cu (by decide))
  refine h.updF f (by decide) (by decide) rfl (v_cost_ok V y) h.t4 (fun k hk => h.tk hk) ?_ (fun k hk => ?_) ?_ (Or.inr rfl) hc ?_
  · rw [f.i (by decide) (by decide)]; exact h.t
  · rw [f.i (by decide) (by decide)]; exact h.tb hk
  · have km : keepM w M M2 := f.km h.ow (by decide)
    have S := W.2.2
    refine ⟨⟨?_, ?_, ?_⟩, fun k hk => ?_, fun k hk => ?_, fun k hk => ?_, fun k hk => ?_, S.2.2.2.2.2.1.keep h.2.1 km (by rw [f.2.2.2.2.1]), fun i hi => ?_, fun s hs => ?_, fun s hs o ho => ?_⟩
    · rw [f.i (by decide) (by decide)]; exact W.g
    · rw [f.i (by decide) (by decide)]; exact W.ww
    · rw [f.i (by decide) (by decide)]; exact W.h
    · rw [show x + 3 + 1 = x + 4 from rfl, f.i (by decide) (by decide)]; exact W.gb hk
    · rw [show x + 3 + 2 = x + 5 from rfl, f.i (by decide) (by decide)]; exact W.wb hk
    · rw [show x + 3 + 3 = x + 6 from rfl, f.i (by decide) (by decide)]; exact W.r hk
    · rw [show x + 3 + 4 = x + 7 from rfl, f.i (by decide) (by decide)]; exact W.c hk
    · show vi M2 (x + 3 + 6) i = if i = k.toNatClampNeg then n else cC (sh T) i
      rw [e2, vi_seti, if_neg (by omega), e1, vi_seti, e0]
      by_cases z : i = j
      · rw [if_pos ⟨rfl, z⟩, if_pos z]
      · rw [if_neg (fun h => z h.2), if_neg z]; exact W.k hi
    · rw [show x + 3 + 7 = x + 10 from rfl, f.i (by decide) (by decide)]; exact W.ag hs
    · rw [show x + 3 + 8 = x + 11 from rfl, f.l (by decide) (by decide)]; exact W.cl hs ho
  · rw [e2, vi_seti, if_pos ⟨rfl, rfl⟩]
/-! THE TAPE -/
theorem XC.tape0 {n : Nat} (h : XC w M x T c) (hn : n ≤ tN T) : XC w (seti M (x + 1) 1 (nI n)) x (v_end T n) c := by
  have f : Frl x [] [1] M (seti M (x + 1) 1 (nI n)) := Frl.si (by decide)
  refine h.updF f (by decide) (by decide) rfl h.cs.2.1 (Nat.le_trans hn h.t4) (fun k hk => h.tk (Nat.lt_of_lt_of_le hk hn)) ?_ (fun k hk => ?_) (h.shF f (by decide)) (Or.inl ⟨rfl, rfl⟩) h.cl ?_
  · rw [vi_seti, if_pos ⟨rfl, rfl⟩]; rfl
  · rw [f.i (by decide) (by decide)]; exact h.tb (Nat.lt_of_lt_of_le hk hn)
  · rw [f.f (by decide) (by decide)]; exact h.ch
theorem k_end {n : Int32} (h : XC w M x T c) (hq : ∀ M', XC w M' x (u_end T n) c → Cu x M M' → Q (f_end T n) M') : CI G (d + 1) 110 [.ref x, .int n] M Q := by
  have t4 := h.t4
  unfold u_end f_end at hq
  have no : ¬ eOk T n → Q (-1) M := fun n => by
    rw [cif_F n, cif_F n] at hq
    exact hq M h Cu.refl
  refine c_X11_end h.1 ?_
  rw [h.t, fb_lt0, fa_le, nI_toIntN (by omega)]
  refine ⟨fun c1 => no (fun z => by have := z.1; omega), fun c1 => ⟨fun c2 => ?_, fun c2 => no (fun z => c2 z.2)⟩⟩
  have z : eOk T n := ⟨by omega, c2⟩
  rw [cif_T z, cif_T z] at hq
  obtain ⟨j, hj, e⟩ := asN (a := n) (N := tN T + 1) (by omega) (by omega)
  subst e
  intro M1 e1
  subst e1
  rw [nI_clamp (by omega)] at hq
  exact hq _ (h.tape0 (by omega)) ((Frl.si (F := []) (L := [1]) (by decide)).cu (by decide))
/-- the class's tape at o -/
def cTp (M : Mem) (o : Nat) (t : Nat × (Nat → Int32)) : Prop := vi M o 1 = nI t.1 ∧ ∀ k, k < t.1 → vi M (o + 1) k = t.2 k
theorem k_app1 {o : Nat} {y s s' : Int32} {t : Nat × (Nat → Int32)} {Q : Mem → Prop} (hs : ¬ s < 0) (es : s + (-8) = s')
    (O : ObAt 9 M o) (ht : cTp M o t) (h4 : t.1 < 400) (hq : ∀ M', Frl o [1] [1] M M' → cTp M' o (tpu t (by8 y s)) → At G (d + 1) 88 3 [(0, .ref o), (1, .int y), (2, .int s')] [] M' (qV Q)) : At G (d + 1) 88 3 [(0, .ref o), (1, .int y), (2, .int s)] [] M (qV Q) := by
  refine c_X9_append_3 O ⟨fun c => absurd c hs, fun _ => ?_⟩
  rw [ht.1, nI_clamp (by omega), es]
  refine ⟨fun c => absurd c (nI_pos (by omega)), fun _ => ⟨fun c => absurd c (nI_ge (b := 400) h4 (by decide)), fun _ => ⟨vp_in_nI h4 (by omega), ?_⟩⟩⟩
  intro M1 e3 M2 e4
  have r1 : vi M1 o 1 = nI t.1 := by rw [e3, vi_seti, if_neg (by omega)]; exact ht.1
  rw [r1, nI_1] at e4
  refine hq M2 ?_ ⟨?_, fun j hj => ?_⟩
  · rw [e4, e3]
    exact (Frl.si (o := 1) (by decide)).trans (Frl.sf (by decide))
  · rw [e4, vi_seti, if_pos ⟨rfl, rfl⟩]; rfl
  · rw [e4, vi_seti, if_neg (by omega), e3, vi_seti]
    show _ = if j = t.1 then by8 y s else t.2 j
    by_cases z : j = t.1
    · rw [if_pos ⟨rfl, z⟩, if_pos z]; rfl
    · rw [if_neg (fun h => z h.2), if_neg z]
      have hj2 : j < t.1 + 1 := hj
      exact ht.2 j (by omega)
theorem k_append {o : Nat} {y : Int32} {t : Nat × (Nat → Int32)} {Q : Mem → Prop} (O : ObAt 9 M o) (ht : cTp M o t) (h4 : t.1 + 4 ≤ 400) (hq : ∀ M', Frl o [1] [1] M M' → cTp M' o (tp4 t y) → Q M') : CV G (d + 1) 88 [.ref o, .int y] M Q := by
  refine c_X9_append O (k_app1 (s' := 16) (by decide) (by decide) O ht (by omega) (fun M1 f1 t1 => ?_))
  refine k_app1 (s' := 8) (by decide) (by decide) (f1.ob O) t1 (show t.1 + 1 < 400 by omega) (fun M2 f2 t2 => ?_)
  refine k_app1 (s' := 0) (by decide) (by decide) (f2.ob (f1.ob O)) t2 (show t.1 + 1 + 1 < 400 by omega) (fun M3 f3 t3 => ?_)
  refine k_app1 (s' := -8) (by decide) (by decide) (f3.ob (f2.ob (f1.ob O))) t3 (show t.1 + 1 + 1 + 1 < 400 by omega) (fun M4 f4 t4 => ?_)
  have f := ((f1.trans f2).trans f3).trans f4
  refine c_X9_append_3 (f.ob O) ⟨fun _ => hq M4 f t4, fun c => absurd (by decide) c⟩
/-- a frame of the tape is one of the whole object -/
theorem Frl.tape {M M' : Mem} {F L : List Nat} (f : Frl (x + 1) F L M M') (hL : ∀ o ∈ L, o = 1) : Frl x [] [1, 2] M M' :=
  ⟨f.1, f.2.1, f.2.2.1, f.2.2.2.1, f.2.2.2.2.1, fun a k _ h4 => f.2.2.2.2.2 a k (fun e => absurd e (h4 1 (by decide))) (fun o ho => by rw [hL o ho]; exact h4 2 (by decide))⟩
theorem Frl.xa {M M' : Mem} {b : Nat} {F L : List Nat} (f : Frl b F L M M') (X : XAt M x) : XAt M' x :=
  ⟨f.ob X.1, f.ob X.2.1, f.ob X.2.2.1, f.ob X.2.2.2.1, by rw [f.2.2.1]; exact X.2.2.2.2.1, f.ob X.2.2.2.2.2.1, f.ob X.2.2.2.2.2.2.1, f.ob X.2.2.2.2.2.2.2.1, f.ob X.2.2.2.2.2.2.2.2.1, f.ob X.2.2.2.2.2.2.2.2.2⟩
theorem k_feed {a b e g i : Int32} (h : XC w M x T c) (hq : ∀ M', XC w M' x (u_feed T a b e g i) c → Cu x M M' → Q (f_feed T) M') : CI G (d + 2) 109 [.ref x, .int a, .int b, .int e, .int g, .int i] M Q := by
  have t4 := h.t4
  have X := h.1
  unfold u_feed f_feed at hq
  refine c_X11_feed X ?_
  rw [h.t, show (20 : Int32) = nI 20 from rfl, nI_add, show (400 : Int32) = nI 400 from rfl, le_I (by omega) (by omega)]
  refine ⟨fun c1 => ?_, fun c1 => ?_⟩
  · rw [cif_T c1, cif_T c1] at hq
    have rt : cTp M (x + 1) T.1 := ⟨h.t, fun k hk => h.tb hk⟩
    have c2 : T.1.1 + 20 ≤ 400 := c1
    refine k_append X.2.1 rt (by omega) (fun M1 f1 r1 => ⟨f1.xa X, ?_⟩)
    refine k_append (f1.xa X).2.1 r1 (show T.1.1 + 1 + 1 + 1 + 1 + 4 ≤ 400 by omega) (fun M2 f2 r2 => ?_)
    have g2 := f1.trans f2
    refine ⟨g2.xa X, k_append (g2.xa X).2.1 r2 (show T.1.1 + 1 + 1 + 1 + 1 + 1 + 1 + 1 + 1 + 4 ≤ 400 by omega) (fun M3 f3 r3 => ?_)⟩
    have g3 := g2.trans f3
    refine ⟨g3.xa X, k_append (g3.xa X).2.1 r3 (show T.1.1 + 1 + 1 + 1 + 1 + 1 + 1 + 1 + 1 + 1 + 1 + 1 + 1 + 4 ≤ 400 by omega) (fun M4 f4 r4 => ?_)⟩
    have g4 := g3.trans f4
    refine ⟨g4.xa X, k_append (g4.xa X).2.1 r4 (show T.1.1 + 1 + 1 + 1 + 1 + 1 + 1 + 1 + 1 + 1 + 1 + 1 + 1 + 1 + 1 + 1 + 1 + 4 ≤ 400 by omega) (fun M5 f5 r5 => ?_)⟩
    have g5 := (g4.trans f5).tape (by decide)
    refine ⟨g5.xa X, ?_⟩
    rw [r5.1]
    refine hq M5 (h.updF g5 (by decide) (by decide) rfl h.cs.2.1 c1 ?_ r5.1 r5.2 (h.shF g5 (by decide)) (Or.inl ⟨rfl, rfl⟩) h.cl ?_) (g5.cu (by decide))
    · have o0 : okTp T.1 := fun k hk => h.tk hk
      exact o0.p4.p4.p4.p4.p4
    · rw [g5.f (by decide) (by decide)]; exact h.ch
  · rw [cif_F c1, cif_F c1] at hq
    exact hq M h Cu.refl
theorem k_isByte {a : Int32} (hq : Q (bI (okB a)) M) : CI G (d + 1) 148 [.int a] M Q := by
  refine c_X11_isByte ?_
  rw [fa_lt, fa_lt, show (32 : Int32).toInt = 32 from rfl, show (126 : Int32).toInt = 126 from rfl]
  exact ⟨fun c => qF2 hq (fun h => by have := h.1; omega), fun c => ⟨fun c2 => qF2 hq (fun h => by have := h.2; omega), fun c2 => qT2 hq ⟨by omega, by omega⟩⟩⟩
theorem k_firstWrong {o : Nat} {t : Nat × (Nat → Int32)} (O : ObAt 9 M o) (ht : cTp M o t) (t4 : t.1 ≤ 400) (hq : Q (cif (wrg t < t.1) (nI (wrg t)) (-1)) M) : CI G (d + 2) 89 [.ref o] M Q := by
  refine c_X9_firstWrong O ?_
  have key : ∀ n k : Nat, n + k = t.1 → (∀ j, j < k → ¬ badB t j) → At G (d + 2) 89 2 [(0, .ref o), (1, .int (nI k))] [] M (qI Q) := by
    intro n
    induction n with
    | zero => 
      intro k h1 h2
      refine c_X9_firstWrong_2 O ?_
      rw [ht.1]
      refine ⟨fun _ => ?_, fun c => absurd (nI_le (by omega) (by omega)) c⟩
      have e : wrg t = t.1 := fst_n _ (fun j hj => h2 j (by omega))
      rw [e, cif_F (by omega)] at hq
      exact hq
    | succ n ih => 
      intro k h1 h2
      have hk : k < t.1 := by omega
      have y : badB t k → Q (nI k) M := fun h => by
        have e : wrg t = k := fst_y h h2 _ hk
        rw [e, cif_T hk] at hq
        exact hq
      have k2 : k ≤ 200 := by
        rcases Nat.lt_or_ge 200 k with z | z
        · exact absurd (Or.inl rfl) (h2 200 z)
        · exact z
      refine c_X9_firstWrong_2 O ?_
      rw [ht.1, show (200 : Int32) = nI 200 from rfl, le_I (a := 200) (by omega) (by omega)]
      refine ⟨fun c => absurd c (nI_ge hk (by omega)), fun _ => ⟨fun c => y (Or.inl (by omega)), fun c => ⟨vp_in_nI (by omega) (by omega), ?_⟩⟩⟩
      rw [nI_clamp (by omega), ht.2 k hk]
      refine k_isByte ⟨O, bnz (fun c2 => ?_) (fun c2 => y (Or.inr c2))⟩
      rw [nI_1]
      refine ih (k + 1) (by omega) (fun j hj => ?_)
      rcases Nat.lt_or_ge j k with z | z
      · exact h2 j z
      · rw [show j = k by omega]
        exact fun h => h.elim (by omega) (fun h => h c2)
  exact key t.1 0 (by omega) (fun j hj => absurd hj (by omega))
/-- Arrays.fill of a whole int array -/
theorem k_fill {a : Nat} {v : Int32} {Q : Mem → Prop} {b : Nat} {F L : List Nat} {o : Nat} (ea : a = b + o) (ho : o ∈ L) (hk : mK M a = 15) (hl : mA M a < 2147483648) (hq : ∀ M', Frl b F L M M' → (∀ i, i < mA M a → vi M' a i = v) → (∀ e, e ≠ a → same M M' e) → Q M') : CV G (d + 1) 272 [.ref a, .int v] M Q := by
  refine c_J7_fill_53178 ⟨by rw [hk]; decide, ?_⟩
  have key : ∀ (n i : Nat) (M1 : Mem), n + i = mA M a → Frl b F L M M1 → (∀ j, j < i → vi M1 a j = v) → (∀ e, e ≠ a → same M M1 e) → At G (d + 1) 272 5 [(0, .ref a), (1, .int v), (2, .int (nI i)), (3, .int (nI (mA M a)))] [] M1 (qV Q) := by
    intro n
    induction n with
    | zero => 
      intro i M1 h1 f h2 h3
      refine c_J7_fill_53178_5 ⟨fun _ => hq M1 f (fun j hj => h2 j (by omega)) h3, fun c => absurd (nI_le (by omega) (by omega)) c⟩
    | succ n ih => 
      intro i M1 h1 f h2 h3
      refine c_J7_fill_53178_5 ⟨fun c => absurd c (nI_ge (by omega) (by omega)), fun _ => ⟨by rw [f.2.2.1]; exact hk, by rw [f.2.2.2.1]; exact vp_in_nI (by omega) (by omega), ?_⟩⟩
      rw [nI_clamp (by omega), nI_1]
      intro M2 e2
      refine ih (i + 1) M2 (by omega) ?_ (fun j hj => ?_) (fun e he => (h3 e he).trans ?_)
      · rw [e2, ea]; exact f.trans (Frl.si ho)
      · rw [e2, vi_seti]
        by_cases z : j = i
        · rw [if_pos ⟨rfl, z⟩]
        · rw [if_neg (fun h => z h.2)]; exact h2 j (by omega)
      · rw [e2]
        exact ⟨by funext j; rw [vi_seti, if_neg (fun h => he h.1)], rfl, rfl⟩
  exact key (mA M a) 0 M (by omega) Frl.refl (fun j hj => absurd hj (by omega)) (fun e _ => same.refl)
theorem k_takeWish {n : Nat} {t : Nat → Int32} {a b : Nat} {Q : Mem → Prop} (O : ObAt 8 M a) (n2 : n ≤ 200) (hb : mK M b = 15) (lb : mA M b = 400) (ht : ∀ k, k < n → vi M b k = t k) (nb : b ≠ a ∧ b ≠ a + 2) (hq : ∀ M', Frl a [3] [2] M M' → vi M' a 3 = nI n → (∀ k, k < n → vi M' (a + 2) k = t k) → Q M') : CV G (d + 1) 76 [.ref a, .ref b, .int (nI n)] M Q := by
  refine c_X8_takeWish O ?_
  rw [show (200 : Int32) = nI 200 from rfl, if_neg (by rw [lt_I (by omega) (by omega)]; omega)]
  intro M0 e0
  have key : ∀ (m i : Nat) (M1 : Mem), m + i = n → Frl a [3] [2] M M1 → vi M1 a 3 = nI n → (∀ k, k < i → vi M1 (a + 2) k = t k) → At G (d + 1) 76 13 [(0, .ref a), (1, .ref b), (3, .int (nI i))] [] M1 (qV Q) := by
    intro m
    induction m with
    | zero => 
      intro i M1 h1 f h2 h3
      refine c_X8_takeWish_13 (f.ob O) ?_
      rw [h2]
      exact ⟨fun _ => hq M1 f h2 (fun k hk => h3 k (by omega)), fun c => absurd (nI_le (by omega) (by omega)) c⟩
    | succ m ih => 
      intro i M1 h1 f h2 h3
      have rb : vi M1 b i = t i := by
        rw [(f.2.2.2.2.2 b i (fun e => absurd e nb.1) (fun o ho => by rw [List.mem_singleton.mp ho]; exact nb.2)).1]
        exact ht i (by omega)
      refine c_X8_takeWish_13 (f.ob O) ?_
      rw [h2, f.2.2.1, f.2.2.2.1, hb, lb]
      refine ⟨fun c => absurd c (nI_ge (by omega) (by omega)), fun _ => ⟨by decide, fun c => absurd c (nI_ge (by omega) (by omega)), fun _ => ⟨rfl, vp_in_nI (by omega) (by omega), vp_in_nI (by omega) (by omega), ?_⟩⟩⟩
      rw [nI_clamp (by omega), nI_1, rb]
      intro M2 e2
      refine ih (i + 1) M2 (by omega) ?_ ?_ (fun k hk => ?_)
      · rw [e2]; exact f.trans (Frl.si (by decide))
      · rw [e2, vi_seti, if_neg (by omega)]; exact h2
      · rw [e2, vi_seti]
        by_cases z : k = i
        · rw [if_pos ⟨rfl, z⟩, z]
        · rw [if_neg (fun h => z h.2)]; exact h3 k (by omega)
  refine key n 0 M0 (by omega) ?_ ?_ (fun k hk => absurd hk (by omega))
  · rw [e0]; exact Frl.sf (by decide)
  · rw [e0, vi_seti, if_pos ⟨rfl, rfl⟩]
theorem k_wishes (h : XC w M x T c) (hc : c + 1 < 1000000) (hq : ∀ M' c', XC w M' x (u_wis T) c' → c' ≤ c + 1 → Cu x M M' → Q (f_gal T) M') : CI G (d + 3) 112 [.ref x] M Q := by
  have t4 := h.t4
  have W := h.cs
  have V := W.2.1
  have X := h.1
  unfold u_wis f_gal at hq
  refine c_X11_wishes X (k_firstWrong X.2.1 (t := T.1) ⟨h.t, fun k hk => h.tb hk⟩ t4 ⟨X, ?_⟩)
  intro M3 e3
  have h3 : XC w M3 x (v_end T 0) c := by rw [e3]; exact h.tape0 (Nat.zero_le _)
  have f3 : Frl x [] [1] M M3 := by rw [e3]; exact Frl.si (by decide)
  rw [h.t]
  by_cases z : wrg T.1 < tN T
  · rw [cif_T z, cif_T z] at hq
    rw [cif_T (show wrg T.1 < T.1.1 from z)]
    refine ⟨fun c2 => absurd c2 ?_, fun _ => hq M3 c h3 (by omega) (f3.cu (by decide))⟩
    rw [il_m1, nm_eq (by decide) (by decide) (by omega)]
    exact fun h => h
  · rw [cif_F z, cif_F z] at hq
    rw [cif_F (show ¬ wrg T.1 < T.1.1 from z)]
    refine ⟨fun _ => ?_, fun c2 => absurd rfl c2⟩
    have ok := wrg_ok (t := T.1) z
    have n2 : tN T ≤ 200 := ok.1
    refine k_takeWish (t := tB T) h3.1.2.2.1 n2 (ob9_k0 h3.1.2.1) (ob9_l0 h3.1.2.1) (fun k hk => ?_) ⟨by omega, by omega⟩ (fun M4 f4 r4 r5 => ⟨f4.xa h3.1, ?_⟩)
    · rw [show x + 1 + 1 = x + 2 from rfl, f3.i (by decide) (by decide)]; exact h.tb hk
    · intro M5 e5
      have r13 : vi M4 x 13 = nI c := by
        rw [(f4.2.2.2.2.2 x 13 (fun e => by omega) (fun o ho => by rw [List.mem_singleton.mp ho]; omega)).1]; exact h3.ch
      rw [r13, nI_1] at e5
      have f5 : Frl x [13] [1, 3, 5] M M5 := by
        refine (f3.sub (by decide) (by decide)).trans (Frl.trans (M' := M4) ?_ ?_)
        · exact ⟨f4.1, f4.2.1, f4.2.2.1, f4.2.2.2.1, f4.2.2.2.2.1, fun a k _ h4 => f4.2.2.2.2.2 a k (fun e => absurd e (h4 3 (by decide))) (fun o ho => by rw [List.mem_singleton.mp ho]; exact h4 5 (by decide))⟩
        · rw [e5]; exact Frl.sf (by decide)
      refine hq M5 (c + 1) ?_ (by omega) (f5.cu (by decide))
      have V2 : okS (sh (v_wis T)) := ⟨V.1, V.2.1, n2, fun k hk => ok.2 k hk, V.2.2.2.2⟩
      have sh3 : ∀ k, k ≠ 3 → vi M5 (x + 3) k = vi M (x + 3) k := fun k hk => by
        rw [e5, vi_seti, if_neg (by omega), f4.f (by simp; exact hk) (by decide), f3.i (by decide) (by decide)]
      refine h.updF f5 (by decide) (by decide) rfl V2 (Nat.zero_le _) (fun k hk => absurd hk (Nat.not_lt_zero k)) ?_ (fun k hk => absurd hk (Nat.not_lt_zero k)) ?_ (Or.inr rfl) hc ?_
      · show vi M5 (x + 1) 1 = nI 0
        rw [e5, vi_seti, if_neg (by omega), (f4.2.2.2.2.2 (x + 1) 1 (fun e => by omega) (fun o ho => by rw [List.mem_singleton.mp ho]; omega)).1, e3, vi_seti, if_pos ⟨rfl, rfl⟩]; rfl
      · have km : keepM w M M5 := f5.km h.ow (by decide)
        refine ⟨⟨?_, ?_, ?_⟩, fun k hk => ?_, fun k hk => ?_, fun k hk => ?_, fun k hk => ?_, W.2.2.2.2.2.2.2.1.keep h.2.1 km (by rw [f5.2.2.2.2.1]), fun k hk => ?_, fun s hs => ?_, fun s hs o ho => ?_⟩
        · rw [sh3 1 (by decide)]; exact W.g
        · show vi M5 (x + 3) 3 = nI (tN T)
          rw [e5, vi_seti, if_neg (by omega)]; exact r4
        · rw [sh3 6 (by decide)]; exact W.h
        · rw [show x + 3 + 1 = x + 4 from rfl, f5.i (by decide) (by decide)]; exact W.gb hk
        · show vi M5 (x + 3 + 2) k = tB T k
          rw [e5, vi_seti, if_neg (by omega)]; exact r5 k hk
        · rw [show x + 3 + 3 = x + 6 from rfl, f5.i (by decide) (by decide)]; exact W.r hk
        · rw [show x + 3 + 4 = x + 7 from rfl, f5.i (by decide) (by decide)]; exact W.c hk
        · rw [show x + 3 + 6 = x + 9 from rfl, f5.i (by decide) (by decide)]; exact W.k hk
        · rw [show x + 3 + 7 = x + 10 from rfl, f5.i (by decide) (by decide)]; exact W.ag hs
        · rw [show x + 3 + 8 = x + 11 from rfl, f5.l (by decide) (by decide)]; exact W.cl hs ho
      · rw [e5, vi_seti, if_pos ⟨rfl, rfl⟩]
end
