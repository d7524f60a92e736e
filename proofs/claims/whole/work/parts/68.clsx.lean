/-! MARKS: the class's call -/
section
variable {G : GT} {d : Nat} {w : Nat → Nat} {M M' : Mem} {x c : Nat} {T : StT}
theorem XAt.keep (X : XAt M x) (hK : ∀ b, mK M b ≠ 0 → mK M' b = mK M b ∧ mA M' b = mA M b) (hv : ∀ i, i ∈ [0, 1, 3, 15, 25, 36, 41, 46, 50] → vr M' (x + i) = vr M (x + i)) : XAt M' x :=
  ⟨X.1.keep hK (hv 0 (by decide)) (by decide), X.2.1.keep hK (hv 1 (by decide)) (by decide), X.2.2.1.keep hK (hv 3 (by decide)) (by decide), X.2.2.2.1.keep hK (hv 15 (by decide)) (by decide), by rw [(hK _ (by rw [X.2.2.2.2.1]; decide)).1]; exact X.2.2.2.2.1, X.2.2.2.2.2.1.keep hK (hv 25 (by decide)) (by decide), X.2.2.2.2.2.2.1.keep hK (hv 36 (by decide)) (by decide), X.2.2.2.2.2.2.2.1.keep hK (hv 41 (by decide)) (by decide), X.2.2.2.2.2.2.2.2.1.keep hK (hv 46 (by decide)) (by decide), X.2.2.2.2.2.2.2.2.2.keep hK (hv 50 (by decide)) (by decide)⟩
theorem XC.rl {n : Nat} (h : XC w M x T c) (r : Rl x n M M') : XC (fun a => if a < mN M then w a else 2) M' x T c := by
  have lx := h.2.2.2.2.1
  refine h.scrt (fun a ha => if_pos ha) (fun a ha => ⟨(r.1.1 a ha).1, (r.1.1 a ha).2.1, fun hn => (r.1.1 a ha).2.2 (fun z => ?_)⟩) r.1.2.1 r.1.2.2.2 (fun i hi => ?_) r.2.2.1
  · unfold rL at z
    rcases z with z | z | z | z
    · exact hn 1 z (Or.inl rfl)
    · exact hn 15 z (by unfold scr; omega)
    · exact hn 16 z (by unfold scr; omega)
    · exact hn 17 z (by unfold scr; omega)
  · by_cases z : i = 16 ∨ i = 17
    · exact Or.inr z
    · left
      by_cases y1 : i = 1
      · rw [y1]; exact r.2.1
      · by_cases y2 : i = 15
        · rw [y2]; exact r.2.2.2.1
        · exact ((r.1.1 (x + i) (by unfold scr at hi; omega)).2.2 (fun y => by unfold rL at y; omega)).2.2
theorem Rl.cu {n : Nat} (h : Rl x n M M') (hn : n ≤ 20) (lx : x + 101 ≤ mN M) : Cu x M M' :=
  ⟨fun a h1 h2 => ⟨(h.1.1 a (by omega)).2.2 (fun z => by unfold rL at z; omega), (h.1.1 a (by omega)).1, (h.1.1 a (by omega)).2.1⟩, by have := h.2.2.2.2.1; omega, by have := h.2.2.2.2.2; omega⟩
theorem Cu.tr {M'' : Mem} (h : Cu x M M') (h2 : ∀ a, x + 55 ≤ a → a < x + 101 → same M' M'' a ∧ mK M'' a = mK M' a ∧ mA M'' a = mA M' a) (hN : mN M'' = mN M') (hS : mS M'' = mS M') : Cu x M M'' :=
  ⟨fun a h3 h4 => ⟨(h.1 a h3 h4).1.trans (h2 a h3 h4).1, (h2 a h3 h4).2.1.trans (h.1 a h3 h4).2.1, (h2 a h3 h4).2.2.trans (h.1 a h3 h4).2.2⟩, by rw [hN]; exact h.2.1, by rw [hS]; exact h.2.2⟩
theorem k_marks {a : Int32} {Q : Int32 → Mem → Prop} (h : XC w M x T c) (hc : c + 1 < 1000000) (hq : ∀ w' M' c', XC w' M' x (u_marks T a) c' → c' ≤ c + 1 → Cu x M M' → Q (f_marks T a) M') : CI G (d + 8) 114 [.ref x, .int a] M Q := by
  have X := h.1
  have W := h.cs
  have V := W.2.1
  have h4 := V.h
  have F := h.2.1
  have lx := h.2.2.2.2.1
  unfold u_marks f_marks at hq
  refine c_X11_marks X (k_hasHand W.1 W.h h4 ⟨X, bnz (fun cc => ?_) (fun cc => by rw [cif_F cc, cif_F cc] at hq; exact hq w M c h (by omega) Cu.refl)⟩)
  rw [cif_T cc, cif_T cc] at hq
  obtain ⟨n, hn, ea⟩ := asN cc.1 cc.2
  subst ea
  rw [nI_clamp (by omega)] at hq
  have v4 : vp_in (nI n) 4 := vp_in_nI (by omega) (by omega)
  refine ⟨v4, ?_⟩
  rw [nI_clamp (by omega), W.c (by omega)]
  obtain ⟨q0, eq0⟩ := nI_any (vi M (x + 1) 2)
  obtain ⟨e0, ee0⟩ := nI_any (vi M (x + 1) 3)
  have R0 : RDA M x T.1 (sh T) q0 e0 := ⟨⟨X.2.1, ⟨h.t, fun k hk => h.tb hk⟩, h.t4, fun k hk => h.tk hk, eq0, ee0⟩, X.2.2.2.1, X.2.2.1, F, lx, W.g, fun k hk => W.gb hk, V.g⟩
  have XA : ∀ {M3 : Mem} {k : Nat}, Rl x k M M3 → XAt M3 x := fun r => (h.rl r).1
  have tp : ∀ (M3 : Mem) (k : Nat), Rl x k M M3 → XC (fun a => if a < mN M then w a else 2) (seti M3 (x + 1) 1 (nI 0)) x (v_end T 0) c ∧ Cu x M (seti M3 (x + 1) 1 (nI 0)) ∨ 20 < k := fun M3 k r => by
    rcases Nat.lt_or_ge 20 k with z | z
    · exact Or.inr z
    · refine Or.inl ⟨(h.rl r).tape0 (Nat.zero_le _), (r.cu z lx).tr (fun a h1 h2 => ⟨⟨?_, rfl, rfl⟩, rfl, rfl⟩) rfl rfl⟩
      funext j; rw [vi_seti, if_neg (by omega)]
  refine k_readMarks R0 (V.c n) (fun z M3 q r3 h3 s3 l16 sl => ⟨XA r3, fun M4 e4 => ?_⟩) (fun z lt M3 q r3 h3 => ⟨XA r3, fun M4 e4 => ?_⟩)
  · have z0 : (pAll T n).1 = 0 := z
    rw [cif_T z0, cif_T z0] at hq
    have X4 := (tp M3 17 r3).resolve_right (by omega)
    have e4' : M4 = seti M3 (x + 1) 1 (nI 0) := e4
    rw [← e4'] at X4
    obtain ⟨X4, C4⟩ := X4
    have l16 : hC (sh T) n + (pAll T n).2.length ≤ 16 := l16
    have sl : ∀ i, i < (pAll T n).2.length → okM (gN (sh T)) ((pAll T n).2.getD i dMk) ∧ ∃ ob, vr M3 (x + 16) i = some ob ∧ nwM (mN M) M3 ob ((pAll T n).2.getD i dMk) := sl
    have s3 : vi M3 (x + 15) 1 = nI (pAll T n).2.length := s3
    generalize (pAll T n).2 = l at *
    have s4 : ∀ b, b ≠ x + 1 → same M3 M4 b := fun b hb => by
      rw [e4]; exact ⟨by funext j; rw [vi_seti, if_neg (fun y => hb y.1)], rfl, rfl⟩
    rw [show vi M4 (x + 1) 3 = nI 0 by rw [e4, vi_seti, if_neg (by omega)]; exact h3.1.ff, show vi M4 (x + 15) 1 = nI l.length by rw [(s4 _ (by omega)).1]; exact s3]
    refine ⟨fun _ => ?_, fun y => absurd rfl y⟩
    have W4 := X4.cs
    have O6 := X4.1.2.2.2.1
    have N4 : mN M ≤ mN M4 := by rw [e4]; exact r3.1.2.1
    refine k_addMarks (S := sh T) (l := l) (b := x + 15 + 1) W4.t X4.2.1 hn l16 (fun i hi => (sl i hi).1) (ob6_k0 O6) (ob6_l0 O6) (by omega) (fun i hi => ?_) (fun b hb => ?_) (fun M5 f5 W5 ag cl => ?_)
    · obtain ⟨ob, e1, nw⟩ := (sl i hi).2
      refine ⟨ob, by rw [(s4 _ (by omega)).2.2]; exact e1, ?_, if_neg (by have := nw.2.1; omega), fun t et => if_neg ?_⟩
      · have lo := nw.2.1
        refine nw.1.same (by rw [e4]; rfl) (s4 ob (by omega)) (fun t et => ⟨s4 t ?_, by rw [e4]; rfl, by rw [e4]; rfl⟩)
        have := nw.2.2 t et
        omega
      · have lo := nw.2.1
        rw [(s4 ob (by omega)).2.2] at et
        have := nw.2.2 t et
        omega
    · have o0 : ∀ i, i < 19 → b ≠ x + i := fun i hi e => by
        have := X4.ow.1 i (by omega) (by omega)
        rw [← e] at this
        have hb2 : (if b < mN M then w b else 2) = 2 := hb
        have t2 : (if b < mN M then w b else 2) = 0 := this
        omega
      exact ⟨o0 3 (by decide), fun o ho => by
        have h8 : o ≤ 8 := by simp at ho; omega
        rw [Nat.add_assoc]
        exact o0 (3 + o) (by omega)⟩
    · have u5 : Frv x [13] [3, 7, 8, 10, 11] M4 M5 := f5.up (by decide) (by decide) (by decide) (by decide)
      have XA5 : XAt M5 x := X4.1.keep (fun b _ => ⟨by rw [f5.2.2.1], by rw [f5.2.2.2.1]⟩) (fun i hi => by
        by_cases z3 : i = 3
        · rw [z3]; exact f5.2.2.2.2.2.1
        · exact (f5.2.2.2.2.1 (x + i) (by omega) (fun o ho e => by simp at hi ho; omega)).2.2)
      refine ⟨XA5, fun M6 e6 => ⟨v4, ?_⟩⟩
      rw [show vi M5 x 13 = nI c by rw [(f5.2.2.2.2.1 x (by omega) (fun o ho e => by omega)).1]; exact X4.ch, nI_1] at e6
      have s6 : ∀ b, b ≠ x → same M5 M6 b := fun b hb => by rw [e6]; exact ⟨by funext j; rw [vi_seti, if_neg (fun e => hb e.1)], rfl, rfl⟩
      have u6 : Frv x [13] [3, 7, 8, 10, 11] M4 M6 := u5.trans (by rw [e6]; exact Frv.sf (by decide))
      have ev : vi M6 (x + 3 + 4) n = nI (hC (sh T) n + l.length) := by
        rw [(s6 (x + 3 + 4) (by omega)).1, W5.c (by omega)]
        show nI (if n = n then hC (sh T) n + l.length else hC (sh T) n) = _
        rw [if_pos rfl]
      rw [ev]
      refine hq (fun a => if a < mN M then w a else 2) M6 (c + 1) ?_ (by omega) (C4.tr (fun b h1 h2 => ⟨u6.2.2.2.2.1 b (by omega) (fun o ho e => by simp at ho; omega), by rw [u6.2.2.1], by rw [u6.2.2.2.1]⟩) u6.1 u6.2.1)
      have t6 : vi M6 (x + 1) 1 = nI 0 := by rw [(u6.c (by decide) (by decide)).1]; exact X4.t
      refine X4.updV u6 (by decide) (by decide) ⟨(u6.c (by decide) (by decide)).2.2, ?_⟩ rfl W5.2.1 (Nat.zero_le _) (fun k hk => absurd hk (Nat.not_lt_zero k)) t6 (fun k hk => absurd hk (Nat.not_lt_zero k)) ?_ (Or.inr rfl) hc ?_
      · rw [(s6 (x + 3) (by omega)).2.2]; exact f5.2.2.2.2.2.1
      · have im5 : cMs (fun a => if a < mN M then w a else 2) M6 (x + 3) (addM (sh T) n l) := W5.2.2.2.2.keep (fun b hb => by rw [f5.2.2.1]; exact X4.2.1 b (by rw [← f5.1]; exact hb)) (fun b hb _ => ⟨s6 b (fun e => by
            have := X4.ow.1 0 (by decide) (by decide)
            rw [Nat.add_zero, ← e] at this
            have t2 : (if b < mN M then w b else 2) = 0 := this
            have hb2 : (if b < mN M then w b else 2) = 2 := hb
            omega), by rw [e6]; rfl, by rw [e6]; rfl⟩) (s6 _ (by omega)).2.2
        refine ⟨⟨?_, ?_, ?_⟩, fun k hk => ?_, fun k hk => ?_, fun k hk => ?_, fun k hk => ?_, im5, fun k hk => ?_, fun s hs => ?_, fun s hs o ho => ?_⟩
        · rw [(s6 _ (by omega)).1, f5.f (by decide)]; exact W4.g
        · rw [(s6 _ (by omega)).1, f5.f (by decide)]; exact W4.ww
        · rw [(s6 _ (by omega)).1, f5.f (by decide)]; exact W4.h
        · rw [(s6 _ (by omega)).1, (f5.c (by decide) (by decide)).1]; exact W4.gb hk
        · rw [(s6 _ (by omega)).1, (f5.c (by decide) (by decide)).1]; exact W4.wb hk
        · rw [(s6 _ (by omega)).1, (f5.c (by decide) (by decide)).1]; exact W4.r hk
        · rw [(s6 _ (by omega)).1]; exact W5.c hk
        · rw [(s6 _ (by omega)).1, (f5.c (by decide) (by decide)).1]; exact W4.k hk
        · rw [(s6 _ (by omega)).1]; exact ag s hs
        · rw [(s6 _ (by omega)).2.1]; exact cl s hs o ho
      · rw [e6, vi_seti, if_pos ⟨rfl, rfl⟩]
  · have z0 : ¬ (pAll T n).1 = 0 := z
    rw [cif_F z0, cif_F z0] at hq
    have X4 := (tp M3 17 r3).resolve_right (by omega)
    have e4' : M4 = seti M3 (x + 1) 1 (nI 0) := e4
    rw [← e4'] at X4
    have lt2 : (pAll T n).1 < 100000 := lt
    have ev : vi M4 (x + 1) 3 = nI (pAll T n).1 := by rw [e4, vi_seti, if_neg (by omega)]; exact h3.1.ff
    rw [ev, il_0, eq_I (by omega) (by omega)]
    exact ⟨fun y => absurd y z0, fun _ => hq _ M4 c X4.1 (by omega) X4.2⟩
end
