/-! THE CLASS'S READER OF MARKS: a clause, all of them -/
def rL (x b : Nat) : Prop := b = x + 1 ∨ b = x + 15 ∨ b = x + 16 ∨ b = x + 17
/-- the reader was at work, its row of MARKS, too -/
def Rl (x n : Nat) (M M' : Mem) : Prop := Grw (rL x) M M' ∧ vr M' (x + 1) = vr M (x + 1) ∧ vi M' (x + 1) 1 = vi M (x + 1) 1 ∧ vr M' (x + 15) = vr M (x + 15) ∧ mN M' ≤ mN M + 2 * n ∧ mS M' ≤ mS M + 28 * n
section
variable {x n n' p f p' f' : Nat} {M M' M'' : Mem} {t : TpT} {S : ShT}
theorem Rl.trans (h : Rl x n M M') (h2 : Rl x n' M' M'') : Rl x (n + n') M M'' :=
  ⟨h.1.trans h2.1, h2.2.1.trans h.2.1, h2.2.2.1.trans h.2.2.1, h2.2.2.2.1.trans h.2.2.2.1, by have := h.2.2.2.2.1; have := h2.2.2.2.2.1; omega, by have := h.2.2.2.2.2; have := h2.2.2.2.2.2; omega⟩
theorem Rl.up (h : Rl x n M M') (hn : n ≤ n') : Rl x n' M M' := ⟨h.1, h.2.1, h.2.2.1, h.2.2.2.1, by have := h.2.2.2.2.1; omega, by have := h.2.2.2.2.2; omega⟩
theorem Rm.l (h : Rm x n M M') : Rl x n M M' := ⟨h.1.sub (fun b z => by unfold rE at z; unfold rL; omega), h.2.1, h.2.2.1, h.2.2.2.1, h.2.2.2.2.2.1, h.2.2.2.2.2.2⟩
theorem RDA.stepL (h : RDA M x t S p f) (r : Rl x n M M') (ht : tpA M' (x + 1) t p' f') : RDA M' x t S p' f' := by
  have F := h.2.2.2.1
  have lx := h.2.2.2.2.1
  refine ⟨ht, r.1.ob F h.2.1 r.2.2.2.1 (by decide), r.1.ob2 F h.2.2.1 (fun z => by unfold rL at z; omega) (by decide), r.1.2.2.2, Nat.le_trans lx r.1.2.1, ?_, fun k hk => ?_, h.2.2.2.2.2.2.2⟩
  · rw [((r.1.1 (x + 3) (by omega)).2.2 (fun z => by unfold rL at z; omega)).1]; exact h.2.2.2.2.2.1
  · rw [((r.1.1 (x + 4) (by omega)).2.2 (fun z => by unfold rL at z; omega)).1]; exact h.2.2.2.2.2.2.1 k hk
theorem RDA.keepL (h : RDA M x t S p f) (r : Rl x n M M') (s0 : vi M' (x + 1) = vi M (x + 1)) : RDA M' x t S p f :=
  h.stepL r (h.1.sm (r.1.ob h.fr h.1.1 r.2.1 (by decide)) s0 ((r.1.1 (x + 2) (by have := h.2.2.2.2.1; omega)).2.2 (fun z => by unfold rL at z; omega)).1)
theorem Rl.s1 {v : Int32} (F0 : frM M) : Rl x 0 M (seti M (x + 15) 1 v) :=
  ⟨Grw.si F0 (Or.inr (Or.inl rfl)), rfl, by rw [vi_seti, if_neg (by omega)], rfl, Nat.le_refl _, Nat.le_refl _⟩
theorem Rl.sr {v : Option Nat} {k : Nat} (F0 : frM M) : Rl x 0 M (setr M (x + 16) k v) :=
  ⟨Grw.sr F0 (Or.inr (Or.inr (Or.inl rfl))), by funext j; rw [vr_setr, if_neg (by omega)], rfl, by funext j; rw [vr_setr, if_neg (by omega)], Nat.le_refl _, Nat.le_refl _⟩
theorem nwM.keep {N o : Nat} {y : MkT} (h : nwM N M o y) (F : frM M) (r : Rl x n M M') (hN : x + 101 ≤ N) : nwM N M' o y := by
  have z := r.1.mk F h.1 h.2.1 h.2.2 (fun b hb => by unfold rL at hb; omega)
  exact ⟨z.1, h.2.1, z.2⟩
end
section
variable {G : GT} {d x p f n : Nat} {M M' : Mem} {t : TpT} {S : ShT}
theorem flw_v : strB.getD 0 [] ++ [32] = flw vWs := by decide +kernel
theorem vWs_ok : ∀ w ∈ vWs, w ≠ [] ∧ ∀ c ∈ w, c ≠ 32 := by decide +kernel
theorem k_readClause0 {a : Int32} {Q : Mem → Prop} (h : RDA M x t S p f) (p4 : p ≤ t.1) (f0 : ¬ f = 0) (f4 : f < 100000) (hq : Q M) : CV G (d + 6) 60 [.ref (x + 15), .ref (x + 1), .ref (x + 3), .int a] M Q := by
  refine c_X6_readClause h.2.1 h.1.1 h.2.2.1 ?_
  refine k_takeWord (ws := vWs) (by decide) flw_v vWs_ok h.1 p4 f4 (fun z => absurd z f0) (fun _ => ⟨⟨h.2.1, h.1.1, h.2.2.1⟩, fun c => absurd rfl c, fun _ => ?_⟩)
  exact k_fail0 h.1 f0 f4 ⟨⟨h.2.1, h.1.1, h.2.2.1⟩, hq⟩
theorem k_readClause {hh s : Nat} {Q : Mem → Prop} (h : RDA M x t S p 0) (p4 : p ≤ t.1) (hs : vi M (x + 15) 1 = nI s) (h16 : hh + s ≤ 16)
    (hy : (pC t S (hh + s) p).1 = 0 → ∀ M' ob, Rl x 1 M M' → RDA M' x t S (skB t (pC t S (hh + s) p).2.2) 0 → vi M' (x + 15) 1 = nI (s + 1) → vr M' (x + 16) s = some ob → (∀ j, j ≠ s → vr M' (x + 16) j = vr M (x + 16) j) → nwM (mN M) M' ob (pC t S (hh + s) p).2.1 → Q M')
    (hn : ¬ (pC t S (hh + s) p).1 = 0 → ∀ M' q, Rl x 1 M M' → RDA M' x t S q (pC t S (hh + s) p).1 → Q M') : CV G (d + 6) 60 [.ref (x + 15), .ref (x + 1), .ref (x + 3), .int (nI hh)] M Q := by
  have t4 := h.1.2.2.1
  have wq := wl_le p4
  have lt := pC_lt (S := S) (n := hh + s) t4 p4
  refine c_X6_readClause h.2.1 h.1.1 h.2.2.1 ?_
  -- a FAULT at the start
  have bad : ∀ (M1 : Mem) (q c : Nat), c < 8 → (pC t S (hh + s) p).1 = flt p c → Rm x 0 M M1 → RDA M1 x t S q 0 → CV G (d + 5) 91 [.ref (x + 1), .int (vi M (x + 1) 2), .int (nI c)] M1 (fun M3 => (ObAt 6 M3 (x + 15) ∧ ObAt 9 M3 (x + 1) ∧ ObAt 8 M3 (x + 3)) ∧ Q M3) := by
    intro M1 q c hc e r1 h1
    rw [h.1.pp]
    refine k_fail h1.1 (by omega) (fun M6 g6 h6 => ?_)
    have r6 := Rm.tp g6 h1.fr (by decide)
    rw [if_pos rfl, ← e] at h6
    have H := h1.step r6 h6
    exact ⟨⟨H.2.1, H.1.1, H.2.2.1⟩, hn (by rw [e]; exact flt_ne _ _) M6 q ((r1.tr0 r6).l.up (by omega)) H⟩
  refine k_takeWord (ws := vWs) (by decide) flw_v vWs_ok h.1 p4 (by omega) (fun _ k hk M1 g1 t1 => ?_) (fun z => ⟨⟨h.2.1, h.1.1, h.2.2.1⟩, fun c => absurd rfl c, fun _ => bad M p 0 (by omega) ?_ (Rm.refl h.fr) h⟩)
  · have v := wix_vIx hk
    have r1 := Rm.tp g1 h.fr (by decide)
    have h1 := h.step r1 t1
    have e1 : vi M1 (x + 15) 1 = nI s := by rw [r1.2.2.2.2.1]; exact hs
    refine ⟨⟨h1.2.1, h1.1.1, h1.2.2.1⟩, fun _ => ?_, fun c => absurd c (by rw [il_m1, nm_eq (by decide) (by decide) (by omega)]; exact id)⟩
    rw [e1, show (16 : Int32) = nI 16 from rfl, le_I (by omega) (by omega), nI_add, lt_I (by omega) (by omega)]
    have room : hh + s = 16 → (pC t S (hh + s) p).1 = flt p 4 := fun z => by
      unfold pC; rw [cif_F (by omega), cif_T z]; rfl
    refine ⟨fun c => absurd c (nlt0 _ (by omega)), fun _ => ⟨fun c => bad M1 _ 4 (by omega) (room (by omega)) r1 h1, fun c => ⟨fun c16 => ?_, fun c16 => bad M1 _ 4 (by omega) (room (by omega)) r1 h1⟩⟩⟩
    have pe : pC t S (hh + s) p = pM t S k (skB t (p + wl t p)) := by
      unfold pC; rw [cif_F (by omega), cif_F (by omega), v.2]
    rw [pe] at hy hn
    have el : elN (mK M1 (x + 16)) + 1 = 6 := by rw [show mK M1 (x + 16) = 19 from ob6_k0 h1.2.1]; rfl
    refine k_readMark h1 (skB_le wq).2 v.1 ⟨fun z M5 ob r5 h5 nw => ⟨⟨h5.2.1, h5.1.1, h5.2.2.1⟩, fun r6 e6 => ⟨vp_in_nI (by omega) (by omega), ?_, fun M7 e7 M8 e8 => ?_⟩, fun e => (by cases e)⟩, fun z M5 q r5 h5 => ⟨⟨h5.2.1, h5.1.1, h5.2.2.1⟩, fun r6 e6 => (by cases e6), fun _ => ⟨vp_in_nI (by omega) (by omega), fun M7 e7 M8 e8 => ?_⟩⟩⟩
    · cases e6
      rw [show mK M5 (x + 15 + 1) = 19 from ob6_k0 h5.2.1, nw.1.k]; rfl
    · cases e6
      rw [nI_clamp (by omega)] at e7
      have q7 : Rl x 0 M5 M7 := by rw [e7]; exact Rl.sr h5.fr
      have h7 : RDA M7 x t S _ 0 := h5.keepL q7 (by rw [e7, vi_setr])
      have s7 : vi M7 (x + 15) 1 = nI s := by rw [e7, vi_setr, r5.2.2.2.2.1]; exact e1
      rw [s7, nI_1] at e8
      have q8 : Rl x 0 M7 M8 := by rw [e8]; exact Rl.s1 h7.fr
      have h8 : RDA M8 x t S _ 0 := h7.keepL q8 (by rw [e8]; funext k; rw [vi_seti, if_neg (by omega)])
      have all : Rl x 1 M M8 := ((r1.tr0 r5).l.trans (q7.trans q8)).up (by omega)
      have le := r1.1.2.1
      have lx := h1.2.2.2.2.1
      refine hy z M8 ob all h8 (by rw [e8, vi_seti, if_pos ⟨rfl, rfl⟩]) ?_ (fun j hj => ?_) ?_
      · rw [e8, vr_seti, e7, vr_setr, if_pos ⟨rfl, rfl⟩]
      · rw [e8, vr_seti, e7, vr_setr, if_neg (fun z => hj z.2), ((r5.1.1 (x + 16) (by omega)).2.2 (fun z => by unfold rE at z; omega)).2.2, ((r1.1.1 (x + 16) (by have := h.2.2.2.2.1; omega)).2.2 (fun z => by unfold rE at z; omega)).2.2]
      · have n1 := (nw.keep h5.fr q7 lx).keep h7.fr q8 lx
        exact ⟨n1.1, Nat.le_trans le n1.2.1, fun t et => Nat.le_trans le (n1.2.2 t et)⟩
    · rw [nI_clamp (by omega)] at e7
      have q7 : Rl x 0 M5 M7 := by rw [e7]; exact Rl.sr h5.fr
      have h7 : RDA M7 x t S _ _ := h5.keepL q7 (by rw [e7, vi_setr])
      have q8 : Rl x 0 M7 M8 := by rw [e8]; exact Rl.s1 h7.fr
      have h8 : RDA M8 x t S _ _ := h7.keepL q8 (by rw [e8]; funext k; rw [vi_seti, if_neg (by omega)])
      exact hn z M8 q (((r1.tr0 r5).l.trans (q7.trans q8)).up (by omega)) h8
  · unfold pC; rw [cif_T (wix_v8 (z rfl))]; rfl
theorem k_readMarks {hh q0 e0 : Nat} {Q : Mem → Prop} (h : RDA M x t S q0 e0) (h16 : hh ≤ 16)
    (hy : (pL t S 17 hh 0 []).1 = 0 → ∀ M' q, Rl x 17 M M' → RDA M' x t S q 0 → vi M' (x + 15) 1 = nI (pL t S 17 hh 0 []).2.length → hh + (pL t S 17 hh 0 []).2.length ≤ 16 → (∀ i, i < (pL t S 17 hh 0 []).2.length → okM (gN S) ((pL t S 17 hh 0 []).2.getD i dMk) ∧ ∃ ob, vr M' (x + 16) i = some ob ∧ nwM (mN M) M' ob ((pL t S 17 hh 0 []).2.getD i dMk)) → Q M')
    (hn : ¬ (pL t S 17 hh 0 []).1 = 0 → (pL t S 17 hh 0 []).1 < 100000 → ∀ M' q, Rl x 17 M M' → RDA M' x t S q (pL t S 17 hh 0 []).1 → Q M') : CV G (d + 7) 59 [.ref (x + 15), .ref (x + 1), .ref (x + 3), .int (nI hh)] M Q := by
  have t4 := h.1.2.2.1
  have g4 := h.2.2.2.2.2.2.2
  have lx := h.2.2.2.2.1
  generalize hP : pL t S 17 hh 0 [] = P at *
  refine c_X6_readMarks h.2.1 h.1.1 h.2.2.1 (k_rewind h.1 (fun M1 g1 t1 => ?_))
  have r1 := Rm.tp g1 h.fr (by decide)
  have h1 := h.step r1 t1
  refine ⟨⟨h1.2.1, h1.1.1, h1.2.2.1⟩, fun M2 e2 => ?_⟩
  have q2 : Rl x 0 M1 M2 := by rw [e2]; exact Rl.s1 h1.fr
  have h2 : RDA M2 x t S (skB t 0) 0 := h1.keepL q2 (by rw [e2]; funext k; rw [vi_seti, if_neg (by omega)])
  have key : ∀ (k p : Nat) (acc : List MkT) (Mx : Mem), k + acc.length = 17 → hh + acc.length ≤ 16 → p ≤ t.1 → P = pL t S k (hh + acc.length) p acc → Rl x acc.length M Mx → RDA Mx x t S (skB t p) 0 → vi Mx (x + 15) 1 = nI acc.length →
      (∀ i, i < acc.length → okM (gN S) (acc.getD i dMk) ∧ ∃ ob, vr Mx (x + 16) i = some ob ∧ nwM (mN M) Mx ob (acc.getD i dMk)) → At G (d + 7) 59 12 [(0, .ref (x + 15)), (1, .ref (x + 1)), (2, .ref (x + 3)), (3, .int (nI hh)), (4, .int (nI acc.length))] [] Mx (qV Q) := by
    intro k
    induction k with
    | zero => intro p acc Mx e1 e2; omega
    | succ k ih =>
      intro p acc Mx e1 e2 p4 pe rx hx ex sl
      have sk := skB_le p4
      have lt := pC_lt (S := S) (n := hh + acc.length) t4 sk.2
      unfold pL at pe
      refine c_X6_readMarks_12 hx.2.1 hx.1.1 hx.2.2.1 ⟨fun c => absurd c (nI_nlt (a := 16) (b := acc.length) (by omega) (by omega)), fun _ => ?_⟩
      refine k_readClause hx sk.2 ex e2 (fun z M3 ob r3 h3 e3 e4 e5 nw => ⟨⟨h3.2.1, h3.1.1, h3.2.2.1⟩, ?_⟩) (fun z M3 q r3 h3 => ⟨⟨h3.2.1, h3.1.1, h3.2.2.1⟩, ?_⟩)
      · have ok := pC_ok g4 sk.2 z
        rw [cif_T z] at pe
        generalize pC t S (hh + acc.length) (skB t p) = r at *
        obtain ⟨ra, rm, rq⟩ := r
        dsimp only at ok nw h3 pe
        have skq := skB_le ok.2.2
        have el : (acc ++ [rm]).length = acc.length + 1 := by rw [List.length_append]; rfl
        have R3 : Rl x (acc.length + 1) M M3 := rx.trans r3
        have ln := ok.1
        have sl3 : ∀ i, i < (acc ++ [rm]).length → okM (gN S) ((acc ++ [rm]).getD i dMk) ∧ ∃ ob, vr M3 (x + 16) i = some ob ∧ nwM (mN M) M3 ob ((acc ++ [rm]).getD i dMk) := by
          intro i hi
          rw [el] at hi
          rcases Nat.lt_or_ge i acc.length with u | u
          · obtain ⟨s1, o1, s2, s3⟩ := sl i u
            rw [gA_l u]
            exact ⟨s1, o1, by rw [e5 i (by omega)]; exact s2, s3.keep hx.fr r3 lx⟩
          · have e : i = acc.length := by omega
            rw [e, gA_r]
            have le := rx.1.2.1
            exact ⟨ok.2.1, ob, e4, nw.1, Nat.le_trans le nw.2.1, fun t et => Nat.le_trans le (nw.2.2 t et)⟩
        rw [h3.1.ff]
        refine ⟨fun c => absurd rfl c, fun _ => k_peek h3.1 (by omega) ⟨⟨h3.2.1, h3.1.1, h3.2.2.1⟩, ?_⟩⟩
        by_cases c : skB t rq < t.1
        · rw [cif_T c] at pe
          have tb := h3.1.2.2.2.1 _ c
          have pk1 : pk t (skB t rq) = t.2 (skB t rq) := cif_T c
          have nm : ¬ pk t (skB t rq) = -1 := fun z => by rw [pk1] at z; rw [z] at tb; exact absurd tb.1 (by decide)
          refine ⟨fun _ => ?_, fun y => absurd y nm⟩
          refine k_takeSign h3.1 (by omega) (by omega) (fun _ y M6 g6 t6 => ?_) (fun y => ⟨⟨h3.2.1, h3.1.1, h3.2.2.1⟩, fun c => absurd rfl c, fun _ => ?_⟩)
          · have c59 : t.2 (skB t rq) = 59 := by rw [← pk1]; exact y.elim id id
            rw [cif_T c59] at pe
            have r6 := Rm.tp g6 h3.fr (by decide)
            have h6 := h3.step r6 t6
            refine ⟨⟨h6.2.1, h6.1.1, h6.2.2.1⟩, fun _ => ?_, fun y => absurd y nm⟩
            have := ih (skB t rq + 1) (acc ++ [rm]) M6 (by omega) (by omega) (by omega) (by rw [el]; exact pe) (by rw [el]; exact (R3.trans r6.l).up (by omega)) h6 (by rw [el, r6.2.2.2.2.1]; exact e3) (fun i hi => ?_)
            · rw [el] at this
              rw [nI_1]; exact this
            · obtain ⟨s1, o1, s2, s3⟩ := sl3 i hi
              refine ⟨s1, o1, ?_, s3.keep h3.fr r6.l lx⟩
              rw [((r6.1.1 (x + 16) (by have := h3.2.2.2.2.1; omega)).2.2 (fun z => by unfold rE at z; omega)).2.2]; exact s2
          · have c59 : ¬ t.2 (skB t rq) = 59 := fun z => y ⟨rfl, Or.inl (by rw [pk1]; exact z)⟩
            rw [cif_F c59] at pe
            rw [h3.1.pp]
            refine k_fail (c := 0) h3.1 (by omega) (fun M8 g8 t8 => ?_)
            have r8 := Rm.tp g8 h3.fr (by decide)
            rw [if_pos rfl] at t8
            have h8 := h3.step r8 t8
            have fl := flt_lt (p := skB t rq) (c := 0) (by omega) (by omega)
            have fin : ∀ M9, M9 = M8 → Q M9 := fun M9 e9 => by
              subst e9
              have e : P.1 = flt (skB t rq) 0 := by rw [pe]
              exact hn (by rw [e]; exact flt_ne _ _) (by rw [e]; exact fl) _ _ ((R3.trans r8.l).up (by omega)) (by rw [e]; exact h8)
            refine ⟨⟨h8.2.1, h8.1.1, h8.2.2.1⟩, c_X6_readMarks_12 h8.2.1 h8.1.1 h8.2.2.1 ⟨fun _ => fin M8 rfl, fun _ => ?_⟩⟩
            refine k_readClause0 h8 skq.2 (flt_ne _ _) fl ⟨⟨h8.2.1, h8.1.1, h8.2.2.1⟩, ?_⟩
            rw [h8.1.ff, il_0, eq_I (by omega) (by omega)]
            exact ⟨fun _ => fin M8 rfl, fun z => absurd z (flt_ne _ _)⟩
        · rw [cif_F c] at pe
          rw [show pk t (skB t rq) = -1 from cif_F c]
          refine ⟨fun y => absurd rfl y, fun _ => ?_⟩
          rw [pe] at hy
          exact hy rfl M3 _ (R3.up (by omega)) h3 (by rw [el]; exact e3) (by rw [el]; omega) sl3
      · rw [cif_F z] at pe
        rw [h3.1.ff, il_0, eq_I (by omega) (by omega)]
        refine ⟨fun _ => ?_, fun y => absurd y z⟩
        have e : P.1 = (pC t S (hh + acc.length) (skB t p)).1 := by rw [pe]
        exact hn (by rw [e]; exact z) (by rw [e]; exact lt) M3 q ((rx.trans r3).up (by omega)) (by rw [e]; exact h3)
  exact key 17 0 [] M2 rfl (by simpa using h16) (Nat.zero_le _) hP.symm ((r1.l.trans q2).up (by decide)) h2 (by rw [e2, vi_seti, if_pos ⟨rfl, rfl⟩]; rfl) (fun i hi => absurd hi (Nat.not_lt_zero i))
end
