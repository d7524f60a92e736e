/-! THE TEXT: the reference makes it; OUT, READS -/
section
variable {G : GT} {d : Nat} {M M' : Mem} {m : Nat} {S : ShT} {L : List Nat} {p dn : Nat → Prop} {T : StT}
theorem tuR.fr {i : Nat} (h : tuR M m S p i) (e1 : vi M' (m + 29) = vi M (m + 29)) (e2 : vi M' (m + 32) = vi M (m + 32)) : tuR M' m S p i := fun q hq => by rw [e1, e2]; exact h q hq
theorem tuR.no {i : Nat} (h : tuR M m S p i) (n : ∀ k : Int32, k = 1 ∨ k = 2 ∨ k = 3 → ¬ (p i ∧ kK (kM S i) = k)) : tuR M m S p (i + 1) := fun q hq => by
  have c : ∀ k : Int32, k = 1 ∨ k = 2 ∨ k = 3 → (covU S p (i + 1) k q ↔ covU S p i k q) := fun k hk => covU_n (fun z => n k hk ⟨z.1, z.2.1⟩)
  rw [ltU_n (c 2 (by simp)) (c 3 (by simp)), bI_c (c 1 (by simp))]
  exact h q hq
theorem enI_r {i : Nat} {n : Nat} (h : i < n) : enI ((List.range n).getD i 0) = enI i := by
  rw [List.getD_eq_getElem?_getD, List.getElem?_range h]; rfl
theorem s_makes {Q : Mem → Prop} (R : RS M m S) (hp : pOk S p) (tk : bR M (m + 31) p) (hq : ∀ M', Frl m [43, 44] [26, 27, 28, 29, 30, 32] M M' → txR M' m (txt S p) → Q M') : CV G (d + 4) 237 [.ref m] M Q := by
  have V := R.2.1
  have g2 := V.g
  have RR : ∀ {M' : Mem}, Frl m [43, 44] [26, 27, 28, 29, 30, 32] M M' → RS M' m S := fun g => R.fr g (fun o ho => by simp; omega)
  have TK : ∀ {M' : Mem}, Frl m [43, 44] [26, 27, 28, 29, 30, 32] M M' → bR M' (m + 31) p := fun g => tk.fr (by funext i; exact g.i (by decide) (by decide) i)
  -- writing
  have l5 : ∀ (L : List Nat) (dn : Nat → Prop), mvI S p dn L → its S p = L → ∀ (j k : Nat) (Mx : Mem), j + k = L.length → Frl m [43, 44] [26, 27, 28, 29, 30, 32] M Mx → rAr Mx (m + 27) L → vi Mx m 43 = nI L.length → tuR Mx m S p 64 → txR Mx m ((L.take k).flatMap (outI S p)) → At G (d + 4) 237 186 [(0, .ref m), (3, .int (nI k))] [] Mx (qV Q) := by
    intro L dn mv et j
    have len := mv.len
    induction j with
    | zero =>
      intro k Mx e gx a7 h43 tu tx
      have e : k = L.length := by omega
      rw [e, List.take_length] at tx
      refine r_makes_186 (gx.ra R.1) ?_
      rw [h43, e]
      refine ⟨fun _ => hq Mx gx ?_, fun z => absurd (nI_le (Nat.le_refl _) (by omega)) z⟩
      unfold txt
      rw [et]; exact tx
    | succ j ih =>
      intro k Mx e gx a7 h43 tu tx
      have hk : k < L.length := by omega
      have vk : vp_in (nI k) 401 := vp_in_nI (by omega) (by omega)
      have Rx := RR gx
      have fm := fm_2000 V hp mv k
      have xk := (mv.2.1 _).mp (gD_mem hk)
      have nx : ∀ (M1 : Mem), Frl m [44] [30] Mx M1 → txR M1 m ((L.take k).flatMap (outI S p) ++ outI S p (L.getD k 0)) → At G (d + 4) 237 186 [(0, .ref m), (3, .int (nI (k + 1)))] [] M1 (qV Q) := fun M1 g1 t1 => by
        refine ih (k + 1) M1 (by omega) (gx.trans (g1.sub (by decide) (by decide))) (a7.fr (by funext i; exact g1.i (by decide) (by decide) i)) (by rw [g1.f (by decide) (by decide)]; exact h43) (tu.fr (by funext i; exact g1.i (by decide) (by decide) i) (by funext i; exact g1.i (by decide) (by decide) i)) ?_
        rw [take_s hk, List.flatMap_append, List.flatMap_cons, List.flatMap_nil, List.append_nil]
        exact t1
      refine r_makes_186 Rx.1 ?_
      rw [h43, le_I (by omega) (by omega), nI_clamp (n := k) (by omega), a7 k hk, nI_1]
      refine ⟨fun z => absurd z (by omega), fun _ => ⟨vk, ?_⟩⟩
      generalize hx : L.getD k 0 = x at *
      by_cases c : x % 2 = 0
      · obtain ⟨q, eq⟩ : ∃ q, x = 2 * q := ⟨x / 2, by omega⟩
        subst eq
        rw [enI_e, show (1000 : Int32) = nI 1000 from rfl, lt_I (by omega) (by omega), pk_sub (by omega), show 1000 + q - 1000 = q by omega]
        refine ⟨fun z => absurd z (by omega), fun _ => ⟨vk, s_putsIn Rx hp (TK gx) (by omega) tx (by omega) (fun M1 g1 t1 => ⟨g1.ra Rx.1, nx M1 g1 ?_⟩)⟩⟩
        unfold outI
        rw [if_pos c, show 2 * q / 2 = q by omega]
        exact t1
      · obtain ⟨q, eq⟩ : ∃ q, x = 2 * q + 1 := ⟨x / 2, by omega⟩
        subst eq
        have tq := tu q (by omega)
        rw [enI_o, show (1000 : Int32) = nI 1000 from rfl, lt_I (by omega) (by omega), nI_clamp (n := q) (by omega), tq.1, tq.2]
        have vq : vp_in (nI q) 200 := vp_in_nI (by omega) (by omega)
        have eo : outI S p (2 * q + 1) = cif (covU S p 64 1 q) [] [ltU S p 64 q] := by
          unfold outI
          rw [if_neg c, show (2 * q + 1) / 2 = q by omega]; rfl
        rw [eo] at nx
        refine ⟨fun _ => ⟨vk, vq, bnz (fun y => ?_) (fun y => ⟨vk, vq, s_writes Rx.1 tx (by omega) (fun M1 g1 t1 => ⟨g1.ra Rx.1, nx M1 g1 ?_⟩)⟩)⟩, fun z => absurd (by omega) z⟩
        · refine nx Mx Frl.refl ?_
          rw [cif_T y, List.append_nil]; exact tx
        · rw [cif_F y]; exact t1
  -- what touches
  have l4 : ∀ (L : List Nat) (dn : Nat → Prop), mvI S p dn L → its S p = L → ∀ (j i : Nat) (Mx : Mem), j + i = 64 → Frl m [43, 44] [26, 27, 28, 29, 30, 32] M Mx → rAr Mx (m + 27) L → vi Mx m 43 = nI L.length → tuR Mx m S p i → At G (d + 4) 237 136 [(0, .ref m), (3, .int (nI i))] [] Mx (qV Q) := by
    intro L dn mv et j
    induction j with
    | zero =>
      intro i Mx e gx a7 h43 tu
      have e : i = 64 := by omega
      subst e
      refine r_makes_136 (gx.ra R.1) ⟨fun _ M1 e1 => ?_, fun z => absurd (show (64 : Int32) ≤ nI 64 from nI_le (a := 64) (by omega) (by omega)) z⟩
      have g1 : Frl m [44] [] Mx M1 := by rw [e1]; exact Frl.sf (by decide)
      refine l5 L dn mv et L.length 0 M1 rfl (gx.trans (g1.sub (by decide) (by decide))) (a7.fr (by funext i; exact g1.i (by decide) (by decide) i)) (by rw [g1.f (by decide) (by decide)]; exact h43) (tu.fr (by funext i; exact g1.i (by decide) (by decide) i) (by funext i; exact g1.i (by decide) (by decide) i)) ⟨?_, fun i hi => absurd hi (Nat.not_lt_zero i)⟩
      rw [e1, vi_seti, if_pos ⟨rfl, rfl⟩]; rfl
    | succ j ih =>
      intro i Mx e gx a7 h43 tu
      have v6 : vp_in (nI i) 64 := vp_in_nI (by omega) (by omega)
      have Rx := RR gx
      have nx : (∀ k : Int32, k = 1 ∨ k = 2 ∨ k = 3 → ¬ (p i ∧ kK (kM S i) = k)) → At G (d + 4) 237 136 [(0, .ref m), (3, .int (nI (i + 1)))] [] Mx (qV Q) := fun n => ih (i + 1) Mx (by omega) gx a7 h43 (tu.no n)
      refine r_makes_136 Rx.1 ⟨fun z => absurd z (nI_ge (a := i) (b := 64) (by omega) (by decide)), fun _ => ⟨v6, ?_⟩⟩
      rw [nI_clamp (by omega), TK gx i (by omega), nI_1]
      refine bz (fun pi => ⟨v6, ?_⟩) (fun pi => nx (fun k _ z => pi z.1))
      have is := hp.1 i pi
      rw [Rx.2.2.m7 is]
      have kb := (V.m is).1
      refine s_in (kK (kM S i) = 1 ∨ kK (kM S i) = 2 ∨ kK (kM S i) = 3) ?_ ⟨Rx.1, bz (fun y => s_touches Rx hp pi y tu (fun M1 g1 t1 => ⟨g1.ra Rx.1, ?_⟩)) (fun y => nx (fun k hk z => y (by rw [z.2]; exact hk)))⟩
      · rw [Int32.toInt_toInt64, show (1 : Int64).toInt = 1 from rfl, show (3 : Int64).toInt = 3 from rfl, fa_eq, fa_eq, fa_eq, show (1 : Int32).toInt = 1 from rfl, show (2 : Int32).toInt = 2 from rfl, show (3 : Int32).toInt = 3 from rfl]
        omega
      · exact ih (i + 1) M1 (by omega) (gx.trans (g1.sub (by decide) (by decide))) (a7.fr (by funext i; exact g1.i (by decide) (by decide) i)) (by rw [g1.f (by decide) (by decide)]; exact h43) t1
  -- the moves
  have l3 : ∀ (n : Nat) (L : List Nat) (dn : Nat → Prop) (Mx : Mem), nMv S p dn ≤ n → n ≤ 64 → mvI S p dn L → its S p = mvs S p n dn L → Frl m [43, 44] [26, 27, 28, 29, 30, 32] M Mx → rAr Mx (m + 27) L → vi Mx m 43 = nI L.length → tuR Mx m S p 0 → bR Mx (m + 26) dn → At G (d + 4) 237 111 [(0, .ref m), (2, .int (hvI (wd S p dn 64)))] [] Mx (qV Q) := by
    intro n
    induction n with
    | zero =>
      intro L dn Mx hn hc mv et gx a7 h43 tu dk
      have no : wd S p dn 64 = none := by
        cases hb : wd S p dn 64 with
        | none => rfl
        | some b => exact absurd (wd_some 64 b hb).2.1 (ct_0 (p := isMv S p dn) 64 (by unfold nMv at hn; omega) b (wd_some 64 b hb).1)
      rw [no]
      exact r_makes_111 (gx.ra R.1) ⟨fun _ => l4 L dn mv et 64 0 Mx rfl gx a7 h43 tu, fun z => absurd rfl z⟩
    | succ n ih =>
      intro L dn Mx hn hc mv et gx a7 h43 tu dk
      have Rx := RR gx
      have et : its S p = (match wd S p dn 64 with | none => L | some b => mvs S p n (dnN S p dn b) (mvB S L b)) := et
      cases hb : wd S p dn 64 with
      | none =>
        rw [hb] at et
        exact r_makes_111 (gx.ra R.1) ⟨fun _ => l4 L dn mv et 64 0 Mx rfl gx a7 h43 tu, fun z => absurd rfl z⟩
      | some b =>
        rw [hb] at et
        dsimp only at et
        have q := wd_some 64 b hb
        have eb : hvI (some b) = nI b := rfl
        have mvn := mv.s V hp hb
        have l1 := mv.len
        have l2 := mvn.len
        rw [eb]
        refine r_makes_111 Rx.1 ⟨fun z => absurd z (nI_neN1 (by omega)), fun _ => ?_⟩
        refine s_moves Rx hp mv q.2.1 a7 h43 (fun M1 g1 t1 => ⟨g1.ra Rx.1, ?_⟩)
        have gg1 := gx.trans (g1.sub (F' := [43, 44]) (L' := [26, 27, 28, 29, 30, 32]) (by decide) (by decide))
        refine s_doesAlike (RR gg1) hp q.2.1.1 (TK gg1) (dk.fr (by funext i; exact g1.i (by decide) (by decide) i)) (fun M2 g2 t2 => ⟨g2.ra (RR gg1).1, ?_⟩)
        have gg2 := gg1.trans (g2.sub (F' := [43, 44]) (L' := [26, 27, 28, 29, 30, 32]) (by decide) (by decide))
        refine s_widest (RR gg2) hp (TK gg2) t2 ⟨(RR gg2).1, ?_⟩
        have nm := nMv_s V hb
        refine ih (mvB S L b) (dnN S p dn b) M2 (by omega) (by omega) mvn et gg2 (t1.fr (by funext i; exact g2.i (by decide) (by decide) i)) ?_ ((tu.fr (by funext i; exact g1.i (by decide) (by decide) i) (by funext i; exact g1.i (by decide) (by decide) i)).fr (by funext i; exact g2.i (by decide) (by decide) i) (by funext i; exact g2.i (by decide) (by decide) i)) t2
        rw [g2.f (by decide) (by decide), g1.f (by decide) (by decide), h43, l1, l2]
  -- nothing is done yet
  have l2 : ∀ (j i : Nat) (Mx : Mem), j + i = 64 → Frl m [43, 44] [26, 27, 28, 29, 30, 32] M Mx → rAr Mx (m + 27) (List.range (2 * gN S + 1)) → vi Mx m 43 = nI (2 * gN S + 1) → tuR Mx m S p 0 → (∀ o, o < i → vi Mx (m + 26) o = 0) → At G (d + 4) 237 87 [(0, .ref m), (2, .int (nI i))] [] Mx (qV Q) := by
    intro j
    induction j with
    | zero =>
      intro i Mx e gx a7 h43 tu dk
      have dk : bR Mx (m + 26) (fun _ => False) := fun s hs => by rw [dk s (by omega)]; exact (bI_F id).symm
      refine r_makes_87 (gx.ra R.1) ⟨fun _ => s_widest (RR gx) hp (TK gx) dk ⟨(RR gx).1, ?_⟩, fun z => absurd (show (64 : Int32) ≤ nI i from nI_le (a := 64) (by omega) (by omega)) z⟩
      exact l3 64 _ (fun _ => False) Mx (ct_le _ _) (Nat.le_refl _) (mvI_0 V hp) rfl gx a7 (by rw [List.length_range]; exact h43) tu dk
    | succ j ih =>
      intro i Mx e gx a7 h43 tu dk
      refine r_makes_87 (gx.ra R.1) ⟨fun z => absurd z (nI_ge (a := i) (b := 64) (by omega) (by decide)), fun _ => ⟨vp_in_nI (by omega) (by omega), fun M1 e1 => ?_⟩⟩
      rw [nI_clamp (by omega), b0n] at e1
      have g1 : Frl m [] [26] Mx M1 := by rw [e1]; exact Frl.si (by decide)
      rw [nI_1]
      refine ih (i + 1) M1 (by omega) (gx.trans (g1.sub (by decide) (by decide))) (a7.fr (by funext i; exact g1.i (by decide) (by decide) i)) (by rw [g1.f (by decide) (by decide)]; exact h43) (tu.fr (by funext i; exact g1.i (by decide) (by decide) i) (by funext i; exact g1.i (by decide) (by decide) i)) (fun o ho => ?_)
      rw [e1, vi_seti]
      by_cases y : o = i
      · rw [if_pos ⟨rfl, y⟩]
      · rw [if_neg (fun z => y z.2)]; exact dk o (by omega)
  -- the items
  have l1 : ∀ (j k : Nat) (Mx : Mem), j + k = gN S → Frl m [43, 44] [26, 27, 28, 29, 30, 32] M Mx → (∀ i, i < 2 * k → vi Mx (m + 27) i = enI i) → vi Mx m 43 = nI (2 * gN S + 1) → (∀ q, q < k → vi Mx (m + 29) q = gB S q ∧ vi Mx (m + 32) q = 0) → At G (d + 4) 237 18 [(0, .ref m), (1, .int (nI (gN S))), (2, .int (nI k))] [] Mx (qV Q) := by
    intro j
    induction j with
    | zero =>
      intro k Mx e gx a7 h43 tu
      have e : k = gN S := by omega
      subst e
      refine r_makes_18 (gx.ra R.1) ⟨fun _ => ?_, fun z => absurd (nI_le (Nat.le_refl _) (by omega)) z⟩
      rw [show (2 : Int32) = nI 2 from rfl, pk_mul, show (1000 : Int32) = nI 1000 from rfl, nI_add, nI_clamp (by omega)]
      refine ⟨vp_in_nI (by omega) (by omega), fun M1 e1 => ?_⟩
      have g1 : Frl m [] [27] Mx M1 := by rw [e1]; exact Frl.si (by decide)
      refine l2 64 0 M1 rfl (gx.trans (g1.sub (by decide) (by decide))) (fun i hi => ?_) (by rw [g1.f (by decide) (by decide)]; exact h43) (fun q hq2 => ?_) (fun o ho => absurd ho (Nat.not_lt_zero o))
      · rw [List.length_range] at hi
        rw [enI_r hi, e1, vi_seti]
        by_cases y : i = 2 * gN S
        · rw [if_pos ⟨rfl, y⟩, y, enI_e]
        · rw [if_neg (fun z => y z.2)]; exact a7 i (by omega)
      · have t := tu q hq2
        rw [g1.i (by decide) (by decide), g1.i (by decide) (by decide), t.1, t.2]
        have n : ∀ k : Int32, ¬ covU S p 0 k q := fun k ⟨s, h, _⟩ => absurd h (Nat.not_lt_zero s)
        refine ⟨?_, (bI_F (n 1)).symm⟩
        unfold ltU
        rw [cif_F (fun z => n 2 z.1), cif_F (fun z => n 3 z.1)]
    | succ j ih =>
      intro k Mx e gx a7 h43 tu
      have vk : vp_in (nI k) 200 := vp_in_nI (by omega) (by omega)
      refine r_makes_18 (gx.ra R.1) ⟨fun z => absurd z (nI_ge (a := k) (b := gN S) (by omega) (by omega)), fun _ => ?_⟩
      rw [show (2 : Int32) = nI 2 from rfl, pk_mul, show (1000 : Int32) = nI 1000 from rfl, nI_add, nI_clamp (n := 2 * k) (by omega), nI_1, nI_clamp (n := 2 * k + 1) (by omega), nI_clamp (n := k) (by omega), b0n, nI_1]
      refine ⟨vp_in_nI (by omega) (by omega), fun M3 e3 => ⟨vp_in_nI (by omega) (by omega), fun M4 e4 => ⟨vk, vk, fun M5 e5 => ⟨vk, fun M6 e6 => ?_⟩⟩⟩⟩
      have g4 : Frl m [] [27] Mx M4 := by rw [e4, e3]; exact (Frl.si (by decide)).trans (Frl.si (by decide))
      have g6 : Frl m [] [27, 29, 32] Mx M6 := (g4.sub (by decide) (by decide)).trans (by rw [e6, e5]; exact (Frl.si (by decide)).trans (Frl.si (by decide)))
      have gb : vi M4 (m + 2) k = gB S k := by rw [g4.i (by decide) (by decide), gx.i (by decide) (by decide)]; exact R.2.2.gb (by omega)
      refine ih (k + 1) M6 (by omega) (gx.trans (g6.sub (by decide) (by decide))) (fun i hi => ?_) (by rw [g6.f (by decide) (by decide)]; exact h43) (fun q hq2 => ?_)
      · rw [e6, vi_seti, if_neg (by omega), e5, vi_seti, if_neg (by omega), e4, vi_seti]
        by_cases y : i = 2 * k + 1
        · rw [if_pos ⟨rfl, y⟩, y, enI_o]
        · rw [if_neg (fun z => y z.2), e3, vi_seti]
          by_cases u : i = 2 * k
          · rw [if_pos ⟨rfl, u⟩, u, enI_e]
          · rw [if_neg (fun z => u z.2)]; exact a7 i (by omega)
      · rw [e6, vi_seti, if_neg (by omega), vi_seti, e5, vi_seti, vi_seti, if_neg (show ¬ (m + 32 = m + 29 ∧ q = k) by omega), gb]
        by_cases y : q = k
        · rw [if_pos ⟨rfl, y⟩, if_pos ⟨rfl, y⟩, y]; exact ⟨rfl, rfl⟩
        · rw [if_neg (fun z => y z.2), if_neg (fun z => y z.2), g4.i (by decide) (by decide), g4.i (by decide) (by decide)]; exact tu q (by omega)
  refine r_makes R.1 ⟨v03, ?_⟩
  rw [show (0 : Int32).toNatClampNeg = 0 from rfl, R.2.2.g, show (2 : Int32) = nI 2 from rfl, pk_mul, nI_1]
  intro M1 e1
  have g1 : Frl m [43] [] M M1 := by rw [e1]; exact Frl.sf (by decide)
  exact l1 (gN S) 0 M1 rfl (g1.sub (by decide) (by decide)) (fun i hi => absurd hi (Nat.not_lt_zero i)) (by rw [e1, vi_seti, if_pos ⟨rfl, rfl⟩]) (fun q hq2 => absurd hq2 (Nat.not_lt_zero q))
/-- OUT in the reference's row -/
def ouR (M : Mem) (m : Nat) (T : List Int32) : Prop := vi M m 44 = nI T.length ∧ ∀ i, i < T.length → vi M (m + 30) i = T.getD i 0
theorem s_makesOut {l : Nat} {Q : Mem → Prop} (W : RX M m T) (hl : l < qN T) (hq : ∀ M', Frl m [43, 44] [21, 22, 23, 24, 25, 26, 27, 28, 29, 30, 31, 32] M M' → ouR M' m (ouT (sh T) (qL T l)) → bR M' (m + 31) (stS (sh T) (qL T l)) → Q M') : CV G (d + 8) 238 [.ref m, .int (nI l)] M Q := by
  have q4 := W.q4
  refine r_makesOut W.1 (s_judges W hl (fun M1 g1 h1 => ⟨g1.ra W.1, ?_⟩))
  have W1 := W.jf g1
  have key : ∀ (j i : Nat) (Mx : Mem), j + i = 64 → Frl m [] [31] M1 Mx → (∀ s, s < i → vi Mx (m + 31) s = bI (stS (sh T) (qL T l) s)) → At G (d + 8) 238 7 [(0, .ref m), (2, .int (nI i))] [] Mx (qV Q) := by
    intro j
    induction j with
    | zero =>
      intro i Mx e gx hx
      have Rx := W1.rs.fr gx (fun o ho => by simp; omega)
      refine r_makesOut_7 Rx.1 ⟨fun _ => s_makes Rx stS_ok (fun s hs => hx s (by omega)) (fun M2 g2 t2 => ⟨g2.ra Rx.1, ?_⟩), fun z => absurd (show (64 : Int32) ≤ nI i from nI_le (a := 64) (by omega) (by omega)) z⟩
      have gg : Frl m [43, 44] [21, 22, 23, 24, 25, 26, 27, 28, 29, 30, 31, 32] M M2 := (g1.sub (by decide) (by decide)).trans ((gx.sub (by decide) (by decide)).trans (g2.sub (by decide) (by decide)))
      have tk2 : bR M2 (m + 31) (stS (sh T) (qL T l)) := fun s hs => by rw [g2.i (by decide) (by decide)]; exact hx s (by omega)
      have l17 : (txt (sh T) (stS (sh T) (qL T l))).length ≤ 1700 := by
        have V := W.rs.2.1
        have m0 := mvI_0 (dn := fun _ => False) V (stS_ok (S := sh T) (L := qL T l))
        have key : ∀ (n : Nat) (dn : Nat → Prop) (L : List Nat), mvI (sh T) (stS (sh T) (qL T l)) dn L → ∃ dn', mvI (sh T) (stS (sh T) (qL T l)) dn' (mvs (sh T) (stS (sh T) (qL T l)) n dn L) := by
          intro n
          induction n with
          | zero => intro dn L h; exact ⟨dn, h⟩
          | succ n ih =>
            intro dn L h
            show ∃ dn', mvI _ _ dn' (match wd (sh T) (stS (sh T) (qL T l)) dn 64 with | none => L | some b => mvs (sh T) (stS (sh T) (qL T l)) n (dnN (sh T) (stS (sh T) (qL T l)) dn b) (mvB (sh T) L b))
            cases hb : wd (sh T) (stS (sh T) (qL T l)) dn 64 with
            | none => exact ⟨dn, h⟩
            | some b => exact ih _ _ (h.s V stS_ok hb)
        obtain ⟨dn', hm⟩ := key 64 _ _ m0
        have := fm_2000 V stS_ok hm (its (sh T) (stS (sh T) (qL T l))).length
        have ei : (its (sh T) (stS (sh T) (qL T l))).take (its (sh T) (stS (sh T) (qL T l))).length = its (sh T) (stS (sh T) (qL T l)) := List.take_length
        unfold txt
        have e2 : mvs (sh T) (stS (sh T) (qL T l)) 64 (fun _ => False) (List.range (2 * gN (sh T) + 1)) = its (sh T) (stS (sh T) (qL T l)) := rfl
        rw [e2, ei] at this
        exact this
      rw [t2.1, show (400 : Int32) = nI 400 from rfl, le_I (by omega) (by omega)]
      have fin : ∀ (M3 : Mem) (n : Nat), M3 = seti M2 m 44 (nI n) → n = (ouT (sh T) (qL T l)).length → Q M3 := fun M3 n e3 en => by
        have g3 : Frl m [44] [] M2 M3 := by rw [e3]; exact Frl.sf (by decide)
        refine hq M3 (gg.trans (g3.sub (by decide) (by decide))) ⟨by rw [e3, vi_seti, if_pos ⟨rfl, rfl⟩, en], fun i hi => ?_⟩ (tk2.fr (by funext i; exact g3.i (by decide) (by decide) i))
        rw [g3.i (by decide) (by decide)]
        unfold ouT at hi ⊢
        rw [List.length_take] at hi
        rw [t2.2 i (by omega), List.getD_eq_getElem?_getD, List.getD_eq_getElem?_getD, List.getElem?_take_of_lt (by omega)]
      refine ⟨fun z M3 e3 => fin M3 _ e3 ?_, fun z M3 e3 => fin M3 400 e3 ?_⟩
      · unfold ouT; rw [List.length_take]; omega
      · unfold ouT; rw [List.length_take]; omega
    | succ j ih =>
      intro i Mx e gx hx
      have Rx := W1.rs.fr gx (fun o ho => by simp; omega)
      have v6 : vp_in (nI i) 64 := vp_in_nI (by omega) (by omega)
      have jl := jS_le (S := sh T) (L := qL T l) (s := i)
      have go : ∀ (M3 : Mem) (z : Int32), M3 = seti Mx (m + 31) i z → z = bI (stS (sh T) (qL T l) i) → At G (d + 8) 238 7 [(0, .ref m), (2, .int (nI (i + 1)))] [] M3 (qV Q) := fun M3 z e3 ez => by
        refine ih (i + 1) M3 (by omega) (gx.trans (by rw [e3]; exact Frl.si (by decide))) (fun s hs => ?_)
        rw [e3, vi_seti]
        by_cases y : s = i
        · rw [if_pos ⟨rfl, y⟩, ez, y]
        · rw [if_neg (fun u => y u.2)]; exact hx s (by omega)
      refine r_makesOut_7 Rx.1 ⟨fun z => absurd z (nI_ge (a := i) (b := 64) (by omega) (by decide)), fun _ => ?_⟩
      rw [nI_1, b0n, b1n]
      refine s_isThere Rx (by omega) ⟨Rx.1, bz (fun is => ⟨v6, ?_⟩) (fun is => ⟨v6, fun M3 e3 => go M3 0 (by rw [nI_clamp (by omega)] at e3; exact e3) (bI_F (fun z => is z.1)).symm⟩)⟩
      rw [nI_clamp (by omega), gx.i (by decide) (by decide), h1 i (by omega), show (1 : Int32) = nI 1 from rfl, eq_I (by omega) (by omega)]
      exact ⟨fun n => ⟨v6, fun M3 e3 => go M3 0 e3 (bI_F (fun z => n z.2)).symm⟩, fun y => ⟨v6, fun M3 e3 => go M3 1 e3 (bI_T ⟨is, y⟩).symm⟩⟩
  exact key 64 0 M1 rfl Frl.refl (fun s hs => absurd hs (Nat.not_lt_zero s))
end
noncomputable def f_out (T : StT) (a : Int32) : Int32 := cif (lwOk T a) (nI (ouT (sh T) (qL T a.toNatClampNeg)).length) (-1)
noncomputable def f_reads (T : StT) (a i : Int32) : Int32 := cif (lwOk T a) (cif (0 ≤ i.toInt ∧ i.toInt < (ouT (sh T) (qL T a.toNatClampNeg)).length) ((ouT (sh T) (qL T a.toNatClampNeg)).getD i.toNatClampNeg 0) (-1)) (-1)
theorem ouT_4 {S : ShT} {L : LawT} : (ouT S L).length ≤ 400 := by unfold ouT; rw [List.length_take]; omega
section
variable {G : GT} {d : Nat} {M M' : Mem} {m : Nat} {T : StT}
theorem RX.of (W : RX M m T) (g : Frl m [43, 44] [21, 22, 23, 24, 25, 26, 27, 28, 29, 30, 31, 32] M M') : RX M' m T := W.fr g (fun o ho => by simp; omega) (by decide)
theorem m_out {a : Int32} {Q : Int32 → Mem → Prop} (W : RX M m T) (hq : ∀ M', RX M' m T → Ou m M M' → Q (f_out T a) M') : CI G (d + 9) 239 [.ref m, .int a] M Q := by
  have q4 := W.q4
  unfold f_out at hq
  refine r_out W.1 (s_isLaw W ⟨W.1, bnz (fun ca => ?_) (fun ca => by rw [cif_F ca] at hq; exact hq M W Ou.refl)⟩)
  rw [cif_T ca] at hq
  obtain ⟨l, hl, ea⟩ := asN ca.1 ca.2
  subst ea
  rw [nI_clamp (by omega)] at hq
  refine s_makesOut W hl (fun M' g o _ => ⟨g.ra W.1, ?_⟩)
  rw [o.1]
  exact hq M' (W.of g) (g.ou (by decide))
theorem m_reads {a i : Int32} {Q : Int32 → Mem → Prop} (W : RX M m T) (hq : ∀ M', RX M' m T → Ou m M M' → Q (f_reads T a i) M') : CI G (d + 9) 240 [.ref m, .int a, .int i] M Q := by
  have q4 := W.q4
  unfold f_reads at hq
  refine r_reads W.1 (s_isLaw W ⟨W.1, bnz (fun ca => ?_) (fun ca => by rw [cif_F ca] at hq; exact hq M W Ou.refl)⟩)
  rw [cif_T ca] at hq
  obtain ⟨l, hl, ea⟩ := asN ca.1 ca.2
  subst ea
  rw [nI_clamp (by omega)] at hq
  refine s_makesOut W hl (fun M' g o _ => ⟨g.ra W.1, ?_⟩)
  have hq := hq M' (W.of g) (g.ou (by decide))
  have o4 := ouT_4 (S := sh T) (L := qL T l)
  rw [o.1]
  refine s_in (0 ≤ i.toInt ∧ i.toInt < (ouT (sh T) (qL T l)).length) ?_ ⟨(W.of g).1, bz (fun c => ?_) (fun c => by rw [cif_F c] at hq; exact hq)⟩
  · rw [Int32.toInt_toInt64, Int32.toInt_toInt64, ll_0, show (1 : Int32) = nI 1 from rfl, pk_sub_toInt (by omega) (by omega)]
    omega
  · rw [cif_T c] at hq
    obtain ⟨k, hk, ek⟩ := asN c.1 c.2
    subst ek
    rw [nI_clamp (by omega)] at hq ⊢
    rw [o.2 k hk]
    exact ⟨vp_in_nI (by omega) (by omega), hq⟩
end
