/-! MOVED: the class's call -/
def mnF (f : Nat → Nat) : Nat → Nat
  | 0 => 2147483647
  | j + 1 => min (mnF f j) (f j)
theorem mnF_b (f : Nat → Nat) : ∀ j, mnF f j ≤ 2147483647
  | 0 => Nat.le_refl _
  | j + 1 => by have := mnF_b f j; show min (mnF f j) (f j) ≤ _; omega
theorem mnF_le {f : Nat → Nat} {i : Nat} : ∀ j, i < j → mnF f j ≤ f i
  | 0, h => absurd h (Nat.not_lt_zero i)
  | j + 1, h => by
    show min (mnF f j) (f j) ≤ _
    by_cases e : i = j
    · rw [e]; omega
    · have := mnF_le (f := f) (i := i) j (by omega); omega
theorem mnF_ge {f : Nat → Nat} {x : Nat} (hx : x ≤ 2147483647) : ∀ j, (∀ i, i < j → x ≤ f i) → x ≤ mnF f j
  | 0, _ => hx
  | j + 1, h => by
    have := mnF_ge hx j (fun i hi => h i (by omega))
    have := h j (by omega)
    show x ≤ min (mnF f j) (f j)
    omega
theorem mnF_1 {f : Nat → Nat} (h : f 0 ≤ 2147483647) : mnF f 1 = f 0 := by
  show min (mnF f 0) (f 0) = f 0
  have e : mnF f 0 = 2147483647 := rfl
  omega
section
variable {l : List Int32} {a b c i k : Nat}
theorem sl_t : sl l 0 k = l.take k := by unfold sl; rw [List.drop_zero]; rfl
theorem tk_s (h : k < l.length) : l.take (k + 1) = l.take k ++ [l.getD k 0] := by rw [← sl_t, ← sl_t]; exact sl_s (Nat.zero_le _) h
/-- the text of a move, with the place where its end begins -/
theorem mvG_1 (h : b < c) (h2 : a < b) : mvG l a b c = (l.take a ++ sl l b c ++ sl l a b) ++ l.drop c := by
  unfold mvG
  rw [if_neg (by omega), List.append_assoc, List.append_assoc]; rfl
theorem mvG_2 (h : b < c) (h2 : a < b) : mvG l b c a = (l.take a ++ sl l b c ++ sl l a b) ++ l.drop c := by
  unfold mvG
  rw [if_pos h2, List.append_assoc, List.append_assoc]; rfl
end
/-- the triples that are tried before one -/
def prc (n a b c : Nat) (x y z : Nat) : Prop := isT n x y z ∧ ((y < z ∧ lex3 x y z a b c) ∨ (z < x ∧ lex3 z x y a b c))
section
variable {G : GT} {d : Nat} {M M' : Mem} {o a : Nat} {w : Nat → Nat} {S : ShT}
theorem Frl.cp {F L : List Nat} {s q n : Nat} (hq : q ∈ L) : Frl o F L M (cpi M s 0 (o + q) 0 n) :=
  ⟨rfl, rfl, rfl, rfl, rfl, fun e k _ h4 => ⟨by rw [vi_cpi, if_neg (fun z => h4 q hq z)], rfl⟩⟩
theorem cp_rw {p : List Int32} {s q : Nat} (V : okS S) (h : rwC M s S p) : rwC (cpi M s 0 (o + q) 0 201) (o + q) S p := fun j hj => by
  have := V.w
  rw [vi_cpi, if_pos rfl]
  show (if 0 ≤ j ∧ j < 0 + 201 then vi M s (0 + (j - 0)) else _) = _
  rw [if_pos ⟨Nat.zero_le _, by omega⟩, Nat.zero_add, Nat.sub_zero]
  exact h j hj
theorem rwC.fr {p : List Int32} {F L : List Nat} {q : Nat} (h : rwC M (o + q) S p) (g : Frl o F L M M') (hq : q ∉ L) (q0 : 0 < q) : rwC M' (o + q) S p := fun j hj => by rw [g.i hq q0]; exact h j hj
theorem bhd.fr {F L : List Nat} (h : bhd M o S) (g : Frl o F L M M') (hq : 1 ∉ L) : bhd M' o S := fun i j hi hj => by rw [g.i hq (by decide)]; exact h i j hi hj
theorem k_tryMoves {x y z n : Nat} {cur : Option (Nat × Nat × Nat)} {P P' : Nat → Nat → Nat → Prop} {Q : Mem → Prop} (O : ObAt 7 M o) (H : shE M a S) (V : okS S) (dj : a + 9 ≤ o) (g4 : gN S ≤ 24) (xy : x < y) (yz : y < z) (zn : z ≤ gN S) (hr : rwC M (o + 3) S ((gL' S).take x ++ sl (gL' S) y z)) (hB : bhd M o S) (he : encC M o n cur) (hb : bs4 S P n cur) (hPi : ∀ x y z, P x y z → isT (gN S) x y z) (h1 : ∀ a b c, P' a b c → P a b c ∨ (a = x ∧ b = y ∧ c = z) ∨ (a = y ∧ b = z ∧ c = x)) (h2 : ∀ a b c, P a b c → P' a b c) (h3 : P' x y z) (h4 : P' y z x)
    (hq : ∀ M' n' cur', Frl o [1, 2, 3, 4] [4] M M' → encC M' o n' cur' → bs4 S P' n' cur' → Q M') : CV G (d + 4) 70 [.ref o, .ref a, .int (nI x), .int (nI y), .int (nI z)] M Q := by
  have w2 := V.w
  have gl : (gL' S).length = gN S := gL_len
  have n6 := bs4_le V g4 hPi hb
  have T1 : isT (gN S) x y z := ⟨xy, by omega, zn, Or.inr yz⟩
  have T2 : isT (gN S) y z x := ⟨yz, zn, by omega, Or.inl xy⟩
  have m1 := mvC_le V g4 T1
  have m2 := mvC_le V g4 T2
  have kb4 := (kc_9 V (k := 4) (by decide)).1
  have k4 : vi M (a + 6) (4 : Int32).toNatClampNeg = nI (kc S 4) := H.2.2.2.2.2 4 (by decide)
  have p1 : kc S 4 * (y - x) ≤ 3000 := Nat.le_trans (Nat.mul_le_mul kb4 (show y - x ≤ 24 by omega)) (by decide)
  have p2 : kc S 4 * (z - y) ≤ 3000 := Nat.le_trans (Nat.mul_le_mul kb4 (show z - y ≤ 24 by omega)) (by decide)
  have c1 : mvC S x y z = kc S 4 * (y - x) + edL S (((gL' S).take x ++ sl (gL' S) y z ++ sl (gL' S) x y) ++ (gL' S).drop z) (wL' S) := by unfold mvC; rw [mvG_1 yz xy]
  have c2 : mvC S y z x = kc S 4 * (z - y) + edL S (((gL' S).take x ++ sl (gL' S) y z ++ sl (gL' S) x y) ++ (gL' S).drop z) (wL' S) := by unfold mvC; rw [mvG_2 yz xy]
  -- with the first of the two
  have hm1 : ∀ a b c, (P a b c ∨ (a = x ∧ b = y ∧ c = z)) → P a b c ∨ (a = x ∧ b = y ∧ c = z) := fun _ _ _ h => h
  have hm2 : ∀ a b c, P' a b c → (P a b c ∨ (a = x ∧ b = y ∧ c = z)) ∨ (a = y ∧ b = z ∧ c = x) := fun a b c h => (h1 a b c h).elim (fun q => Or.inl (Or.inl q)) (fun q => q.elim (fun q => Or.inl (Or.inr q)) (fun q => Or.inr q))
  have hm3 : ∀ a b c, (P a b c ∨ (a = x ∧ b = y ∧ c = z)) → P' a b c := fun a b c h => h.elim (h2 a b c) (fun ⟨e1, e2, e3⟩ => by rw [e1, e2, e3]; exact h3)
  have hm4 : ∀ a b c, (P a b c ∨ (a = x ∧ b = y ∧ c = z)) → isT (gN S) a b c := fun a b c h => h.elim (hPi a b c) (fun ⟨e1, e2, e3⟩ => by rw [e1, e2, e3]; exact T1)
  refine c_X7_tryMoves O H.1 ⟨v_i (k := 4) (by decide) (by decide), fun q => absurd q (nlt0 _ (by omega)), fun _ => ⟨fun q => absurd q (by rw [show (24 : Int32) = nI 24 from rfl, lt_I (by omega) (by omega)]; omega), fun _ => ?_⟩⟩
  have mm : (if nI z - nI y < nI y - nI x then nI z - nI y else nI y - nI x) = nI (min (y - x) (z - y)) := by rw [pk_sub (by omega), pk_sub (by omega), min_I (by omega) (by omega)]
  have pm : kc S 4 * min (y - x) (z - y) ≤ 3000 := by
    have := Nat.mul_le_mul_left (kc S 4) (Nat.min_le_left (y - x) (z - y)); omega
  rw [mm, k4, pk_mul, he.1, le_I (by omega) (by omega)]
  refine ⟨fun _ M1 e1 => ?_, fun big => ?_⟩
  · -- all of it
    have e1 : M1 = cpi M (o + 3) 0 (o + 4) 0 201 := e1
    have g1 : Frl o [] [4] M M1 := by rw [e1]; exact Frl.cp (by decide)
    have r1 : rwC M1 (o + 4) S ((gL' S).take x ++ sl (gL' S) y z) := by rw [e1]; exact cp_rw V hr
    have l60 : ∀ (k i : Nat) (Mx : Mem), k + i = y → x ≤ i → Frl o [] [4] M Mx → rwC Mx (o + 4) S ((gL' S).take x ++ sl (gL' S) y z ++ sl (gL' S) x i) → At G (d + 4) 70 60 [(0, .ref o), (1, .ref a), (2, .int (nI x)), (3, .int (nI y)), (4, .int (nI z)), (5, .int (nI (kc S 4))), (6, .int (nI i))] [] Mx (qV Q) := by
      intro k
      induction k with
      | zero =>
        intro i Mx e xi gx rx
        have e : i = y := by omega
        subst e
        have Ox := gx.ob O
        have Hx := H.fr gx dj
        refine c_X7_tryMoves_60 Ox Hx.1 ?_
        rw [le_I (by omega) (by omega)]
        refine ⟨fun _ => ?_, fun q => absurd (Nat.le_refl _) q⟩
        have lP : ((gL' S).take x ++ sl (gL' S) i z ++ sl (gL' S) x i).length ≤ 99 := by
          rw [List.length_append, List.length_append, List.length_take]
          have h1 := sl_len (l := gL' S) (i := i) (j := z)
          have h2 := sl_len (l := gL' S) (i := x) (j := i)
          omega
        have sp1 := fun j => spl_le (S := S) (q := (gL' S).drop z) ((gL' S).take x ++ sl (gL' S) i z ++ sl (gL' S) x i) (wL' S) j
        obtain ⟨j0, hj0, sp2⟩ := spl_ge (S := S) (q := (gL' S).drop z) ((gL' S).take x ++ sl (gL' S) i z ++ sl (gL' S) x i) (wL' S)
        rw [wL_len] at hj0
        generalize (gL' S).take x ++ sl (gL' S) i z ++ sl (gL' S) x i = p at *
        have fb : ∀ j, edL S p ((wL' S).take j) + edL S ((gL' S).drop z) ((wL' S).drop j) ≤ 69600 := fun j => by
          have h1 := edt_b V (p := p) (j := j) (by omega)
          have h2 : edL S ((gL' S).drop z) ((wL' S).drop j) ≤ 39600 := eE_b V (i := z) (j := j)
          omega
        have xb : edL S (p ++ (gL' S).drop z) (wL' S) ≤ 69600 := Nat.le_trans (sp1 0) (fb 0)
        have fin : mnF (fun j => edL S p ((wL' S).take j) + edL S ((gL' S).drop z) ((wL' S).drop j)) (wN S + 1) = edL S (p ++ (gL' S).drop z) (wL' S) := by
          have u1 := mnF_le (f := fun j => edL S p ((wL' S).take j) + edL S ((gL' S).drop z) ((wL' S).drop j)) (i := j0) (wN S + 1) (by omega)
          have u2 := mnF_ge (f := fun j => edL S p ((wL' S).take j) + edL S ((gL' S).drop z) ((wL' S).drop j)) (x := edL S (p ++ (gL' S).drop z) (wL' S)) (by omega) (wN S + 1) (fun i _ => sp1 i)
          have u1 : _ ≤ edL S p ((wL' S).take j0) + edL S ((gL' S).drop z) ((wL' S).drop j0) := u1
          omega
        have l106 : ∀ (k j : Nat), k + j = wN S + 1 → At G (d + 4) 70 106 [(0, .ref o), (1, .ref a), (2, .int (nI x)), (3, .int (nI i)), (4, .int (nI z)), (5, .int (nI (kc S 4))), (6, .int (nI (mnF (fun j => edL S p ((wL' S).take j) + edL S ((gL' S).drop z) ((wL' S).drop j)) j))), (7, .int (nI j))] [] Mx (qV Q) := by
          intro k
          induction k with
          | zero =>
            intro j e
            have e : j = wN S + 1 := by omega
            subst e
            refine c_X7_tryMoves_106 Ox Hx.1 ?_
            rw [Hx.2.2.1, lt_I (by omega) (by omega), fin, pk_sub (by omega), pk_sub (by omega), pk_mul, pk_mul, nI_add, nI_add, Nat.add_comm _ (kc S 4 * (i - x)), Nat.add_comm _ (kc S 4 * (z - i)), ← c1, ← c2]
            refine ⟨fun _ => ?_, fun q => absurd (by omega) q⟩
            refine k_offer Ox V g4 (he.fr gx (by decide)) hb hPi T1 (P' := fun a b c => P a b c ∨ (a = x ∧ b = i ∧ c = z)) hm1 (fun _ _ _ h => Or.inl h) (Or.inr ⟨rfl, rfl, rfl⟩) (fun M3 n3 cur3 g3 e3 b3 => ⟨⟨g3.ob Ox, g3.ob Hx.1⟩, ?_⟩)
            refine k_offer (g3.ob Ox) V g4 e3 b3 hm4 T2 (P' := P') hm2 hm3 h4 (fun M4 n5 cur4 g5 e4 b4 => ⟨⟨g5.ob (g3.ob Ox), g5.ob (g3.ob Hx.1)⟩, hq M4 n5 cur4 ?_ e4 b4⟩)
            exact (gx.sub (by decide) (by decide)).trans ((g3.sub (by decide) (by decide)).trans (g5.sub (by decide) (by decide)))
          | succ k ihk =>
            intro j e
            have nx := ihk (j + 1) (by omega)
            have mb := mnF_b (fun j => edL S p ((wL' S).take j) + edL S ((gL' S).drop z) ((wL' S).drop j)) j
            have f1 := fb j
            have hw : vi Mx (o + 1) (z * 201 + j) = nI (edL S ((gL' S).drop z) ((wL' S).drop j)) := by
              have := (hB.fr gx (by decide)) z j zn (by omega)
              rw [show 201 * z + j = z * 201 + j by omega] at this; exact this
            refine c_X7_tryMoves_106 Ox Hx.1 ?_
            rw [Hx.2.2.1, lt_I (by omega) (by omega), show (201 : Int32) = nI 201 from rfl, pk_mul z 201, nI_add (a := z * 201), nI_clamp (n := z * 201 + j) (by omega), nI_clamp (n := j) (by omega), rx j (by omega), hw, nI_add (a := edL S p ((wL' S).take j)), min_I (by omega) (by omega), nI_1]
            refine ⟨fun q => absurd q (by omega), fun _ => ⟨fun q => absurd q (by rw [le_I (by omega) (by omega)]; omega), fun _ => ⟨v_i (by omega) (by decide), v_i (by omega) (by decide), nx⟩⟩⟩
        have st := l106 (wN S) 1 rfl
        have h0 : mnF (fun j => edL S p ((wL' S).take j) + edL S ((gL' S).drop z) ((wL' S).drop j)) 1 = edL S p ((wL' S).take 0) + edL S ((gL' S).drop z) ((wL' S).drop 0) := mnF_1 (f := fun j => edL S p ((wL' S).take j) + edL S ((gL' S).drop z) ((wL' S).drop j)) (Nat.le_trans (fb 0) (by decide))
        have hw : vi Mx (o + 1) (z * 201) = nI (edL S ((gL' S).drop z) ((wL' S).drop 0)) := by
          have := (hB.fr gx (by decide)) z 0 zn (Nat.zero_le _)
          rw [show 201 * z + 0 = z * 201 by omega] at this; exact this
        rw [h0, show nI 1 = (1 : Int32) from rfl] at st
        rw [show (201 : Int32) = nI 201 from rfl, pk_mul z 201, nI_clamp (n := z * 201) (by omega), show (0 : Int32).toNatClampNeg = 0 from rfl, rx 0 (Nat.zero_le _), hw, nI_add (a := edL S p ((wL' S).take 0))]
        exact ⟨v_i (k := 0) (by decide) (by decide), v_i (by omega) (by decide), st⟩
      | succ k ih =>
        intro i Mx e xi gx rx
        have Ox := gx.ob O
        have Hx := H.fr gx dj
        refine c_X7_tryMoves_60 Ox Hx.1 ?_
        rw [le_I (by omega) (by omega), nI_1]
        refine ⟨fun q => absurd q (by omega), fun _ => ?_⟩
        have lP : ((gL' S).take x ++ sl (gL' S) y z ++ sl (gL' S) x i).length ≤ 99 := by
          rw [List.length_append, List.length_append, List.length_take]
          have h1 := sl_len (l := gL' S) (i := y) (j := z)
          have h2 := sl_len (l := gL' S) (i := x) (j := i)
          omega
        refine k_extend (t := 4) Ox Hx V dj (by omega) (by omega) lP rx (fun M2 g2 r2 => ⟨⟨g2.ob Ox, g2.ob Hx.1⟩, ih (i + 1) M2 (by omega) (by omega) (gx.trans g2) ?_⟩)
        rw [sl_s xi (by omega), gL_get (by omega), ← List.append_assoc]
        exact r2
    have s0 : sl (gL' S) x x = [] := sl_0 (Nat.le_refl _)
    exact l60 (y - x) x M1 (by omega) (Nat.le_refl _) g1 (by rw [s0, List.append_nil]; exact r1)
  · have q1 := Nat.mul_le_mul_left (kc S 4) (Nat.min_le_left (y - x) (z - y))
    have q2 := Nat.mul_le_mul_left (kc S 4) (Nat.min_le_right (y - x) (z - y))
    have nb : ∀ {u v t : Nat}, n < mvC S u v t → ¬ btr (mvC S u v t) n u v t cur := fun {u v t} lt w => by
      match cur, w with
      | none, w => have w : mvC S u v t < n := w; omega
      | some (a', b', c'), w => have w : mvC S u v t < n ∨ (mvC S u v t = n ∧ lex3 u v t a' b' c') := w; omega
    refine hq M n cur Frl.refl he (bs4_n (bs4_n (P' := fun a b c => P a b c ∨ (a = x ∧ b = y ∧ c = z)) hb hm1 (fun _ _ _ h => Or.inl h) (nb (by omega))) hm2 hm3 (nb (by omega)))
end
