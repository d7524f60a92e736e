/-! MOVED: the reference's call -/
section
variable {G : GT} {d : Nat} {M M' : Mem} {m : Nat} {T : StT} {S : ShT}
theorem RX.mf (W : RX M m T) (g : Frl m [57, 58, 59, 60, 61] [40, 41] M M') : RX M' m T := W.fr g (fun o ho => by simp; omega) (by decide)
theorem edC_le (V : okS S) : edC S ≤ 39600 := by
  have h := edL_le V (gL' S) (wL' S)
  rw [gL_len, wL_len] at h
  have := V.g
  have := V.w
  unfold edC; omega
theorem mvC_le (V : okS S) (g4 : gN S ≤ 24) {a b c : Nat} (hT : isT (gN S) a b c) : mvC S a b c ≤ 60000 := by
  obtain ⟨hab, hb, hc, ht⟩ := hT
  have h := edL_le V (mvG (gL' S) a b c) (wL' S)
  rw [mvG_len hab (by rw [gL_len]; exact hb) (by rw [gL_len]; exact hc) ht, gL_len, wL_len] at h
  have := V.w
  have k4 := (kc_9 V (k := 4) (by decide)).1
  have := Nat.mul_le_mul k4 (show b - a ≤ 24 by omega)
  unfold mvC; omega
theorem bs4_le (V : okS S) (g4 : gN S ≤ 24) {P : Nat → Nat → Nat → Prop} {n : Nat} {cur : Option (Nat × Nat × Nat)} (hP : ∀ x y z, P x y z → isT (gN S) x y z) (h : bs4 S P n cur) : n ≤ 60000 := by
  match cur, h with
  | none, h => have := edC_le V; have := h.1; omega
  | some (x, y, z), h => have := edC_le V; have := h.2.2.1; omega
theorem s_triesMove {a b c n : Nat} {cur : Option (Nat × Nat × Nat)} {P P' : Nat → Nat → Nat → Prop} {Q : Mem → Prop} (W : RX M m T) (g4 : gN (sh T) ≤ 24) (hT : isT (gN (sh T)) a b c) (he : encR M m n cur) (hb : bs4 (sh T) P n cur) (hPi : ∀ x y z, P x y z → isT (gN (sh T)) x y z) (hl : ∀ x y z, P x y z → lex3 x y z a b c) (h1 : ∀ x y z, P' x y z → P x y z ∨ (x = a ∧ y = b ∧ z = c)) (h2 : ∀ x y z, P x y z → P' x y z) (h3 : P' a b c)
    (hq : ∀ M' n' cur', Frl m [57, 58, 59, 60, 61] [40, 41] M M' → encR M' m n' cur' → bs4 (sh T) P' n' cur' → Q M') : CV G (d + 5) 257 [.ref m, .int (nI a), .int (nI b), .int (nI c)] M Q := by
  have V := W.rs.2.1
  have n6 := bs4_le V g4 hPi hb
  have m6 := mvC_le V g4 hT
  obtain ⟨hab, hb', hc, ht⟩ := hT
  refine r_triesMove W.1 (s_basesMoved W.rs g4 ⟨hab, hb', hc, ht⟩ (fun M1 g1 B => ⟨g1.ra W.1, ?_⟩))
  have W1 := W.mf (g1.sub (F' := [57, 58, 59, 60, 61]) (L' := [40, 41]) (by decide) (by decide))
  refine s_edits W1.rs B (by rw [mvG_len hab (by rw [gL_len]; exact hb') (by rw [gL_len]; exact hc) ht, gL_len]; omega) (fun M2 g2 e2 => ⟨g2.ra W1.1, v_i (k := 4) (by decide) (by decide), v_i (k := 0) (by decide) (by decide), ?_⟩)
  have g02 : Frl m [57] [40, 41] M M2 := (g1.sub (by decide) (by decide)).trans (g2.sub (by decide) (by decide))
  have W2 := W.mf (g02.sub (F' := [57, 58, 59, 60, 61]) (L' := [40, 41]) (by decide) (by decide))
  have k4 : vi M2 (m + 6) (4 : Int32).toNatClampNeg = nI (kc (sh T) 4) := by rw [← (kc_9 V (k := 4) (by decide)).2]; exact W2.rs.2.2.k (by decide)
  have r0 : vi M2 (m + 40) (0 : Int32).toNatClampNeg = nI (edL (sh T) (mvG (gL' (sh T)) a b c) (wL' (sh T))) := e2 0 0 (Nat.zero_le _) (Nat.zero_le _)
  have e61 : vi M2 m 61 = nI n := by rw [g02.f (by decide) (by decide)]; exact he.1
  rw [k4, r0, e61, pk_sub (by omega), pk_mul, nI_add, show kc (sh T) 4 * (b - a) + edL (sh T) (mvG (gL' (sh T)) a b c) (wL' (sh T)) = mvC (sh T) a b c from rfl, le_I (by omega) (by omega)]
  refine ⟨fun le => ?_, fun lt M3 e3 M4 e4 M5 e5 M6 e6 => ?_⟩
  · refine hq M2 n cur (g02.sub (by decide) (by decide)) ⟨e61, ?_, ?_, ?_⟩ (bs4_n hb h1 h2 ?_)
    · rw [g02.f (by decide) (by decide)]; exact he.2.1
    · rw [g02.f (by decide) (by decide)]; exact he.2.2.1
    · rw [g02.f (by decide) (by decide)]; exact he.2.2.2
    · match cur, hb with
      | none, _ => exact fun z => by have z : mvC (sh T) a b c < n := z; omega
      | some (x, y, z), hb =>
        intro w
        have w : mvC (sh T) a b c < n ∨ (mvC (sh T) a b c = n ∧ lex3 a b c x y z) := w
        rcases w with w | w
        · omega
        · exact lex3_n (lex3_t w.2 (hl x y z hb.1))
  · refine hq M6 (mvC (sh T) a b c) (some (a, b, c)) ((g02.sub (by decide) (by decide)).trans ?_) ⟨?_, ?_, ?_, ?_⟩ (bs4_y hb h1 h3 ?_)
    · rw [e6, e5, e4, e3]; exact (Frl.sf (by decide)).trans ((Frl.sf (by decide)).trans ((Frl.sf (by decide)).trans (Frl.sf (by decide))))
    · rw [e6, vi_seti, if_neg (by omega), e5, vi_seti, if_neg (by omega), e4, vi_seti, if_neg (by omega), e3, vi_seti, if_pos ⟨rfl, rfl⟩]
    · rw [e6, vi_seti, if_neg (by omega), e5, vi_seti, if_neg (by omega), e4, vi_seti, if_pos ⟨rfl, rfl⟩]; rfl
    · rw [e6, vi_seti, if_neg (by omega), e5, vi_seti, if_pos ⟨rfl, rfl⟩]; rfl
    · rw [e6, vi_seti, if_pos ⟨rfl, rfl⟩]; rfl
    · match cur with
      | none => show mvC (sh T) a b c < n; omega
      | some (x, y, z) => exact Or.inl (show mvC (sh T) a b c < n by omega)
/-- the triples before one -/
def bfo (n a b c : Nat) (x y z : Nat) : Prop := isT n x y z ∧ lex3 x y z a b c
theorem m_moved {k : Int32} {Q : Int32 → Mem → Prop} (W : RX M m T) (hq : ∀ M', RX M' m T → Ou m M M' → Q (f_moved T k) M') : CI G (d + 6) 258 [.ref m, .int k] M Q := by
  unfold f_moved at hq
  have V := W.rs.2.1
  have g2 := V.g
  refine r_moved W.1 ⟨v03, s_in (0 ≤ k.toInt ∧ k.toInt ≤ 3) ?_ ⟨W.1, bz (fun ck => ?_) (fun nk => by rw [cif_F (fun z => nk z.1)] at hq; exact hq M W Ou.refl)⟩⟩
  · rw [Int32.toInt_toInt64, ll_0, show (3 : Int64).toInt = 3 from rfl]
  have e0 : vi M (m + 1) (0 : Int32).toNatClampNeg = nI (gN (sh T)) := W.rs.2.2.g
  rw [e0, show (24 : Int32) = nI 24 from rfl, le_I (by omega) (by omega)]
  refine ⟨fun g4 => ?_, fun g4 => by rw [cif_F (fun z => g4 z.2)] at hq; exact hq M W Ou.refl⟩
  rw [cif_T ⟨ck, g4⟩] at hq
  refine s_edit W (fun M1 g1 => ⟨g1.ra W.1, fun M5 e5 M6 e6 M7 e7 M8 e8 => ?_⟩)
  have ev : f_edit T (-1) = nI (edC (sh T)) := by unfold f_edit; rw [cif_T rfl]
  rw [ev] at e5
  have g08 : Frl m [57, 58, 59, 60, 61] [40, 41] M M8 := (g1.sub (by decide) (by decide)).trans (by rw [e8, e7, e6, e5]; exact (Frl.sf (by decide)).trans ((Frl.sf (by decide)).trans ((Frl.sf (by decide)).trans (Frl.sf (by decide)))))
  have en8 : encR M8 m (edC (sh T)) none := by
    refine ⟨?_, ?_, ?_, ?_⟩
    · rw [e8, vi_seti, if_neg (by omega), e7, vi_seti, if_neg (by omega), e6, vi_seti, if_neg (by omega), e5, vi_seti, if_pos ⟨rfl, rfl⟩]
    · rw [e8, vi_seti, if_neg (by omega), e7, vi_seti, if_neg (by omega), e6, vi_seti, if_pos ⟨rfl, rfl⟩]; rfl
    · rw [e8, vi_seti, if_neg (by omega), e7, vi_seti, if_pos ⟨rfl, rfl⟩]; rfl
    · rw [e8, vi_seti, if_pos ⟨rfl, rfl⟩]; rfl
  generalize hN : gN (sh T) = N at *
  -- for each first PLACE
  have l56 : ∀ (r a n : Nat) (cur : Option (Nat × Nat × Nat)) (Mx : Mem), r + a = N → Frl m [57, 58, 59, 60, 61] [40, 41] M Mx → encR Mx m n cur → bs4 (sh T) (bfo N a (a + 1) 0) n cur → At G (d + 6) 258 56 [(0, .ref m), (1, .int k), (2, .int (nI N)), (3, .int (nI a))] [] Mx (qI Q) := by
    intro r
    induction r with
    | zero =>
      intro a n cur Mx e gx en hb
      have e : a = N := by omega
      subst e
      refine r_moved_56 (gx.ra W.1) ?_
      rw [le_I (by omega) (by omega)]
      refine ⟨fun _ => ?_, fun z => absurd (Nat.le_refl _) z⟩
      have hb : bs4 (sh T) (isT (gN (sh T))) n cur := bs4_i hb (fun x y z => by
        rw [hN]
        unfold bfo isT lex3
        exact ⟨fun h => h.1, fun h => ⟨h, by omega⟩⟩)
      have hq := hq Mx (W.mf gx) (gx.ou (by decide))
      rw [mv4_e (bs4_d hb)] at hq
      rw [en.1, en.2.1, en.2.2.1, en.2.2.2]
      refine ⟨fun n0 => ⟨fun n1 => ⟨fun n2 => ?_, fun y2 => ?_⟩, fun y1 => ?_⟩, fun y0 => ?_⟩
      · rw [cif_F n0, cif_F n1, cif_F n2] at hq; exact hq
      · rw [cif_F n0, cif_F n1, cif_T y2] at hq; exact hq
      · rw [cif_F n0, cif_T y1] at hq; exact hq
      · rw [cif_T y0] at hq; exact hq
    | succ r ih =>
      intro a n cur Mx e gx en hb
      refine r_moved_56 (gx.ra W.1) ?_
      rw [le_I (by omega) (by omega), nI_1]
      refine ⟨fun z => absurd z (by omega), fun _ => ?_⟩
      -- for each second
      have l66 : ∀ (s b n : Nat) (cur : Option (Nat × Nat × Nat)) (My : Mem), s + b = N + 1 → a < b → Frl m [57, 58, 59, 60, 61] [40, 41] M My → encR My m n cur → bs4 (sh T) (bfo N a b 0) n cur → At G (d + 6) 258 66 [(0, .ref m), (1, .int k), (2, .int (nI N)), (3, .int (nI a)), (4, .int (nI b))] [] My (qI Q) := by
        intro s
        induction s with
        | zero =>
          intro b n cur My e2 hab gy en hb
          have e2 : b = N + 1 := by omega
          subst e2
          refine r_moved_66 (gy.ra W.1) ?_
          rw [lt_I (by omega) (by omega), nI_1]
          refine ⟨fun _ => ih (a + 1) n cur My (by omega) gy en (bs4_i hb (fun x y z => ?_)), fun z => absurd (by omega) z⟩
          unfold bfo isT lex3
          exact ⟨fun h => ⟨h.1, by omega⟩, fun h => ⟨h.1, by omega⟩⟩
        | succ s ihs =>
          intro b n cur My e2 hab gy en hb
          refine r_moved_66 (gy.ra W.1) ?_
          rw [lt_I (by omega) (by omega)]
          refine ⟨fun z => absurd z (by omega), fun _ => ?_⟩
          -- for each third
          have l75 : ∀ (t c n : Nat) (cur : Option (Nat × Nat × Nat)) (Mz : Mem), t + c = N + 1 → Frl m [57, 58, 59, 60, 61] [40, 41] M Mz → encR Mz m n cur → bs4 (sh T) (bfo N a b c) n cur → At G (d + 6) 258 75 [(0, .ref m), (1, .int k), (2, .int (nI N)), (3, .int (nI a)), (4, .int (nI b)), (5, .int (nI c))] [] Mz (qI Q) := by
            intro t
            induction t with
            | zero =>
              intro c n cur Mz e3 gz en hb
              have e3 : c = N + 1 := by omega
              subst e3
              refine r_moved_75 (gz.ra W.1) ?_
              rw [lt_I (by omega) (by omega), nI_1]
              refine ⟨fun _ => ihs (b + 1) n cur Mz (by omega) (by omega) gz en (bs4_i hb (fun x y z => ?_)), fun z => absurd (by omega) z⟩
              unfold bfo isT lex3
              exact ⟨fun h => ⟨h.1, by omega⟩, fun h => ⟨h.1, by omega⟩⟩
            | succ t iht =>
              intro c n cur Mz e3 gz en hb
              have try1 : isT N a b c → CV G (d + 5) 257 [.ref m, .int (nI a), .int (nI b), .int (nI c)] Mz (fun M9 => RefAt M9 m ∧ (At G (d + 6) 258 75 [(0, .ref m), (1, .int k), (2, .int (nI N)), (3, .int (nI a)), (4, .int (nI b)), (5, .int (nI (c + 1)))] [] M9 (qI Q))) := fun hT => by
                refine s_triesMove (W.mf gz) (by omega) (by rw [hN]; exact hT) en hb (P' := bfo N a b (c + 1)) (fun x y z h => by rw [hN]; exact h.1) (fun x y z h => h.2) (fun x y z h => ?_) (fun x y z h => ?_) ?_ (fun M9 n' cur' g9 e9 b9 => ⟨g9.ra (gz.ra W.1), iht (c + 1) n' cur' M9 (by omega) (gz.trans g9) e9 b9⟩)
                · unfold bfo lex3 at h ⊢
                  by_cases q : x = a ∧ y = b ∧ z = c
                  · exact Or.inr q
                  · exact Or.inl ⟨h.1, by omega⟩
                · unfold bfo lex3 at h ⊢; exact ⟨h.1, by omega⟩
                · unfold bfo lex3; exact ⟨hT, by omega⟩
              refine r_moved_75 (gz.ra W.1) ?_
              rw [lt_I (by omega) (by omega), lt_I (by omega) (by omega), le_I (by omega) (by omega), nI_1 (a := c)]
              refine ⟨fun z => absurd z (by omega), fun _ => ⟨fun z => try1 ⟨hab, by omega, by omega, Or.inl z⟩, fun z => ⟨fun z2 => ?_, fun z2 => try1 ⟨hab, by omega, by omega, Or.inr (by omega)⟩⟩⟩⟩
              refine iht (c + 1) n cur Mz (by omega) gz en (bs4_i hb (fun x y z' => ?_))
              unfold bfo isT lex3
              exact ⟨fun h => ⟨h.1, by omega⟩, fun h => ⟨h.1, by omega⟩⟩
          exact l75 (N + 1) 0 n cur My rfl gy en hb
      exact l66 (N - a) (a + 1) n cur Mx (by omega) (by omega) gx en hb
  refine l56 N 0 (edC (sh T)) none M8 rfl g08 en8 ⟨rfl, fun a b c h => ?_⟩
  unfold bfo isT lex3 at h
  omega
end
