/-! THE REFERENCE'S PUBLIC METHODS: HANDS, COSTS, the TAPE, GALLEY and WISH -/
section
variable {G : GT} {d : Nat} {M M' : Mem} {m : Nat} {T T' : StT} {Q : Int32 → Mem → Prop}
/-- the sheet and the tape are others, laws and images as they were -/
theorem RX.upd {F L : List Nat} (h : RX M m T) (f : Frl m F L M M') (hL : ∀ o, (o = 0 ∨ (13 < o ∧ o < 20) ∨ o = 44 ∨ o = 45) → o ∉ L) (hF : 17 ∉ F ∧ 22 ∉ F) (e : T'.2.2 = T.2.2) (V : okS (sh T')) (r : rSh M' m (sh T'))
    (t4 : tN T' ≤ 400) (tk : ∀ k, k < tN T' → 0 ≤ (tB T' k).toInt ∧ (tB T' k).toInt ≤ 255) (t1 : vi M' m 13 = nI (tN T')) (t2 : ∀ k, k < tN T' → vi M' (m + 13) k = (tB T' k).toInt8.toInt32) : RX M' m T' := by
  have e1 : qN T' = qN T := by unfold qN; rw [e]
  have e2 : qL T' = qL T := by unfold qL; rw [e]
  have e3 : iM T' = iM T := by unfold iM; rw [e]
  have ev : ∀ o, ((13 < o ∧ o < 20) ∨ o = 44 ∨ o = 45) → ∀ k, vi M' (m + o) k = vi M (m + o) k := fun o h1 k => f.i (hL o (Or.inr h1)) (by omega) k
  have h0 : 0 ∉ L := hL 0 (Or.inl rfl)
  refine ⟨f.ra h.1, ⟨t4, tk, V, by rw [e1]; exact h.2.1.2.2.2.1, by rw [e1, e2]; exact h.2.1.2.2.2.2.1, by rw [e3]; exact h.2.1.2.2.2.2.2⟩, r, ⟨t1, t2⟩, ?_, ⟨?_, fun l hl => ?_⟩, fun i hi => ?_⟩
  · rw [f.f hF.2 h0]; exact h.2.2.2.2.1
  · rw [f.f hF.1 h0, e1]; exact h.q
  · rw [e1] at hl
    have q := h.2.2.2.2.2.1.2 l hl
    rw [e2]
    unfold rLaw at q ⊢
    have e14 := ev 14 (by omega)
    have e15 := ev 15 (by omega)
    have e16 := ev 16 (by omega)
    have e17 := ev 17 (by omega)
    have e18 := ev 18 (by omega)
    have e19 := ev 19 (by omega)
    refine ⟨fun k hk => ?_, ?_, fun i hi => ?_⟩
    · rw [e14, e15]; exact q.1 k hk
    · rw [e16]; exact q.2.1
    · rw [e17, e18, e19]; exact q.2.2 i hi
  · have q := h.2.2.2.2.2.2 i hi
    rw [ev 45 (by omega), e3]
    refine ⟨q.1, fun S hS => ⟨(q.2 S hS).1, ?_⟩⟩
    have z := (q.2 S hS).2
    unfold rImg at z ⊢
    have e5 : (fun o k => vi M' (m + 44) (2100 * i + rOff o + k)) = (fun o k => vi M (m + 44) (2100 * i + rOff o + k)) := by
      funext o k
      exact ev 44 (by omega) _
    rw [e5]
    exact z
theorem s_rank {a : Int32} {Q : Int32 → Mem → Prop} (hq : Q (bI (0 ≤ a.toInt ∧ a.toInt ≤ 9)) M) : CI G (d + 1) 155 [.long a.toInt64, .long (0 : Int64), .long (9 : Int64)] M Q :=
  s_in _ (by rw [Int32.toInt_toInt64, ll_0, ll_9]) hq
def hOk (T : StT) (a : Int32) : Prop := hN (sh T) < 4 ∧ 0 ≤ a.toInt ∧ a.toInt ≤ 9
noncomputable def f_hand (T : StT) (a : Int32) : Int32 := cif (hOk T a) (nI (hN (sh T))) (-1)
def v_hand (T : StT) (a : Int32) : StT := (T.1, ((sh T).1, (sh T).2.1, (hN (sh T) + 1, (fun i => if i = hN (sh T) then a else hR (sh T) i), hC (sh T)), (sh T).2.2.2), T.2.2)
noncomputable def u_hand (T : StT) (a : Int32) : StT := cif (hOk T a) (v_hand T a) T
theorem v_hand_isM {a : Int32} (V : okS (sh T)) (s : Nat) : isM (sh (v_hand T a)) s ↔ isM (sh T) s := by
  show s / 16 < hN (sh T) + 1 ∧ s % 16 < hC (sh T) (s / 16) ↔ s / 16 < hN (sh T) ∧ s % 16 < hC (sh T) (s / 16)
  constructor
  · intro h
    refine ⟨?_, h.2⟩
    rcases Nat.lt_or_ge (s / 16) (hN (sh T)) with z | z
    · exact z
    · rw [V.c0 z] at h; omega
  · intro h
    exact ⟨by omega, h.2⟩
theorem v_hand_ok {a : Int32} (V : okS (sh T)) (c : hOk T a) : okS (sh (v_hand T a)) := by
  refine ⟨V.1, V.2.1, V.2.2.1, V.2.2.2.1, ?_, fun h hh => ?_, V.2.2.2.2.2.2.1, fun h hh => ?_, fun s hs => ?_, V.2.2.2.2.2.2.2.2.2⟩
  · show hN (sh T) + 1 ≤ 4
    have := c.1
    omega
  · show 0 ≤ (if h = hN (sh T) then a else hR (sh T) h).toInt ∧ (if h = hN (sh T) then a else hR (sh T) h).toInt ≤ 9
    by_cases z : h = hN (sh T)
    · rw [if_pos z]; exact c.2
    · rw [if_neg z]
      have h2 : h < hN (sh T) + 1 := hh
      exact V.2.2.2.2.2.1 h (by omega)
  · have h2 : hN (sh T) + 1 ≤ h := hh
    exact V.c0 (by omega)
  · exact V.m ((v_hand_isM V s).mp hs)
theorem m_hand {a : Int32} (W : RX M m T) (hq : ∀ M', RX M' m (u_hand T a) → Ou m M M' → Q (f_hand T a) M') : CI G (d + 2) 162 [.ref m, .int a] M Q := by
  have h4 := W.rs.2.1.h
  have V := W.rs.2.1
  unfold u_hand f_hand at hq
  refine r_hand W.1 ⟨v23, ?_⟩
  rw [show (2 : Int32).toNatClampNeg = 2 from rfl, W.rs.2.2.h]
  refine ⟨fun c => ?_, fun c => s_rank ⟨W.1, bnz (fun c2 => ?_) (fun c2 => ?_)⟩⟩
  · rw [show (4 : Int32) = nI 4 from rfl, eq_I (by omega) (by omega)] at c
    have n : ¬ hOk T a := fun h => by have := h.1; omega
    rw [cif_F n, cif_F n] at hq
    exact hq M W Ou.refl
  · rw [show (4 : Int32) = nI 4 from rfl, eq_I (by omega) (by omega)] at c
    have y : hOk T a := ⟨by omega, c2⟩
    rw [cif_T y, cif_T y] at hq
    refine ⟨vp_in_nI (by omega) (by omega), ?_⟩
    rw [nI_clamp (by omega)]
    intro M3 e3
    refine ⟨vp_in_nI (by omega) (by omega), ?_⟩
    intro M4 e4
    refine ⟨v23, v23, ?_⟩
    intro M5 e5
    have r2 : vi M4 (m + 1) 2 = nI (hN (sh T)) := by
      rw [e4, vi_seti, if_neg (by omega), e3, vi_seti, if_neg (by omega)]
      exact W.rs.2.2.h
    rw [r2, nI_1] at e5
    have f : Frl m [] [1, 4, 5] M M5 := by
      rw [e5, e4, e3]
      exact ((Frl.si (o := 4) (by decide)).trans (Frl.si (o := 5) (by decide))).trans (Frl.si (o := 1) (by decide))
    refine hq M5 ?_ (f.ou (by decide))
    have rd : ∀ o k, vi M5 (m + o) k = if o = 1 ∧ k = 2 then nI (hN (sh T) + 1) else if o = 5 ∧ k = hN (sh T) then 0 else if o = 4 ∧ k = hN (sh T) then a else vi M (m + o) k := by
      intro o k
      rw [e5, vi_seti, e4, vi_seti, e3, vi_seti]
      simp only [Nat.add_left_cancel_iff]
    refine W.upd f (fun o ho => by simp <;> omega) ⟨by decide, by decide⟩ rfl (v_hand_ok V y) ?_ W.t4 (fun k hk => W.tk hk) ?_ (fun k hk => ?_)
    · have r := W.rs.2.2
      refine ⟨⟨?_, ?_, ?_⟩, fun k hk => ?_, fun k hk => ?_, fun k hk => ?_, fun k hk => ?_, fun k hk => ?_, fun s hs => ?_⟩
      · show vi M5 (m + 1) 0 = _
        rw [rd, if_neg (by omega), if_neg (by omega), if_neg (by omega)]; exact r.g
      · show vi M5 (m + 1) 1 = _
        rw [rd, if_neg (by omega), if_neg (by omega), if_neg (by omega)]; exact r.w
      · show vi M5 (m + 1) 2 = _
        rw [rd, if_pos (by omega)]; rfl
      · show vi M5 (m + 2) k = _
        rw [rd, if_neg (by omega), if_neg (by omega), if_neg (by omega)]; exact r.gb hk
      · show vi M5 (m + 3) k = _
        rw [rd, if_neg (by omega), if_neg (by omega), if_neg (by omega)]; exact r.wb hk
      · show vi M5 (m + 4) k = if k = hN (sh T) then a else hR (sh T) k
        have hk2 : k < hN (sh T) + 1 := hk
        rw [rd, if_neg (by omega), if_neg (by omega)]
        by_cases z : k = hN (sh T)
        · rw [if_pos ⟨rfl, z⟩, if_pos z]
        · rw [if_neg (fun h => z h.2), if_neg z]; exact r.r (by omega)
      · show vi M5 (m + 5) k = nI (hC (sh T) k)
        have hk2 : k < hN (sh T) + 1 := hk
        rw [rd, if_neg (by omega)]
        by_cases z : k = hN (sh T)
        · rw [if_pos ⟨rfl, z⟩, V.c0 (by omega)]; rfl
        · rw [if_neg (fun h => z h.2), if_neg (by omega)]; exact r.c (by omega)
      · show vi M5 (m + 6) k = _
        rw [rd, if_neg (by omega), if_neg (by omega), if_neg (by omega)]; exact r.k hk
      · have hs2 := (v_hand_isM V s).mp hs
        refine ⟨?_, ?_, ?_, ?_, ?_, fun i hi => ?_⟩
        · show vi M5 (m + 7) s = _
          rw [rd, if_neg (by omega), if_neg (by omega), if_neg (by omega)]; exact r.m7 hs2
        · show vi M5 (m + 8) s = _
          rw [rd, if_neg (by omega), if_neg (by omega), if_neg (by omega)]; exact r.m8 hs2
        · show vi M5 (m + 9) s = _
          rw [rd, if_neg (by omega), if_neg (by omega), if_neg (by omega)]; exact r.m9 hs2
        · show vi M5 (m + 10) s = _
          rw [rd, if_neg (by omega), if_neg (by omega), if_neg (by omega)]; exact r.m10 hs2
        · show vi M5 (m + 11) s = _
          rw [rd, if_neg (by omega), if_neg (by omega), if_neg (by omega)]; exact r.m11 hs2
        · show vi M5 (m + 12) (20 * s + i) = _
          rw [rd, if_neg (by omega), if_neg (by omega), if_neg (by omega)]; exact r.m12 hs2 hi
    · rw [f.f (by decide) (by decide)]; exact W.t
    · rw [f.i (by decide) (by decide)]; exact W.tb hk
  · have n : ¬ hOk T a := fun h => c2 h.2
    rw [cif_F n, cif_F n] at hq
    exact hq M W Ou.refl
/-! COSTS -/
def kOk (k n : Int32) : Prop := (0 ≤ k.toInt ∧ k.toInt ≤ 6) ∧ 0 ≤ n.toInt ∧ n.toInt ≤ 99
noncomputable def f_cost (T : StT) (k n : Int32) : Int32 := cif (kOk k n) (cC (sh T) k.toNatClampNeg) (-1)
def v_cost (T : StT) (k n : Int32) : StT := (T.1, ((sh T).1, (sh T).2.1, (sh T).2.2.1, kM (sh T), (fun i => if i = k.toNatClampNeg then n else cC (sh T) i)), T.2.2)
noncomputable def u_cost (T : StT) (k n : Int32) : StT := cif (kOk k n) (v_cost T k n) T
theorem v_cost_ok {k n : Int32} (V : okS (sh T)) (c : kOk k n) : okS (sh (v_cost T k n)) := by
  refine ⟨V.1, V.2.1, V.2.2.1, V.2.2.2.1, V.2.2.2.2.1, V.2.2.2.2.2.1, V.2.2.2.2.2.2.1, V.2.2.2.2.2.2.2.1, V.2.2.2.2.2.2.2.2.1, fun i hi => ?_⟩
  show 0 ≤ (if i = k.toNatClampNeg then n else cC (sh T) i).toInt ∧ (if i = k.toNatClampNeg then n else cC (sh T) i).toInt ≤ 99
  by_cases z : i = k.toNatClampNeg
  · rw [if_pos z]; exact c.2
  · rw [if_neg z]; exact V.k hi
theorem m_cost {k n : Int32} (W : RX M m T) (hq : ∀ M', RX M' m (u_cost T k n) → Ou m M M' → Q (f_cost T k n) M') : CI G (d + 2) 163 [.ref m, .int k, .int n] M Q := by
  have V := W.rs.2.1
  unfold u_cost f_cost at hq
  refine r_cost W.1 (s_in (0 ≤ k.toInt ∧ k.toInt ≤ 6) (by rw [Int32.toInt_toInt64, ll_0, ll_6]) ⟨W.1, bz (fun c1 => s_in (0 ≤ n.toInt ∧ n.toInt ≤ 99) (by rw [Int32.toInt_toInt64, ll_0, ll_99]) ⟨W.1, bnz (fun c2 => ?_) (fun c2 => ?_)⟩) (fun c1 => ?_)⟩)
  · have y : kOk k n := ⟨c1, c2⟩
    rw [cif_T y, cif_T y] at hq
    obtain ⟨j, hj, e⟩ := asN (N := 7) c1.1 (by omega)
    have e2 : k.toNatClampNeg = j := by rw [e, nI_clamp (by omega)]
    have v7 : vp_in k 7 := by rw [e]; exact vp_in_nI hj (by omega)
    refine ⟨v7, v7, ?_⟩
    intro M5 e5
    rw [e2] at e5 hq ⊢
    rw [W.rs.2.2.k hj]
    have f : Frl m [] [6] M M5 := by rw [e5]; exact Frl.si (o := 6) (by decide)
    refine hq M5 ?_ (f.ou (by decide))
    have rd : ∀ o, o ≠ 6 → ∀ k, vi M5 (m + o) k = vi M (m + o) k := by
      intro o ho k
      rw [e5, vi_seti, if_neg (by omega)]
    refine W.upd f (fun o ho => by simp <;> omega) ⟨by decide, by decide⟩ rfl (v_cost_ok V y) ?_ W.t4 (fun k hk => W.tk hk) ?_ (fun k hk => ?_)
    · have r : rShF (fun o k => vi M (m + o) k) (sh T) := W.rs.2.2
      have e1 := rd 1 (by decide)
      have e2 := rd 2 (by decide)
      have e3 := rd 3 (by decide)
      have e4 := rd 4 (by decide)
      have e6 := rd 5 (by decide)
      have e7 := rd 7 (by decide)
      have e8 := rd 8 (by decide)
      have e9 := rd 9 (by decide)
      have e10 := rd 10 (by decide)
      have e11 := rd 11 (by decide)
      have e12 := rd 12 (by decide)
      unfold rSh
      unfold rShF at r ⊢
      simp only [e1, e2, e3, e4, e6, e7, e8, e9, e10, e11, e12]
      refine ⟨r.1, r.2.1, r.2.2.1, r.2.2.2.1, r.2.2.2.2.1, fun i hi => ?_, r.2.2.2.2.2.2⟩
      show vi M5 (m + 6) i = if i = k.toNatClampNeg then n else cC (sh T) i
      rw [e5, vi_seti, e, nI_clamp (by omega)]
      by_cases z : i = j
      · rw [if_pos ⟨rfl, z⟩, if_pos z]
      · rw [if_neg (fun h => z h.2), if_neg z]; exact r.2.2.2.2.2.1 i hi
    · rw [f.f (by decide) (by decide)]; exact W.t
    · rw [f.i (by decide) (by decide)]; exact W.tb hk
  · have n : ¬ kOk k n := fun h => c2 h.2
    rw [cif_F n, cif_F n] at hq
    exact hq M W Ou.refl
  · have n : ¬ kOk k n := fun h => c1 h.1
    rw [cif_F n, cif_F n] at hq
    exact hq M W Ou.refl
/-! THE TAPE -/
def eOk (T : StT) (n : Int32) : Prop := 0 ≤ n.toInt ∧ n.toInt ≤ tN T
noncomputable def f_end (T : StT) (n : Int32) : Int32 := cif (eOk T n) n (-1)
def v_end (T : StT) (n : Nat) : StT := ((n, tB T), T.2)
noncomputable def u_end (T : StT) (n : Int32) : StT := cif (eOk T n) (v_end T n.toNatClampNeg) T
/-- the tape's first n bytes stay -/
theorem RX.tape0 {n : Nat} (W : RX M m T) (hn : n ≤ tN T) : RX (seti M m 13 (nI n)) m (v_end T n) := by
  have f : Frl m [13] [] M (seti M m 13 (nI n)) := Frl.sf (by decide)
  refine W.upd f (fun o ho => by simp <;> omega) ⟨by decide, by decide⟩ rfl W.rs.2.1 (W.rs.2.2.fr W.rs.2.1 f (fun o ho => by simp <;> omega)) (Nat.le_trans hn W.t4) (fun k hk => W.tk (Nat.lt_of_lt_of_le hk hn)) ?_ (fun k hk => ?_)
  · rw [vi_seti, if_pos ⟨rfl, rfl⟩]; rfl
  · rw [f.i (by decide) (by decide)]; exact W.tb (Nat.lt_of_lt_of_le hk hn)
theorem m_end {n : Int32} (W : RX M m T) (hq : ∀ M', RX M' m (u_end T n) → Ou m M M' → Q (f_end T n) M') : CI G (d + 1) 166 [.ref m, .int n] M Q := by
  have t4 := W.t4
  unfold u_end f_end at hq
  refine r_end W.1 ⟨fun c => ?_, fun c => ?_⟩
  · have z : ¬ eOk T n := fun h => by rw [fa_lt, show (0 : Int32).toInt = 0 from rfl] at c; have := h.1; omega
    rw [cif_F z, cif_F z] at hq
    exact hq M W Ou.refl
  · rw [fa_lt, show (0 : Int32).toInt = 0 from rfl] at c
    rw [W.t, fa_le, nI_toIntN (by omega)]
    refine ⟨fun c2 => ?_, fun c2 => ?_⟩
    · have z : eOk T n := ⟨by omega, c2⟩
      rw [cif_T z, cif_T z] at hq
      obtain ⟨j, hj, e⟩ := asN (a := n) (N := tN T + 1) (by omega) (by omega)
      subst e
      intro M1 e1
      subst e1
      rw [nI_clamp (by omega)] at hq
      exact hq _ (W.tape0 (by omega)) ((Frl.sf (F := [13]) (L := []) (by decide)).ou (by decide))
    · have z : ¬ eOk T n := fun h => c2 h.2
      rw [cif_F z, cif_F z] at hq
      exact hq M W Ou.refl
/-- one byte behind the tape -/
def tpu (t : Nat × (Nat → Int32)) (c : Int32) : Nat × (Nat → Int32) := (t.1 + 1, fun k => if k = t.1 then c else t.2 k)
/-- the byte of a number, shifted by s -/
def by8 (x s : Int32) : Int32 := (x.toUInt32 >>> (s.toUInt32 &&& Int32.toUInt32 31)).toInt32 &&& 255
def tp4 (t : Nat × (Nat → Int32)) (x : Int32) : Nat × (Nat → Int32) := tpu (tpu (tpu (tpu t (by8 x 24)) (by8 x 16)) (by8 x 8)) (by8 x 0)
theorem by8_eq (x s : Int32) (k : Nat) (e2 : ((s.toUInt32 &&& Int32.toUInt32 31).toBitVec % 32).toNat = k) : by8 x s = nI (x.toBitVec.toNat / 2 ^ k % 256) := by
  unfold by8
  rw [pk_and _ 8 (by decide), pk_ushr x s k e2]
theorem by8_rng (x s : Int32) (k : Nat) (e2 : ((s.toUInt32 &&& Int32.toUInt32 31).toBitVec % 32).toNat = k) : 0 ≤ (by8 x s).toInt ∧ (by8 x s).toInt ≤ 255 := by
  rw [by8_eq x s k e2, nI_toIntN (by omega)]
  omega
theorem bmod8 {a b : Int} (h : a % 256 = b % 256) : a.bmod (2 ^ 8) = b.bmod (2 ^ 8) := by
  simp only [Int.bmod]
  rw [show (((2 : Nat) ^ 8 : Nat) : Int) = 256 from rfl, h]
theorem by8_sb (x s : Int32) (k : Nat) (hk : k = 24 ∨ k = 16 ∨ k = 8 ∨ k = 0) (e1 : ((s &&& 31).toBitVec.smod 32).toNat = k) (e2 : ((s.toUInt32 &&& Int32.toUInt32 31).toBitVec % 32).toNat = k) : ((x >>> (s &&& 31)).toInt8.toInt32).toInt8.toInt32 = (by8 x s).toInt8.toInt32 := by
  have h1 : (x >>> (s &&& 31)).toInt = x.toInt >>> k := pk_shr x (s &&& 31) k e1
  have h2 := by8_eq x s k e2
  have h3 : (by8 x s).toInt = ((x.toBitVec.toNat / 2 ^ k % 256 : Nat) : Int) := by rw [h2, nI_toIntN (by omega)]
  have h4 : x.toInt = if 2 * x.toBitVec.toNat < 4294967296 then (x.toBitVec.toNat : Int) else (x.toBitVec.toNat : Int) - 4294967296 := BitVec.toInt_eq_toNat_cond x.toBitVec
  have h5 : x.toBitVec.toNat < 4294967296 := x.toBitVec.isLt
  have h6 : (x >>> (s &&& 31)).toInt8 = (by8 x s).toInt8 := by
    apply Int8.toInt_inj.mp
    rw [Int32.toInt_toInt8, Int32.toInt_toInt8, h1, h3, h4]
    generalize x.toBitVec.toNat = N at *
    rcases hk with rfl | rfl | rfl | rfl
    · rw [Int.shiftRight_eq_div_pow]; apply bmod8; omega
    · rw [Int.shiftRight_eq_div_pow]; apply bmod8; omega
    · rw [Int.shiftRight_eq_div_pow]; apply bmod8; omega
    · rw [Int.shiftRight_eq_div_pow]; apply bmod8; omega
  rw [h6, Int8.toInt8_toInt32]
/-- the tape is held -/
def rTp (M : Mem) (m : Nat) (t : Nat × (Nat → Int32)) : Prop := vi M m 13 = nI t.1 ∧ ∀ k, k < t.1 → vi M (m + 13) k = (t.2 k).toInt8.toInt32
theorem s_put1 {x s s' : Int32} {t : Nat × (Nat → Int32)} {Q : Mem → Prop} (k : Nat) (hk : k = 24 ∨ k = 16 ∨ k = 8 ∨ k = 0) (e1 : ((s &&& 31).toBitVec.smod 32).toNat = k) (e2 : ((s.toUInt32 &&& Int32.toUInt32 31).toBitVec % 32).toNat = k) (hs : ¬ s < 0) (es : s + (-8) = s')
    (R : RefAt M m) (ht : rTp M m t) (h4 : t.1 < 400) (hq : ∀ M', Frl m [13] [13] M M' → rTp M' m (tpu t (by8 x s)) → At G (d + 1) 165 3 [(0, .ref m), (1, .int x), (2, .int s')] [] M' (qV Q)) : At G (d + 1) 165 3 [(0, .ref m), (1, .int x), (2, .int s)] [] M (qV Q) := by
  refine r_put4_3 R ⟨fun c => absurd c hs, fun _ => ?_⟩
  rw [ht.1, nI_clamp (by omega), by8_sb x s k hk e1 e2, es]
  refine ⟨vp_in_nI h4 (by omega), ?_⟩
  intro M1 e3 M2 e4
  have r1 : vi M1 m 13 = nI t.1 := by rw [e3, vi_seti, if_neg (by omega)]; exact ht.1
  rw [r1, nI_1] at e4
  refine hq M2 ?_ ⟨?_, fun j hj => ?_⟩
  · rw [e4, e3]
    exact (Frl.si (o := 13) (by decide)).trans (Frl.sf (by decide))
  · rw [e4, vi_seti, if_pos ⟨rfl, rfl⟩]; rfl
  · rw [e4, vi_seti, if_neg (by omega), e3, vi_seti]
    show _ = (if j = t.1 then by8 x s else t.2 j).toInt8.toInt32
    by_cases z : j = t.1
    · rw [if_pos ⟨rfl, z⟩, if_pos z]
    · rw [if_neg (fun h => z h.2), if_neg z]
      have hj2 : j < t.1 + 1 := hj
      exact ht.2 j (by omega)
theorem s_put4 {x : Int32} {t : Nat × (Nat → Int32)} {Q : Mem → Prop} (R : RefAt M m) (ht : rTp M m t) (h4 : t.1 + 4 ≤ 400) (hq : ∀ M', Frl m [13] [13] M M' → rTp M' m (tp4 t x) → Q M') : CV G (d + 1) 165 [.ref m, .int x] M Q := by
  refine r_put4 R (s_put1 (s' := 16) 24 (by decide) (by decide) (by decide) (by decide) (by decide) R ht (by omega) (fun M1 f1 t1 => ?_))
  refine s_put1 (s' := 8) 16 (by decide) (by decide) (by decide) (by decide) (by decide) (f1.ra R) t1 (show t.1 + 1 < 400 by omega) (fun M2 f2 t2 => ?_)
  refine s_put1 (s' := 0) 8 (by decide) (by decide) (by decide) (by decide) (by decide) (f2.ra (f1.ra R)) t2 (show t.1 + 1 + 1 < 400 by omega) (fun M3 f3 t3 => ?_)
  refine s_put1 (s' := -8) 0 (by decide) (by decide) (by decide) (by decide) (by decide) (f3.ra (f2.ra (f1.ra R))) t3 (show t.1 + 1 + 1 + 1 < 400 by omega) (fun M4 f4 t4 => ?_)
  have f := ((f1.trans f2).trans f3).trans f4
  refine r_put4_3 (f.ra R) ⟨fun _ => hq M4 f t4, fun c => absurd (by decide) c⟩
def tfe (t : Nat × (Nat → Int32)) (a b c e g : Int32) : Nat × (Nat → Int32) := tp4 (tp4 (tp4 (tp4 (tp4 t a) b) c) e) g
def v_feed (T : StT) (a b c e g : Int32) : StT := (tfe T.1 a b c e g, T.2)
noncomputable def f_feed (T : StT) : Int32 := cif (tN T + 20 ≤ 400) (nI (tN T + 20)) (-1)
noncomputable def u_feed (T : StT) (a b c e g : Int32) : StT := cif (tN T + 20 ≤ 400) (v_feed T a b c e g) T
def okTp (t : Nat × (Nat → Int32)) : Prop := ∀ k, k < t.1 → 0 ≤ (t.2 k).toInt ∧ (t.2 k).toInt ≤ 255
theorem okTp.pu {t : Nat × (Nat → Int32)} {c : Int32} (h : okTp t) (hc : 0 ≤ c.toInt ∧ c.toInt ≤ 255) : okTp (tpu t c) := fun k hk => by
  show 0 ≤ (if k = t.1 then c else t.2 k).toInt ∧ (if k = t.1 then c else t.2 k).toInt ≤ 255
  by_cases z : k = t.1
  · rw [if_pos z]; exact hc
  · rw [if_neg z]
    have hk2 : k < t.1 + 1 := hk
    exact h k (by omega)
theorem okTp.p4 {t : Nat × (Nat → Int32)} {x : Int32} (h : okTp t) : okTp (tp4 t x) :=
  (((h.pu (by8_rng x 24 24 (by decide))).pu (by8_rng x 16 16 (by decide))).pu (by8_rng x 8 8 (by decide))).pu (by8_rng x 0 0 (by decide))
theorem m_feed {a b c e g : Int32} (W : RX M m T) (hq : ∀ M', RX M' m (u_feed T a b c e g) → Ou m M M' → Q (f_feed T) M') : CI G (d + 2) 164 [.ref m, .int a, .int b, .int c, .int e, .int g] M Q := by
  have t4 := W.t4
  have R := W.1
  unfold u_feed f_feed at hq
  refine r_feed R ?_
  rw [W.t, show (20 : Int32) = nI 20 from rfl, nI_add, show (400 : Int32) = nI 400 from rfl, le_I (by omega) (by omega)]
  refine ⟨fun c1 => ?_, fun c1 => ?_⟩
  · rw [cif_T c1, cif_T c1] at hq
    have rt : rTp M m T.1 := ⟨W.t, fun k hk => W.tb hk⟩
    have c2 : T.1.1 + 20 ≤ 400 := c1
    refine s_put4 R rt (by omega) (fun M1 f1 r1 => ⟨f1.ra R, ?_⟩)
    refine s_put4 (f1.ra R) r1 (show T.1.1 + 1 + 1 + 1 + 1 + 4 ≤ 400 by omega) (fun M2 f2 r2 => ?_)
    have g2 := f1.trans f2
    refine ⟨g2.ra R, s_put4 (g2.ra R) r2 (show T.1.1 + 1 + 1 + 1 + 1 + 1 + 1 + 1 + 1 + 4 ≤ 400 by omega) (fun M3 f3 r3 => ?_)⟩
    have g3 := g2.trans f3
    refine ⟨g3.ra R, s_put4 (g3.ra R) r3 (show T.1.1 + 1 + 1 + 1 + 1 + 1 + 1 + 1 + 1 + 1 + 1 + 1 + 1 + 4 ≤ 400 by omega) (fun M4 f4 r4 => ?_)⟩
    have g4 := g3.trans f4
    refine ⟨g4.ra R, s_put4 (g4.ra R) r4 (show T.1.1 + 1 + 1 + 1 + 1 + 1 + 1 + 1 + 1 + 1 + 1 + 1 + 1 + 1 + 1 + 1 + 1 + 4 ≤ 400 by omega) (fun M5 f5 r5 => ?_)⟩
    have g5 := g4.trans f5
    refine ⟨g5.ra R, ?_⟩
    rw [r5.1]
    refine hq M5 (W.upd g5 (fun o ho => by simp <;> omega) ⟨by decide, by decide⟩ rfl W.rs.2.1 (W.rs.2.2.fr W.rs.2.1 g5 (fun o ho => by simp <;> omega)) c1 ?_ r5.1 r5.2) (g5.ou (by decide))
    have o0 : okTp T.1 := fun k hk => W.tk hk
    exact o0.p4.p4.p4.p4.p4
  · rw [cif_F c1, cif_F c1] at hq
    exact hq M W Ou.refl
/-! GALLEY, WISH -/
/-- the first below n, or n -/
noncomputable def fst (p : Nat → Prop) : Nat → Nat
  | 0 => 0
  | n + 1 => cif (fst p n < n) (fst p n) (cif (p n) n (n + 1))
theorem fst_y {p : Nat → Prop} {i : Nat} (h : p i) (h2 : ∀ j, j < i → ¬ p j) : ∀ n, i < n → fst p n = i
  | 0, hn => absurd hn (by omega)
  | n + 1, hn => by
    show cif (fst p n < n) (fst p n) (cif (p n) n (n + 1)) = i
    rcases Nat.lt_or_ge i n with z | z
    · rw [fst_y h h2 n z, cif_T z]
    · have e : n = i := by omega
      have h3 : fst p n = n := by
        have key : ∀ k, k ≤ i → fst p k = k := by
          intro k
          induction k with
          | zero => intro _; rfl
          | succ k ih => 
            intro hk
            show cif (fst p k < k) (fst p k) (cif (p k) k (k + 1)) = k + 1
            rw [cif_F (by rw [ih (by omega)]; omega), cif_F (h2 k (by omega))]
        exact key n (by omega)
      rw [cif_F (by omega), e, cif_T h]
theorem fst_n {p : Nat → Prop} : ∀ n, (∀ j, j < n → ¬ p j) → fst p n = n
  | 0, _ => rfl
  | n + 1, h => by
    show cif (fst p n < n) (fst p n) (cif (p n) n (n + 1)) = n + 1
    rw [cif_F (by rw [fst_n n (fun j hj => h j (by omega))]; omega), cif_F (h n (by omega))]
/-- the place of a byte that cannot be in a GALLEY -/
def badB (t : Nat × (Nat → Int32)) (k : Nat) : Prop := k = 200 ∨ ¬ okB (t.2 k)
noncomputable def wrg (t : Nat × (Nat → Int32)) : Nat := fst (badB t) t.1
theorem and255 {c : Int32} (h : 0 ≤ c.toInt ∧ c.toInt ≤ 255) : c.toInt8.toInt32 &&& 255 = c := by
  obtain ⟨j, hj, e⟩ := asN (N := 256) h.1 (by omega)
  rw [e]
  exact sc_k8 j hj
theorem s_wrongByte (W : RX M m T) (hq : Q (cif (wrg T.1 < tN T) (nI (wrg T.1)) (-1)) M) : CI G (d + 3) 168 [.ref m] M Q := by
  have t4 := W.t4
  refine r_wrongByte W.1 ?_
  have key : ∀ n k : Nat, n + k = tN T → (∀ j, j < k → ¬ badB T.1 j) → At G (d + 3) 168 2 [(0, .ref m), (1, .int (nI k))] [] M (qI Q) := by
    intro n
    induction n with
    | zero => 
      intro k h1 h2
      refine r_wrongByte_2 W.1 ?_
      rw [W.t]
      refine ⟨fun _ => ?_, fun c => absurd (nI_le (by omega) (by omega)) c⟩
      have e : wrg T.1 = tN T := fst_n _ (fun j hj => h2 j (by have : j < tN T := hj; omega))
      rw [e, cif_F (by omega)] at hq
      exact hq
    | succ n ih => 
      intro k h1 h2
      have hk : k < tN T := by omega
      have y : badB T.1 k → Q (nI k) M := fun h => by
        have e : wrg T.1 = k := fst_y h h2 _ hk
        rw [e, cif_T hk] at hq
        exact hq
      refine r_wrongByte_2 W.1 ?_
      rw [W.t]
      refine ⟨fun c => absurd c (nI_ge hk (by omega)), fun _ => ⟨fun c => y (Or.inl ?_), fun c => ⟨vp_in_nI (by omega) (by omega), ?_⟩⟩⟩
      · rw [show (200 : Int32) = nI 200 from rfl, eq_I (by omega) (by omega)] at c
        exact c
      · rw [show (200 : Int32) = nI 200 from rfl, eq_I (by omega) (by omega)] at c
        rw [nI_clamp (by omega), W.tb hk, and255 (W.tk hk)]
        refine s_isByte ⟨W.1, bnz (fun c2 => ?_) (fun c2 => y (Or.inr c2))⟩
        rw [nI_1]
        refine ih (k + 1) (by omega) (fun j hj => ?_)
        rcases Nat.lt_or_ge j k with z | z
        · exact h2 j z
        · rw [show j = k by omega]
          exact fun h => h.elim c (fun h => h c2)
  exact key (tN T) 0 rfl (fun j hj => absurd hj (by omega))
noncomputable def f_gal (T : StT) : Int32 := cif (wrg T.1 < tN T) (-2 - nI (wrg T.1)) (nI (tN T))
def v_gal (T : StT) : StT := ((0, tB T), ((tN T, tB T), (sh T).2.1, (hN (sh T), hR (sh T), (fun _ => 0)), (sh T).2.2.2), T.2.2)
noncomputable def u_gal (T : StT) : StT := cif (wrg T.1 < tN T) (v_end T 0) (v_gal T)
def v_wis (T : StT) : StT := ((0, tB T), ((sh T).1, (tN T, tB T), (sh T).2.2), T.2.2)
noncomputable def u_wis (T : StT) : StT := cif (wrg T.1 < tN T) (v_end T 0) (v_wis T)
theorem fst_lt {p : Nat → Prop} : ∀ n, fst p n ≤ n
  | 0 => Nat.le_refl 0
  | n + 1 => by
    show cif (fst p n < n) (fst p n) (cif (p n) n (n + 1)) ≤ n + 1
    by_cases h : fst p n < n
    · rw [cif_T h]; omega
    · rw [cif_F h]
      by_cases h2 : p n
      · rw [cif_T h2]; omega
      · rw [cif_F h2]; omega
theorem fst_no {p : Nat → Prop} : ∀ n j, j < fst p n → ¬ p j
  | 0, j, h => absurd h (Nat.not_lt_zero j)
  | n + 1, j, h => by
    have h0 : fst p (n + 1) = cif (fst p n < n) (fst p n) (cif (p n) n (n + 1)) := rfl
    rw [h0] at h
    have hl := fst_lt (p := p) n
    by_cases c : fst p n < n
    · rw [cif_T c] at h
      exact fst_no n j h
    · rw [cif_F c] at h
      by_cases c2 : p n
      · rw [cif_T c2] at h
        exact fst_no n j (by omega)
      · rw [cif_F c2] at h
        rcases Nat.lt_or_ge j n with z | z
        · exact fst_no n j (by omega)
        · rw [show j = n by omega]; exact c2
/-- a tape without a wrong byte -/
theorem wrg_ok {t : Nat × (Nat → Int32)} (h : ¬ wrg t < t.1) : t.1 ≤ 200 ∧ ∀ k, k < t.1 → okB (t.2 k) := by
  have n : ∀ j, j < t.1 → ¬ badB t j := fun j hj => fst_no t.1 j (by have := fst_lt (p := badB t) t.1; unfold wrg at h; omega)
  refine ⟨?_, fun k hk => Classical.byContradiction (fun c => n k hk (Or.inr c))⟩
  rcases Nat.lt_or_ge 200 t.1 with z | z
  · exact absurd (Or.inl rfl) (n 200 z)
  · exact z
theorem okB_sb {c : Int32} (h : okB c) : c.toInt8.toInt32 = c := by
  obtain ⟨j, hj, e⟩ := asN (a := c) (N := 128) (by have := h.1; omega) (by have := h.2; omega)
  rw [e, fa_eq, Int8.toInt_toInt32, Int32.toInt_toInt8, nI_toIntN (by omega)]
  exact Int.bmod_eq_of_le (by omega) (by omega)
theorem m_galley (W : RX M m T) (hq : ∀ M', RX M' m (u_gal T) → Ou m M M' → Q (f_gal T) M') : CI G (d + 4) 169 [.ref m] M Q := by
  have t4 := W.t4
  have V := W.rs.2.1
  unfold u_gal f_gal at hq
  refine r_galley W.1 (s_wrongByte W ⟨W.1, ?_⟩)
  intro M3 e3
  have f3 : Frl m [13] [1, 2, 5] M M3 := by rw [e3]; exact Frl.sf (by decide)
  have W3 : RX M3 m (v_end T 0) := by rw [e3]; exact W.tape0 (Nat.zero_le _)
  by_cases c : wrg T.1 < tN T
  · rw [cif_T c, cif_T c] at hq
    rw [cif_T c]
    refine ⟨fun c2 => absurd c2 ?_, fun _ => hq M3 W3 (f3.ou (by decide))⟩
    rw [il_m1, nm_eq (by decide) (by decide) (by omega)]
    exact fun h => h
  · rw [cif_F c, cif_F c] at hq
    rw [cif_F c, W.t]
    refine ⟨fun _ => ?_, fun c2 => absurd rfl c2⟩
    have ok := wrg_ok (t := T.1) c
    have n2 : tN T ≤ 200 := ok.1
    -- the last loop
    have lp2 : ∀ (n h : Nat) (M1 : Mem), n + h = 4 → Frl m [13] [1, 2, 5] M M1 → vi M1 m 13 = nI 0 → vi M1 (m + 1) 0 = nI (tN T) → (∀ k, k ≠ 0 → vi M1 (m + 1) k = vi M (m + 1) k) → (∀ k, k < tN T → vi M1 (m + 2) k = tB T k) → (∀ k, k < h → vi M1 (m + 5) k = 0) → At G (d + 4) 169 59 [(0, .ref m), (2, .int (nI (tN T))), (3, .int (nI h))] [] M1 (qI Q) := by
      intro n
      induction n with
      | zero => 
        intro h M1 h1 f t1 g0 g1 g2 g5
        refine r_galley_59 (f.ra W.1) ⟨fun _ => ?_, fun c => absurd (show (4 : Int32) ≤ nI h from nI_le (show 4 ≤ h by omega) (by omega)) c⟩
        refine hq M1 ?_ (f.ou (by decide))
        have r := W.rs.2.2
        have V2 : okS (sh (v_gal T)) := ⟨n2, fun k hk => ok.2 k hk, V.2.2.1, V.2.2.2.1, V.2.2.2.2.1, V.2.2.2.2.2.1, fun h => Nat.zero_le 16, fun h hh => rfl, fun s hs => absurd hs.2 (Nat.not_lt_zero _), V.2.2.2.2.2.2.2.2.2⟩
        refine W.upd f (fun o ho => by simp <;> omega) ⟨by decide, by decide⟩ rfl V2 ?_ (Nat.zero_le _) (fun k hk => absurd hk (Nat.not_lt_zero k)) t1 (fun k hk => absurd hk (Nat.not_lt_zero k))
        refine ⟨⟨g0, ?_, ?_⟩, g2, fun k hk => ?_, fun k hk => ?_, fun k hk => ?_, fun k hk => ?_, fun s hs => absurd hs.2 (Nat.not_lt_zero _)⟩
        · show vi M1 (m + 1) 1 = _
          rw [g1 1 (by decide)]; exact r.w
        · show vi M1 (m + 1) 2 = _
          rw [g1 2 (by decide)]; exact r.h
        · show vi M1 (m + 3) k = _
          rw [f.i (by decide) (by decide)]; exact r.wb hk
        · show vi M1 (m + 4) k = _
          rw [f.i (by decide) (by decide)]; exact r.r hk
        · show vi M1 (m + 5) k = nI 0
          have hk2 : k < hN (sh T) := hk
          have h4 := V.h
          rw [g5 k (by omega)]; rfl
        · show vi M1 (m + 6) k = _
          rw [f.i (by decide) (by decide)]; exact r.k hk
      | succ n ih => 
        intro h M1 h1 f t1 g0 g1 g2 g5
        refine r_galley_59 (f.ra W.1) ⟨fun c => absurd c (nI_ge (a := h) (b := 4) (by omega) (by decide)), fun _ => ⟨vp_in_nI (by omega) (by omega), ?_⟩⟩
        rw [nI_clamp (by omega), nI_1]
        intro M6 e6
        refine ih (h + 1) M6 (by omega) ?_ ?_ ?_ (fun k hk => ?_) (fun k hk => ?_) (fun k hk => ?_)
        · rw [e6]; exact f.trans (Frl.si (o := 5) (by decide))
        · rw [e6, vi_seti, if_neg (by omega)]; exact t1
        · rw [e6, vi_seti, if_neg (by omega)]; exact g0
        · rw [e6, vi_seti, if_neg (by omega)]; exact g1 k hk
        · rw [e6, vi_seti, if_neg (by omega)]; exact g2 k hk
        · rw [e6, vi_seti]
          by_cases z : k = h
          · rw [if_pos ⟨rfl, z⟩]
          · rw [if_neg (fun h => z h.2)]; exact g5 k (by omega)
    have lp1 : ∀ (n i : Nat) (M1 : Mem), n + i = tN T → Frl m [13] [1, 2, 5] M M1 → vi M1 m 13 = nI 0 → (∀ k, vi M1 (m + 1) k = vi M (m + 1) k) → (∀ k, k < i → vi M1 (m + 2) k = tB T k) → At G (d + 4) 169 27 [(0, .ref m), (2, .int (nI (tN T))), (3, .int (nI i))] [] M1 (qI Q) := by
      intro n
      induction n with
      | zero => 
        intro i M1 h1 f t1 g1 g2
        refine r_galley_27 (f.ra W.1) ⟨fun _ => ⟨v03, ?_⟩, fun c => absurd (nI_le (by omega) (by omega)) c⟩
        rw [show (0 : Int32).toNatClampNeg = 0 from rfl]
        intro M4 e4
        refine lp2 4 0 M4 rfl ?_ ?_ ?_ (fun k hk => ?_) (fun k hk => ?_) (fun k hk => absurd hk (by omega))
        · rw [e4]; exact f.trans (Frl.si (o := 1) (by decide))
        · rw [e4, vi_seti, if_neg (by omega)]; exact t1
        · rw [e4, vi_seti, if_pos ⟨rfl, rfl⟩]
        · rw [e4, vi_seti, if_neg (by omega)]; exact g1 k
        · rw [e4, vi_seti, if_neg (by omega)]; exact g2 k (by omega)
      | succ n ih => 
        intro i M1 h1 f t1 g1 g2
        refine r_galley_27 (f.ra W.1) ⟨fun c => absurd c (nI_ge (by omega) (by omega)), fun _ => ⟨vp_in_nI (by omega) (by omega), vp_in_nI (by omega) (by omega), ?_⟩⟩
        rw [nI_clamp (by omega), nI_1]
        intro M5 e5
        have rb : vi M1 (m + 13) i = tB T i := by
          rw [f.i (by decide) (by decide), W.tb (by omega)]
          exact okB_sb (ok.2 i (show i < tN T by omega))
        rw [rb] at e5
        refine ih (i + 1) M5 (by omega) ?_ ?_ (fun k => ?_) (fun k hk => ?_)
        · rw [e5]; exact f.trans (Frl.si (o := 2) (by decide))
        · rw [e5, vi_seti, if_neg (by omega)]; exact t1
        · rw [e5, vi_seti, if_neg (by omega)]; exact g1 k
        · rw [e5, vi_seti]
          by_cases z : k = i
          · rw [if_pos ⟨rfl, z⟩, z]
          · rw [if_neg (fun h => z h.2)]; exact g2 k (by omega)
    refine lp1 (tN T) 0 M3 rfl f3 ?_ (fun k => ?_) (fun k hk => absurd hk (by omega))
    · rw [e3, vi_seti, if_pos ⟨rfl, rfl⟩]; rfl
    · rw [e3, vi_seti, if_neg (by omega)]
theorem m_wishes (W : RX M m T) (hq : ∀ M', RX M' m (u_wis T) → Ou m M M' → Q (f_gal T) M') : CI G (d + 4) 170 [.ref m] M Q := by
  have t4 := W.t4
  have V := W.rs.2.1
  unfold u_wis f_gal at hq
  refine r_wishes W.1 (s_wrongByte W ⟨W.1, ?_⟩)
  intro M3 e3
  have f3 : Frl m [13] [1, 3] M M3 := by rw [e3]; exact Frl.sf (by decide)
  have W3 : RX M3 m (v_end T 0) := by rw [e3]; exact W.tape0 (Nat.zero_le _)
  by_cases c : wrg T.1 < tN T
  · rw [cif_T c, cif_T c] at hq
    rw [cif_T c]
    refine ⟨fun c2 => absurd c2 ?_, fun _ => hq M3 W3 (f3.ou (by decide))⟩
    rw [il_m1, nm_eq (by decide) (by decide) (by omega)]
    exact fun h => h
  · rw [cif_F c, cif_F c] at hq
    rw [cif_F c, W.t]
    refine ⟨fun _ => ?_, fun c2 => absurd rfl c2⟩
    have ok := wrg_ok (t := T.1) c
    have n2 : tN T ≤ 200 := ok.1
    have lp1 : ∀ (n i : Nat) (M1 : Mem), n + i = tN T → Frl m [13] [1, 3] M M1 → vi M1 m 13 = nI 0 → (∀ k, vi M1 (m + 1) k = vi M (m + 1) k) → (∀ k, k < i → vi M1 (m + 3) k = tB T k) → At G (d + 4) 170 27 [(0, .ref m), (2, .int (nI (tN T))), (3, .int (nI i))] [] M1 (qI Q) := by
      intro n
      induction n with
      | zero => 
        intro i M1 h1 f t1 g1 g2
        refine r_wishes_27 (f.ra W.1) ⟨fun _ => ⟨v13, ?_⟩, fun c => absurd (nI_le (by omega) (by omega)) c⟩
        rw [show (1 : Int32).toNatClampNeg = 1 from rfl]
        intro M4 e4
        have f4 : Frl m [13] [1, 3] M M4 := by rw [e4]; exact f.trans (Frl.si (o := 1) (by decide))
        refine hq M4 ?_ (f4.ou (by decide))
        have r := W.rs.2.2
        have V2 : okS (sh (v_wis T)) := ⟨V.1, V.2.1, n2, fun k hk => ok.2 k hk, V.2.2.2.2⟩
        refine W.upd f4 (fun o ho => by simp <;> omega) ⟨by decide, by decide⟩ rfl V2 ?_ (Nat.zero_le _) (fun k hk => absurd hk (Nat.not_lt_zero k)) ?_ (fun k hk => absurd hk (Nat.not_lt_zero k))
        · refine ⟨⟨?_, ?_, ?_⟩, fun k hk => ?_, fun k hk => ?_, fun k hk => ?_, fun k hk => ?_, fun k hk => ?_, fun s hs => ?_⟩
          · show vi M4 (m + 1) 0 = _
            rw [e4, vi_seti, if_neg (by omega), g1]; exact r.g
          · show vi M4 (m + 1) 1 = nI (tN T)
            rw [e4, vi_seti, if_pos ⟨rfl, rfl⟩]
          · show vi M4 (m + 1) 2 = _
            rw [e4, vi_seti, if_neg (by omega), g1]; exact r.h
          · show vi M4 (m + 2) k = _
            rw [f4.i (by decide) (by decide)]; exact r.gb hk
          · show vi M4 (m + 3) k = tB T k
            rw [e4, vi_seti, if_neg (by omega)]
            have hk2 : k < tN T := hk
            exact g2 k (by omega)
          · show vi M4 (m + 4) k = _
            rw [f4.i (by decide) (by decide)]; exact r.r hk
          · show vi M4 (m + 5) k = _
            rw [f4.i (by decide) (by decide)]; exact r.c hk
          · show vi M4 (m + 6) k = _
            rw [f4.i (by decide) (by decide)]; exact r.k hk
          · show vi M4 (m + 7) s = _ ∧ vi M4 (m + 8) s = _ ∧ vi M4 (m + 9) s = _ ∧ vi M4 (m + 10) s = _ ∧ vi M4 (m + 11) s = _ ∧ ∀ i, i < _ → vi M4 (m + 12) (20 * s + i) = _
            rw [f4.i (by decide) (by decide), f4.i (by decide) (by decide), f4.i (by decide) (by decide), f4.i (by decide) (by decide), f4.i (by decide) (by decide)]
            exact ⟨r.m7 hs, r.m8 hs, r.m9 hs, r.m10 hs, r.m11 hs, fun i hi => by rw [f4.i (by decide) (by decide)]; exact r.m12 hs hi⟩
        · rw [e4, vi_seti, if_neg (by omega)]; exact t1
      | succ n ih => 
        intro i M1 h1 f t1 g1 g2
        refine r_wishes_27 (f.ra W.1) ⟨fun c => absurd c (nI_ge (by omega) (by omega)), fun _ => ⟨vp_in_nI (by omega) (by omega), vp_in_nI (by omega) (by omega), ?_⟩⟩
        rw [nI_clamp (by omega), nI_1]
        intro M5 e5
        have rb : vi M1 (m + 13) i = tB T i := by
          rw [f.i (by decide) (by decide), W.tb (by omega)]
          exact okB_sb (ok.2 i (show i < tN T by omega))
        rw [rb] at e5
        refine ih (i + 1) M5 (by omega) ?_ ?_ (fun k => ?_) (fun k hk => ?_)
        · rw [e5]; exact f.trans (Frl.si (o := 3) (by decide))
        · rw [e5, vi_seti, if_neg (by omega)]; exact t1
        · rw [e5, vi_seti, if_neg (by omega)]; exact g1 k
        · rw [e5, vi_seti]
          by_cases z : k = i
          · rw [if_pos ⟨rfl, z⟩, z]
          · rw [if_neg (fun h => z h.2)]; exact g2 k (by omega)
    refine lp1 (tN T) 0 M3 rfl f3 ?_ (fun k => ?_) (fun k hk => absurd hk (by omega))
    · rw [e3, vi_seti, if_pos ⟨rfl, rfl⟩]; rfl
    · rw [e3, vi_seti, if_neg (by omega)]
end
