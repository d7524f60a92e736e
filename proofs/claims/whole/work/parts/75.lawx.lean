/-! READING LAWS: what a TEST is. Modes: 0 a FACT, 1 a TEST, 2 what is joined by and, 3 by or -/
noncomputable def bnd (F : Nat × LxT) (g : Nat → List Nat → Nat → Nat × LxT) : Nat × LxT := cif (F.1 = 0) (g F.2.1 F.2.2.1 F.2.2.2) F
def wNot : List Int32 := strB.getD 24 []
def wAnd : List Int32 := strB.getD 25 []
def wOr : List Int32 := strB.getD 26 []
noncomputable def pX (t : TpT) : Nat → Nat → Nat → Nat → List Nat → Nat → Nat × LxT
  | 0, _, _, p, cd, n => (99999, p, cd, n)
  | k + 1, w, dp, p, cd, n => cif (w = 0)
      (cif (pk t p = 91) (cif (dp = 10) (flt p 2, p, cd, n) (bnd (pX t k 1 (dp + 1) (skB t (p + 1)) cd n) (fun p cd n => cif (pk t p = 93) (0, skB t (p + 1), cd, n) (flt p 0, p, cd, n))))
        (cif (wAt t p = wNot) (cif (dp = 10) (flt p 2, p, cd, n) (bnd (pX t k 0 (dp + 1) (skB t (p + 3)) cd n) (fun p cd n => (0, p, cd ++ [200011], n)))) (pCmp t p cd n)))
    (cif (w = 1) (bnd (pX t k 0 dp p cd n) (fun p cd n => bnd (pX t k 2 dp p cd n) (fun p cd n => pX t k 3 dp p cd n)))
    (cif (w = 2) (cif (wAt t p = wAnd) (bnd (pX t k 0 dp (skB t (p + 3)) cd n) (fun p cd n => pX t k 2 dp p (cd ++ [200009]) n)) (0, p, cd, n))
      (cif (wAt t p = wOr) (bnd (pX t k 0 dp (skB t (p + 2)) cd n) (fun p cd n => bnd (pX t k 2 dp p cd n) (fun p cd n => pX t k 3 dp p (cd ++ [200010]) n))) (0, p, cd, n))))
/-- what room a mode leaves -/
def rmK (w : Nat) : Nat := if w ≤ 1 then 9 else 0
theorem bnd_el {φ : Nat × LxT → Prop} {F : Nat × LxT} {g : Nat → List Nat → Nat → Nat × LxT} (h1 : ¬ F.1 = 0 → φ F) (h2 : F.1 = 0 → φ (g F.2.1 F.2.2.1 F.2.2.2)) : φ (bnd F g) := cif_el (φ := φ) h2 h1
theorem wl_of {t : TpT} {p : Nat} {W : List Int32} (h : wAt t p = W) : wl t p = W.length := by rw [← h, wAt_len]
theorem pX_rom {t : TpT} (t4 : t.1 ≤ 400) : ∀ (k w dp p : Nat) (cd : List Nat) (n : Nat), p ≤ t.1 → n ≤ 60 → rom t p cd n (rmK w) (pX t k w dp p cd n)
  | 0, w, dp, p, cd, n, p4, n6 => ⟨by show 99999 < 100000; omega, fun z => absurd z (by show ¬ 99999 = 0; omega)⟩
  | k + 1, w, dp, p, cd, n, p4, n6 => by
    have ih := pX_rom t4 k
    have fl : ∀ j c q cd' n', q ≤ t.1 → c < 8 → rom t p cd n j (flt q c, q, cd', n') := fun j c q cd' n' hq hc => ⟨flt_lt (by omega) hc, fun z => absurd z (flt_ne q c)⟩
    have bad : ∀ {j j' q cd' n'} {F : Nat × LxT}, rom t q cd' n' j' F → ¬ F.1 = 0 → rom t p cd n j F := fun r z => ⟨r.1, fun y => absurd y z⟩
    unfold pX
    refine cif_el (φ := rom t p cd n (rmK w)) (fun w0 => ?_) (fun w0 => ?_)
    · subst w0
      refine cif_el (φ := rom t p cd n (rmK 0)) (fun c => ?_) (fun c => ?_)
      · refine cif_el (φ := rom t p cd n (rmK 0)) (fun _ => fl _ 2 _ _ _ p4 (by omega)) (fun _ => ?_)
        have q := (pk_at c (by decide)).1
        have sk := skB_le (t := t) (p := p + 1) (by omega)
        have r := ih 1 (dp + 1) (skB t (p + 1)) cd n sk.2 n6
        refine bnd_el (φ := rom t p cd n (rmK 0)) (fun z => bad r z) (fun z => ?_)
        have r2 := r.2 z
        have e9 : rmK 1 = 9 := rfl
        have e0 : rmK 0 = 9 := rfl
        refine cif_el (φ := rom t p cd n (rmK 0)) (fun c2 => ⟨by show 0 < _; omega, fun _ => ?_⟩) (fun _ => fl _ 0 _ _ _ r2.2.1 (by omega))
        have q2 := (pk_at c2 (by decide)).1
        have sk2 := skB_le (t := t) (p := (pX t k 1 (dp + 1) (skB t (p + 1)) cd n).2.1 + 1) (by omega)
        exact ⟨by dsimp only; omega, sk2.2, r2.2.2.1, by dsimp only; omega⟩
      · refine cif_el (φ := rom t p cd n (rmK 0)) (fun c => ?_) (fun c => pCmp_rom t4 p4 n6)
        refine cif_el (φ := rom t p cd n (rmK 0)) (fun _ => fl _ 2 _ _ _ p4 (by omega)) (fun _ => ?_)
        have lw := wl_of c
        have l3 : wNot.length = 3 := rfl
        have wq := wl_le p4
        have sk := skB_le (t := t) (p := p + 3) (by omega)
        have r := ih 0 (dp + 1) (skB t (p + 3)) cd n sk.2 n6
        refine bnd_el (φ := rom t p cd n (rmK 0)) (fun z => bad r z) (fun z => ?_)
        have r2 := r.2 z
        have e0 : rmK 0 = 9 := rfl
        refine ⟨by show 0 < _; omega, fun _ => ⟨by dsimp only; omega, r2.2.1, r2.2.2.1, ?_⟩⟩
        dsimp only
        rw [List.length_append, List.length_singleton]
        omega
    · refine cif_el (φ := rom t p cd n (rmK w)) (fun w1 => ?_) (fun w1 => ?_)
      · subst w1
        have r := ih 0 dp p cd n p4 n6
        refine bnd_el (φ := rom t p cd n (rmK 1)) (fun z => bad r z) (fun z => ?_)
        have r2 := r.2 z
        have q := ih 2 dp (pX t k 0 dp p cd n).2.1 (pX t k 0 dp p cd n).2.2.1 (pX t k 0 dp p cd n).2.2.2 r2.2.1 r2.2.2.1
        refine bnd_el (φ := rom t p cd n (rmK 1)) (fun z => bad q z) (fun z => ?_)
        have q2 := q.2 z
        generalize pX t k 2 dp (pX t k 0 dp p cd n).2.1 (pX t k 0 dp p cd n).2.2.1 (pX t k 0 dp p cd n).2.2.2 = Y at *
        have v := ih 3 dp Y.2.1 Y.2.2.1 Y.2.2.2 q2.2.1 q2.2.2.1
        have e9 : rmK 1 = 9 := rfl
        have e0 : rmK 0 = 9 := rfl
        have e2 : rmK 2 = 0 := rfl
        have e3 : rmK 3 = 0 := rfl
        exact ⟨v.1, fun y => by have v2 := v.2 y; omega⟩
      · have ew : rmK w = 0 := by unfold rmK; rw [if_neg (by omega)]
        rw [ew]
        have e0 : rmK 0 = 9 := rfl
        have e2 : rmK 2 = 0 := rfl
        have e3 : rmK 3 = 0 := rfl
        have stay : rom t p cd n 0 (0, p, cd, n) := ⟨by show 0 < _; omega, fun _ => ⟨Nat.le_refl _, p4, n6, by dsimp only; omega⟩⟩
        refine cif_el (φ := rom t p cd n 0) (fun w2 => ?_) (fun w2 => ?_)
        · refine cif_el (φ := rom t p cd n 0) (fun c => ?_) (fun _ => stay)
          have lw := wl_of c
          have l3 : wAnd.length = 3 := rfl
          have wq := wl_le p4
          have sk := skB_le (t := t) (p := p + 3) (by omega)
          have r := ih 0 dp (skB t (p + 3)) cd n sk.2 n6
          refine bnd_el (φ := rom t p cd n 0) (fun z => bad r z) (fun z => ?_)
          have r2 := r.2 z
          generalize pX t k 0 dp (skB t (p + 3)) cd n = Y at *
          have v := ih 2 dp Y.2.1 (Y.2.2.1 ++ [200009]) Y.2.2.2 r2.2.1 r2.2.2.1
          refine ⟨v.1, fun y => ?_⟩
          have v2 := v.2 y
          rw [List.length_append, List.length_singleton] at v2
          omega
        · refine cif_el (φ := rom t p cd n 0) (fun c => ?_) (fun _ => stay)
          have lw := wl_of c
          have l3 : wOr.length = 2 := rfl
          have wq := wl_le p4
          have sk := skB_le (t := t) (p := p + 2) (by omega)
          have r := ih 0 dp (skB t (p + 2)) cd n sk.2 n6
          refine bnd_el (φ := rom t p cd n 0) (fun z => bad r z) (fun z => ?_)
          have r2 := r.2 z
          generalize pX t k 0 dp (skB t (p + 2)) cd n = Y at *
          have q := ih 2 dp Y.2.1 Y.2.2.1 Y.2.2.2 r2.2.1 r2.2.2.1
          refine bnd_el (φ := rom t p cd n 0) (fun z => bad q z) (fun z => ?_)
          have q2 := q.2 z
          generalize pX t k 2 dp Y.2.1 Y.2.2.1 Y.2.2.2 = U at *
          have v := ih 3 dp U.2.1 (U.2.2.1 ++ [200010]) U.2.2.2 q2.2.1 q2.2.2.1
          refine ⟨v.1, fun y => ?_⟩
          have v2 := v.2 y
          rw [List.length_append, List.length_singleton] at v2
          omega
/-! blanks are behind it -/
theorem pTmL_sk {t : TpT} : ∀ (j p : Nat) (cd : List Nat) (n : Nat), p ≤ t.1 → t.1 - skB t p < j → (pTmL t j p cd n).1 = 0 → n ≤ 60 → t.1 ≤ 400 → skB t (pTmL t j p cd n).2.1 = (pTmL t j p cd n).2.1
  | 0, p, cd, n, p4, hj, _, _, _ => absurd hj (Nat.not_lt_zero _)
  | j + 1, p, cd, n, p4, hj, h, n6, t4 => by
    have sk := skB_le p4
    by_cases c : pk t (skB t p) = 42 ∨ pk t (skB t p) = 47
    · have e : pTmL t (j + 1) p cd n = cif ((pVal t (skB t (skB t p + 1)) cd n).1 = 0) (pTmL t j (pVal t (skB t (skB t p + 1)) cd n).2.1 ((pVal t (skB t (skB t p + 1)) cd n).2.2.1 ++ [cif (pk t (skB t p) = 42) 200002 200003]) (pVal t (skB t (skB t p + 1)) cd n).2.2.2) (pVal t (skB t (skB t p + 1)) cd n) := cif_T c
      have q := (pk_at (c := pk t (skB t p)) rfl (by rcases c with c | c <;> rw [c] <;> decide)).1
      have sk2 := skB_le (t := t) (p := skB t p + 1) (by omega)
      have v := pVal_rom (cd := cd) t4 sk2.2 n6
      rw [e] at h ⊢
      by_cases z : (pVal t (skB t (skB t p + 1)) cd n).1 = 0
      · have v2 := v.2 z
        rw [cif_T z] at h ⊢
        have sk3 := skB_le v2.2.1
        exact pTmL_sk j _ _ _ v2.2.1 (by omega) h v2.2.2.1 t4
      · rw [cif_F z] at h; exact absurd h z
    · have e : pTmL t (j + 1) p cd n = (0, skB t p, cd, n) := cif_F c
      rw [e]
      exact skB_id t p
theorem pTm_sk {t : TpT} {p n : Nat} {cd : List Nat} (t4 : t.1 ≤ 400) (p4 : p ≤ t.1) (n6 : n ≤ 60) (h : (pTm t p cd n).1 = 0) : skB t (pTm t p cd n).2.1 = (pTm t p cd n).2.1 := by
  have v := pVal_rom (cd := cd) t4 p4 n6
  unfold pTm at h ⊢
  by_cases z : (pVal t p cd n).1 = 0
  · rw [cif_T z] at h ⊢
    have v2 := v.2 z
    exact pTmL_sk 401 _ _ _ v2.2.1 (by omega) h v2.2.2.1 t4
  · rw [cif_F z] at h; exact absurd h z
theorem pSmL_sk {t : TpT} (t4 : t.1 ≤ 400) : ∀ (j p : Nat) (cd : List Nat) (n : Nat), p ≤ t.1 → skB t p = p → (pSmL t j p cd n).1 = 0 → n ≤ 60 → skB t (pSmL t j p cd n).2.1 = (pSmL t j p cd n).2.1
  | 0, p, cd, n, p4, hj, _, _ => hj
  | j + 1, p, cd, n, p4, hj, h, n6 => by
    by_cases c : pk t p = 43 ∨ pk t p = 45
    · have e : pSmL t (j + 1) p cd n = cif ((pTm t (skB t (p + 1)) cd n).1 = 0) (pSmL t j (pTm t (skB t (p + 1)) cd n).2.1 ((pTm t (skB t (p + 1)) cd n).2.2.1 ++ [cif (pk t p = 43) 200000 200001]) (pTm t (skB t (p + 1)) cd n).2.2.2) (pTm t (skB t (p + 1)) cd n) := cif_T c
      have q := (pk_at (c := pk t p) rfl (by rcases c with c | c <;> rw [c] <;> decide)).1
      have sk2 := skB_le (t := t) (p := p + 1) (by omega)
      have v := pTm_rom (cd := cd) t4 sk2.2 n6
      rw [e] at h ⊢
      by_cases z : (pTm t (skB t (p + 1)) cd n).1 = 0
      · have v2 := v.2 z
        rw [cif_T z] at h ⊢
        exact pSmL_sk t4 j _ _ _ v2.2.1 (pTm_sk t4 sk2.2 n6 z) h v2.2.2.1
      · rw [cif_F z] at h; exact absurd h z
    · have e : pSmL t (j + 1) p cd n = (0, p, cd, n) := cif_F c
      rw [e]
      exact hj
theorem pSm_sk {t : TpT} {p n : Nat} {cd : List Nat} (t4 : t.1 ≤ 400) (p4 : p ≤ t.1) (n6 : n ≤ 60) (h : (pSm t p cd n).1 = 0) : skB t (pSm t p cd n).2.1 = (pSm t p cd n).2.1 := by
  have v := pTm_rom (cd := cd) t4 p4 n6
  unfold pSm at h ⊢
  by_cases z : (pTm t p cd n).1 = 0
  · rw [cif_T z] at h ⊢
    have v2 := v.2 z
    exact pSmL_sk t4 401 _ _ _ v2.2.1 (pTm_sk t4 p4 n6 z) h v2.2.2.1
  · rw [cif_F z] at h; exact absurd h z
theorem pCmp_sk {t : TpT} {p n : Nat} {cd : List Nat} (t4 : t.1 ≤ 400) (p4 : p ≤ t.1) (n6 : n ≤ 60) (h : (pCmp t p cd n).1 = 0) : skB t (pCmp t p cd n).2.1 = (pCmp t p cd n).2.1 := by
  have v := pSm_rom (cd := cd) t4 p4 n6
  unfold pCmp at h ⊢
  by_cases z : (pSm t p cd n).1 = 0
  · rw [cif_T z] at h ⊢
    have v2 := v.2 z
    generalize pSm t p cd n = Y at *
    unfold pCm2 at h ⊢
    by_cases c : isCm t Y.2.1
    · rw [cif_T c] at h ⊢
      by_cases c2 : Y.2.2.2 = 60
      · rw [cif_T c2] at h; exact absurd h (flt_ne _ _)
      · rw [cif_F c2] at h ⊢
        have cx := cmX_le c
        have sk := skB_le cx.2
        by_cases z2 : (pSm t (skB t (cmX t Y.2.1)) Y.2.2.1 (Y.2.2.2 + 1)).1 = 0
        · rw [cif_T z2]
          exact pSm_sk t4 sk.2 (by omega) z2
        · rw [cif_F z2] at h; exact absurd h z2
    · rw [cif_F c] at h; exact absurd h (flt_ne _ _)
  · rw [cif_F z] at h; exact absurd h z
