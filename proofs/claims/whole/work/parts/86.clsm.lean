/-! THE CLASS'S READER OF LAWS: signs, FACTS, TESTS -/
def rS (F : Nat × LxT) (f' p' : Nat) (cd' : List Nat) (n' : Nat) : Prop := f' = F.1 ∧ (f' = 0 → F.2 = (p', cd', n'))
section
variable {G : GT} {d : Nat} {M M' : Mem} {x a p n f : Nat} {t : TpT} {cd : List Nat}
theorem k_readSign {Q : Int32 → Mem → Prop} (h : Lk M x a t p cd n f) (n6 : f = 0 → n ≤ 60) (hq : ∀ M' p' n' f' c, FrL x a M M' → Lk M' x a t p' cd n' f' → (¬ f = 0 → f' = f) → (f = 0 → (¬ isCm t p → f' = flt p 0) ∧ (isCm t p → (n = 60 → f' = flt p 3) ∧ (¬ n = 60 → f' = 0 ∧ p' = skB t (cmX t p) ∧ n' = n + 1 ∧ c = cmC t p))) → Q (nI c) M') :
    CI G (d + 3) 35 [.ref (x + 18)] M (fun v M' => LrAt M' (x + 18) (x + 1) a ∧ Q v M') := by
  have p4 := h.p4
  have tk : mK M (x + 1) = 10 := h.tpe.1.1
  refine c_X3_readSign h.1 (k_peek h.tpe (by omega) ⟨h.1, ?_⟩)
  rw [h.tpe.pp]
  -- a sign is there
  have yes : isCm t p → At G (d + 3) 35 45 [(0, .ref (x + 18)), (1, .int (nI p)), (2, .int (pk t p))] [] M (qI (fun v M' => LrAt M' (x + 18) (x + 1) a ∧ Q v M')) := fun cm => by
    have pl : p < t.1 := (pk_at (c := pk t p) rfl (by rcases cm with z | z | z <;> rw [z] <;> decide)).1
    refine c_X3_readSign_45 h.1 (k_countAt h (by omega) n6 (fun M4 f4 r4 h4 hf hf0 => ?_))
    intro M5 e5
    rw [h4.tpe.pp, nI_1] at e5
    have g5 : Frl (x + 1) [2] [] M4 M5 := by rw [e5]; exact Frl.sf (by decide)
    have t5 : tpA M5 (x + 1) t (p + 1) f4 := h4.tpe.pl g5 (by rw [e5, vi_seti, if_pos ⟨rfl, rfl⟩])
    have r5 := h4.mv g5 (by decide) t5 (by omega) h4.f4
    have k5 : mK M5 (x + 1) = 10 := t5.1.1
    -- the end
    have fin : ∀ e : Nat, (e = 1 ∧ isOr t p ∨ e = 0 ∧ ¬ isOr t p) → At G (d + 3) 35 100 [(2, .int (pk t p)), (3, .int (nI e))] [.int (nI e), .ref (x + 1)] M5 (qI (fun v M' => LrAt M' (x + 18) (x + 1) a ∧ Q v M')) := fun e he => by
      have pe : p + 1 + e ≤ t.1 := by
        rcases he with ⟨e1, o⟩ | ⟨e1, _⟩
        · have := (pk_at o.2 (by decide)).1
          omega
        · omega
      have cx : p + 1 + e = cmX t p := by
        unfold cmX
        rcases he with ⟨e1, o⟩ | ⟨e1, o⟩
        · rw [cif_T o]; omega
        · rw [cif_F o]; omega
      refine c_X3_readSign_100 r5.2.1 ⟨k5, k_pass t5 (by omega) (fun M8 g8 t8 => ?_)⟩
      have r8 := r5.2.mv g8 (by decide) t8 (skB_le pe).2 h4.f4
      have rr := r4.trans (r5.1.trans r8.1)
      have gv : ∀ c, c = cmC t p → LrAt M8 (x + 18) (x + 1) a ∧ Q (nI c) M8 := fun c hc => by
        refine ⟨r8.2.1, hq M8 _ _ _ c rr r8.2 hf (fun z => ⟨fun y => absurd cm y, fun _ => ⟨(hf0 z).1, fun y => ⟨(hf0 z).2 y, by rw [cx], rfl, hc⟩⟩⟩)⟩
      refine ⟨r8.2.1, fun c61 => ⟨fun c60 => ⟨fun y => c_X3_readSign_141 r8.2.1 (gv 200008 ?_), fun y => c_X3_readSign_141 r8.2.1 (gv 200007 ?_)⟩, fun c60 => ⟨fun y => c_X3_readSign_129 r8.2.1 (gv 200004 ?_), fun y => c_X3_readSign_129 r8.2.1 (gv 200005 ?_)⟩⟩, fun c61 => gv 200006 ?_⟩
      · have o : ¬ isOr t p := by
          rcases he with ⟨e1, o⟩ | ⟨e1, o⟩
          · rw [e1] at y; exact absurd y (by decide)
          · exact o
        unfold cmC; rw [cif_F c61, cif_F c60, cif_F o]
      · have o : isOr t p := by
          rcases he with ⟨e1, o⟩ | ⟨e1, o⟩
          · exact o
          · rw [e1] at y; exact absurd rfl y
        unfold cmC; rw [cif_F c61, cif_F c60, cif_T o]
      · have o : ¬ isOr t p := by
          rcases he with ⟨e1, o⟩ | ⟨e1, o⟩
          · rw [e1] at y; exact absurd y (by decide)
          · exact o
        unfold cmC; rw [cif_F c61, cif_T c60, cif_F o]
      · have o : isOr t p := by
          rcases he with ⟨e1, o⟩ | ⟨e1, o⟩
          · exact o
          · rw [e1] at y; exact absurd rfl y
        unfold cmC; rw [cif_F c61, cif_T c60, cif_T o]
      · unfold cmC; rw [cif_T c61]
    have f0 : ¬ isOr t p → At G (d + 3) 35 85 [(0, .ref (x + 18)), (2, .int (pk t p))] [] M5 (qI (fun v M' => LrAt M' (x + 18) (x + 1) a ∧ Q v M')) := fun o =>
      c_X3_readSign_85 r5.2.1 (c_X3_readSign_86 r5.2.1 ⟨fun _ => fin 0 (Or.inr ⟨rfl, o⟩), fun y => absurd rfl y⟩)
    refine ⟨fun c61 => f0 (fun o => o.1 c61), fun c61 => k_peek t5 (by omega) ⟨r5.2.1, fun z => f0 (fun o => z o.2), fun z => ?_⟩⟩
    exact c_X3_readSign_86 r5.2.1 ⟨fun y => absurd y (by decide), fun _ => fin 1 (Or.inl ⟨rfl, c61, z⟩)⟩
  refine ⟨fun c => yes (Or.inl c), fun c1 => ⟨fun c => yes (Or.inr (Or.inl c)), fun c2 => ⟨fun c => yes (Or.inr (Or.inr c)), fun c3 => ?_⟩⟩⟩
  have nc : ¬ isCm t p := fun z => z.elim c1 (fun z => z.elim c2 c3)
  refine k_lfail (c := 0) h (by omega) (by decide) (fun M2 r2 h2 => ?_)
  obtain ⟨q, eq⟩ := nI_any (-1)
  rw [eq]
  exact ⟨h2.1, hq M2 _ _ _ q r2 h2 (fun z => if_neg z) (fun z => ⟨fun _ => if_pos z, fun y => absurd y nc⟩)⟩
/-- a comparison, from its start -/
theorem k_cmp {Q : Mem → Prop} (h : Lk M x a t p cd n f) (b : f = 0 → bd t p cd n) (hq : ∀ M' p' cd' n' f', FrL x a M M' → Lk M' x a t p' cd' n' f' → (¬ f = 0 → f' = f) → (f = 0 → rS (pCmp t p cd n) f' p' cd' n') → Q M') :
    CV G (d + 7) 36 [.ref (x + 18)] M (fun M6 => LrAt M6 (x + 18) (x + 1) a ∧ (CI G (d + 7) 35 [.ref (x + 18)] M6 (fun v8 M7 => LrAt M7 (x + 18) (x + 1) a ∧ (CV G (d + 7) 36 [.ref (x + 18)] M7 (fun M9 => LrAt M9 (x + 18) (x + 1) a ∧ (CV G (d + 7) 22 [.ref a, .int v8] M9 (fun M10 => LrAt M10 (x + 18) (x + 1) a ∧ Q M10))))))) := by
  have p4 := h.p4
  refine k_readSum h b (fun M1 p1 cd1 n1 f1 r1 h1 s1 b1 => ?_)
  refine k_readSign h1 (fun z => (b1 z).2.1) (fun M2 p2 n2 f2 c2 r2 h2 k2 s2 => ?_)
  have b2 : f2 = 0 → bd t p2 cd1 n2 ∧ f1 = 0 ∧ isCm t p1 ∧ ¬ n1 = 60 ∧ p2 = skB t (cmX t p1) ∧ n2 = n1 + 1 ∧ c2 = cmC t p1 := fun z => by
    have f10 : f1 = 0 := by
      by_cases y : f1 = 0
      · exact y
      · rw [k2 y] at z; exact z
    have s := s2 f10
    by_cases cm : isCm t p1
    · by_cases n60 : n1 = 60
      · rw [(s.2 cm).1 n60] at z; exact absurd z (flt_ne _ _)
      · have u := (s.2 cm).2 n60
        have bb := b1 f10
        have cx := cmX_le cm
        refine ⟨⟨by rw [u.2.1]; exact skB_id _ _, by have := bb.2.1; omega, ?_⟩, f10, cm, n60, u.2.1, u.2.2.1, u.2.2.2⟩
        have := bb.2.2
        have s3 := (skB_le cx.2).1
        omega
    · rw [s.1 cm] at z; exact absurd z (flt_ne _ _)
  refine k_readSum h2 (fun z => (b2 z).1) (fun M3 p3 cd3 n3 f3 r3 h3 s3 b3 => ?_)
  refine k_add h3 (fun z => by have := b3 z; have := this.2; have := h3.p4; omega) (fun M4 cd4 r4 h4 e4 => ?_)
  refine hq M4 p3 cd4 n3 f3 (r1.trans (r2.trans (r3.trans r4))) h4 (fun z => ?_) (fun z => ?_)
  · have e1 : f1 = f := s1.1 z
    have e2 : f2 = f1 := k2 (by rw [e1]; exact z)
    have e3 : f3 = f2 := s3.1 (by rw [e2, e1]; exact z)
    rw [e3, e2, e1]
  · have u1 := s1.2 z
    unfold pCmp
    by_cases z1 : f1 = 0
    · have v1 := u1.2 z1
      rw [cif_T (by rw [← u1.1]; exact z1), v1]
      dsimp only
      have s := s2 z1
      unfold pCm2
      by_cases cm : isCm t p1
      · rw [cif_T cm]
        by_cases n60 : n1 = 60
        · rw [cif_T n60]
          have e2 := (s.2 cm).1 n60
          have ne : ¬ f2 = 0 := by rw [e2]; exact flt_ne _ _
          have e3 : f3 = f2 := s3.1 ne
          exact ⟨by rw [e3, e2], fun y => absurd y (by rw [e3]; exact ne)⟩
        · rw [cif_F n60]
          obtain ⟨q1, q2, q3, q4⟩ := (s.2 cm).2 n60
          have u3 := s3.2 q1
          rw [q2, q3] at u3
          by_cases z3 : f3 = 0
          · rw [cif_T (by rw [← u3.1]; exact z3)]
            refine ⟨z3, fun _ => ?_⟩
            rw [u3.2 z3, e4 z3, q4]
          · rw [cif_F (by rw [← u3.1]; exact z3)]
            exact ⟨u3.1, fun y => absurd y z3⟩
      · rw [cif_F cm]
        have e2 := s.1 cm
        have ne : ¬ f2 = 0 := by rw [e2]; exact flt_ne _ _
        have e3 : f3 = f2 := s3.1 ne
        exact ⟨by rw [e3, e2], fun y => absurd y (by rw [e3]; exact ne)⟩
    · rw [cif_F (by rw [← u1.1]; exact z1)]
      have e2 : f2 = f1 := k2 z1
      have e3 : f3 = f2 := s3.1 (by rw [e2]; exact z1)
      exact ⟨by rw [e3, e2]; exact u1.1, fun y => absurd y (by rw [e3, e2]; exact z1)⟩
/-- a FACT behind a FAULT -/
theorem k_fact0 {dp : Int32} {Q : Mem → Prop} (h : Lk M x a t p cd n f) (f0 : ¬ f = 0) (hq : ∀ M' p' cd' n', FrL x a M M' → Lk M' x a t p' cd' n' f → Q M') : CV G (d + 8) 34 [.ref (x + 18), .int dp] M (fun M' => LrAt M' (x + 18) (x + 1) a ∧ Q M') := by
  refine c_X3_readFact h.1 (k_lsign h (by decide) (fun z => absurd z f0) (fun _ => ⟨fun _ => ?_, fun y => absurd rfl y⟩))
  refine c_X3_readFact_28 h.1 ⟨fun y => absurd rfl y, fun _ => ?_⟩
  refine k_take1 (W := wNot) h (by decide) (by decide +kernel) (by decide +kernel) (fun z => absurd z f0) (fun _ => ⟨fun _ => ?_, fun y => absurd rfl y⟩)
  refine c_X3_readFact_50 h.1 (c_X3_readFact_51 h.1 ⟨fun y => absurd rfl y, fun _ => ⟨fun _ => ?_, fun y => absurd rfl y⟩⟩)
  refine c_X3_readFact_80 h.1 ⟨fun _ => ⟨fun _ => ?_, fun y => absurd rfl y⟩, fun y => absurd rfl y⟩
  refine k_cmp h (fun z => absurd z f0) (fun M' p' cd' n' f' r h' k _ => ?_)
  have e := k f0
  subst e
  exact c_X3_readFact_171 h'.1 ⟨h'.1, hq M' p' cd' n' r h'⟩
theorem bd_pX {k w dp p' n' f' : Nat} {cd' : List Nat} (t4 : t.1 ≤ 400) (p4 : p ≤ t.1) (b : bd t p cd n) (h : rS (pX t k w dp p cd n) f' p' cd' n') (z : f' = 0) : bd t p' cd' n' ∧ p ≤ p' := by
  have z0 : (pX t k w dp p cd n).1 = 0 := by rw [← h.1]; exact z
  have r := (pX_rom t4 k w dp p cd n p4 b.2.1).2 z0
  have s := pX_sk t4 k w dp p cd n p4 b.2.1 (Or.inr b.1) z0
  rw [h.2 z] at r s
  dsimp only at r s
  have := b.2.2
  exact ⟨⟨s, r.2.2.1, by omega⟩, r.1⟩
end
/-- the contracts, by the fuel of the reading -/
def cF (G : GT) (x a : Nat) (t : TpT) (k : Nat) : Prop := ∀ (M : Mem) (p : Nat) (cd : List Nat) (n dp N e : Nat) (Q : Mem → Prop), Lk M x a t p cd n 0 → bd t p cd n → 4 * (t.1 - p) + 1 ≤ k → dp ≤ 10 → N = e + 8 + 2 * (10 - dp) →
  (∀ M' p' cd' n' f', FrL x a M M' → Lk M' x a t p' cd' n' f' → rS (pX t k 0 dp p cd n) f' p' cd' n' → Q M') → CV G N 34 [.ref (x + 18), .int (nI dp)] M (fun M' => LrAt M' (x + 18) (x + 1) a ∧ Q M')
def cT (G : GT) (x a : Nat) (t : TpT) (k : Nat) : Prop := ∀ (M : Mem) (p : Nat) (cd : List Nat) (n dp N e : Nat) (Q : Mem → Prop), Lk M x a t p cd n 0 → bd t p cd n → 4 * (t.1 - p) + 2 ≤ k → dp ≤ 10 → N = e + 9 + 2 * (10 - dp) →
  (∀ M' p' cd' n' f', FrL x a M M' → Lk M' x a t p' cd' n' f' → rS (pX t k 1 dp p cd n) f' p' cd' n' → Q M') → CV G N 33 [.ref (x + 18), .int (nI dp)] M (fun M' => LrAt M' (x + 18) (x + 1) a ∧ Q M')
/-- behind the FACTS of a PART -/
def oEnd (G : GT) (N x a : Nat) (l1 l2 : Int32) (Q : Mem → Prop) (M : Mem) : Prop := CI G N 95 [.ref (x + 1), .ref (gk G 6)] M (fun v M2 => LrAt M2 (x + 18) (x + 1) a ∧ ((¬ v = (-1 : Int32) → At G (N + 1) 33 2 [(0, .ref (x + 18)), (1, .int l1), (2, .int (l2 + (1 : Int32)))] [] M2 (qV Q)) ∧ (v = (-1 : Int32) → Q M2)))
def tEnd (G : GT) (N x a : Nat) (l1 l2 : Int32) (Q : Mem → Prop) (M : Mem) : Prop := (l2 ≤ 0 → oEnd G N x a l1 l2 Q M) ∧ (¬ l2 ≤ 0 → CV G N 22 [.ref a, .int (200010 : Int32)] M (fun M4 => LrAt M4 (x + 18) (x + 1) a ∧ oEnd G N x a l1 l2 Q M4))
def cA (G : GT) (x a : Nat) (t : TpT) (k : Nat) : Prop := ∀ (M : Mem) (p : Nat) (cd : List Nat) (n dp N e i : Nat) (l2 : Int32) (Q : Mem → Prop), Lk M x a t p cd n 0 → bd t p cd n → 4 * (t.1 - p) + 1 ≤ k → dp ≤ 10 → N = e + 8 + 2 * (10 - dp) → i ≤ p →
  (∀ M' p' cd' n' f', FrL x a M M' → Lk M' x a t p' cd' n' f' → rS (pX t k 2 dp p cd n) f' p' cd' n' → tEnd G N x a (nI dp) l2 Q M') → At G (N + 1) 33 16 [(0, .ref (x + 18)), (1, .int (nI dp)), (2, .int l2), (3, .int (nI i))] [] M (qV Q)
def cO (G : GT) (x a : Nat) (t : TpT) (k : Nat) : Prop := ∀ (M : Mem) (p : Nat) (cd : List Nat) (n dp N e i : Nat) (Q : Mem → Prop), Lk M x a t p cd n 0 → bd t p cd n → 4 * (t.1 - p) + 1 ≤ k → dp ≤ 10 → N = e + 8 + 2 * (10 - dp) → i ≤ p →
  (∀ M' p' cd' n' f', FrL x a M M' → Lk M' x a t p' cd' n' f' → rS (pX t k 3 dp p cd n) f' p' cd' n' → Q M') → oEnd G N x a (nI dp) (nI i) Q M
section
variable {G : GT} {x a : Nat} {t : TpT}
theorem cF_s {k : Nat} (hF : cF G x a t k) (hT : cT G x a t k) : cF G x a t (k + 1) := by
  intro M p cd n dp N e Q h b hk d10 hN hq
  obtain ⟨N', rfl⟩ : ∃ N', N = N' + 8 := ⟨N - 8, by omega⟩
  have p4 := h.p4
  have b2 := b.2
  rw [pX, cif_T rfl] at hq
  -- deep enough
  have deep : ∀ (M1 : Mem) (p1 : Nat) (l3 l4 : Int32), Lk M1 x a t p1 cd n 0 → FrL x a M M1 → ¬ dp < 10 → (∀ M' p' cd' n' f', FrL x a M M' → Lk M' x a t p' cd' n' f' → rS (flt p 2, p, cd, n) f' p' cd' n' → Q M') → At G (N' + 8) 34 62 [(0, .ref (x + 18)), (1, .int (nI dp)), (2, .int (nI p)), (3, .int l3), (4, .int l4)] [] M1 (qV (fun M' => LrAt M' (x + 18) (x + 1) a ∧ Q M')) := by
    intro M1 p1 l3 l4 h1 r1 nd hq
    refine c_X3_readFact_62 h1.1 ⟨fun y => absurd y (by rw [show (10 : Int32) = nI 10 from rfl, lt_I (by omega) (by omega)]; exact nd), fun _ => ?_⟩
    refine k_lfail (c := 2) h1 (by omega) (by decide) (fun M2 r2 h2 => c_X3_readFact_171 h2.1 ⟨h2.1, hq M2 _ _ _ _ (r1.trans r2) h2 ⟨if_pos rfl, fun z => absurd z (by rw [if_pos rfl]; exact flt_ne _ _)⟩⟩)
  refine c_X3_readFact h.1 ?_
  rw [h.tpe.pp]
  refine k_lsign h (by decide) (fun _ hp M1 r1 h1 => ?_) (fun hp => ?_)
  · have hp : pk t p = 91 := hp.elim id id
    have pl := (pk_at hp (by decide)).1
    have sk := skB_le (t := t) (p := p + 1) (by omega)
    rw [cif_T hp] at hq
    refine ⟨fun y => absurd y (by rw [hp]; decide), fun _ => ?_⟩
    refine c_X3_readFact_28 h1.1 ⟨fun _ => c_X3_readFact_50 h1.1 (c_X3_readFact_51 h1.1 ⟨fun _ => ?_, fun y => absurd y (by decide)⟩), fun y => absurd y (by decide)⟩
    rcases Nat.lt_or_ge dp 10 with nd | nd
    · rw [cif_F (by omega)] at hq
      refine c_X3_readFact_62 h1.1 ⟨fun _ => ?_, fun y => absurd (show nI dp < 10 by rw [show (10 : Int32) = nI 10 from rfl, lt_I (by omega) (by omega)]; exact nd) y⟩
      refine c_X3_readFact_80 h1.1 ⟨fun y => absurd y (by decide), fun _ => ?_⟩
      rw [nI_1]
      have b1 : bd t (skB t (p + 1)) cd n := ⟨skB_id _ _, b2.1, by omega⟩
      refine hT M1 (skB t (p + 1)) cd n (dp + 1) (N' + 7) e _ h1 b1 (by omega) (by omega) (by omega) (fun M3 p3 cd3 n3 f3 r3 h3 s3 => ?_)
      by_cases z3 : f3 = 0
      · have z0 : (pX t k 1 (dp + 1) (skB t (p + 1)) cd n).1 = 0 := by rw [← s3.1]; exact z3
        rw [bnd_T z0, s3.2 z3] at hq
        dsimp only at hq
        subst z3
        refine k_lsign h3 (by decide) (fun _ hp3 M4 r4 h4 => ⟨fun _ => ?_, fun y => absurd y ?_⟩) (fun hp3 => ⟨fun y => absurd rfl y, fun _ => ?_⟩)
        · have hp3 : pk t p3 = 93 := hp3.elim id id
          rw [cif_T hp3] at hq
          exact c_X3_readFact_171 h4.1 ⟨h4.1, hq M4 _ _ _ _ (r1.trans (r3.trans r4)) h4 ⟨rfl, fun _ => rfl⟩⟩
        · rw [hp3.elim id id]; decide
        · rw [cif_F (fun y => hp3 ⟨rfl, Or.inl y⟩)] at hq
          rw [h3.tpe.pp]
          have p34 := h3.p4
          refine k_lfail (c := 0) h3 (by omega) (by decide) (fun M4 r4 h4 => c_X3_readFact_171 h4.1 ⟨h4.1, hq M4 _ _ _ _ (r1.trans (r3.trans r4)) h4 ⟨if_pos rfl, fun z => absurd z (by rw [if_pos rfl]; exact flt_ne _ _)⟩⟩)
      · have z0 : ¬ (pX t k 1 (dp + 1) (skB t (p + 1)) cd n).1 = 0 := by rw [← s3.1]; exact z3
        rw [bnd_F z0] at hq
        refine k_lsign h3 (by decide) (fun y => absurd y z3) (fun _ => ⟨fun y => absurd rfl y, fun _ => ?_⟩)
        rw [h3.tpe.pp]
        have p34 := h3.p4
        refine k_lfail (c := 0) h3 (by omega) (by decide) (fun M4 r4 h4 => c_X3_readFact_171 h4.1 ⟨h4.1, hq M4 _ _ _ _ (r1.trans (r3.trans r4)) h4 ⟨?_, fun z => absurd z (by rw [if_neg z3]; exact z3)⟩⟩)
        rw [if_neg z3]; exact s3.1
    · rw [cif_T (by omega)] at hq
      exact deep M1 _ _ _ h1 r1 (by omega) hq
  · rw [cif_F (fun y => hp ⟨rfl, Or.inl y⟩)] at hq
    refine ⟨fun _ => ?_, fun y => absurd rfl y⟩
    refine c_X3_readFact_28 h.1 ⟨fun y => absurd rfl y, fun _ => ?_⟩
    refine k_take1 (d := N' + 2) (W := wNot) h (by decide) (by decide +kernel) (by decide +kernel) (fun _ hw M1 r1 h1 => ⟨fun y => absurd y (by decide), fun _ => ?_⟩) (fun hw => ⟨fun _ => ?_, fun y => absurd rfl y⟩)
    · rw [cif_T hw] at hq
      have h1 : Lk M1 x a t (skB t (p + 3)) cd n 0 := h1
      have lw := wl_of hw
      have l3 : wNot.length = 3 := rfl
      have wq := wl_le p4.1
      have sk := skB_le (t := t) (p := p + 3) (by omega)
      refine c_X3_readFact_51 h1.1 ⟨fun y => absurd rfl y, fun _ => ⟨fun y => absurd y (by decide), fun _ => ?_⟩⟩
      rcases Nat.lt_or_ge dp 10 with nd | nd
      · rw [cif_F (by omega)] at hq
        refine c_X3_readFact_62 h1.1 ⟨fun _ => ?_, fun y => absurd (show nI dp < 10 by rw [show (10 : Int32) = nI 10 from rfl, lt_I (by omega) (by omega)]; exact nd) y⟩
        refine c_X3_readFact_80 h1.1 ⟨fun _ => ⟨fun y => absurd y (by decide), fun _ => ?_⟩, fun y => absurd rfl y⟩
        rw [nI_1]
        have b1 : bd t (skB t (p + 3)) cd n := ⟨skB_id _ _, b2.1, by omega⟩
        refine hF M1 (skB t (p + 3)) cd n (dp + 1) (N' + 7) (e + 1) _ h1 b1 (by omega) (by omega) (by omega) (fun M3 p3 cd3 n3 f3 r3 h3 s3 => ?_)
        refine k_add (c := 200011) h3 (fun z => ?_) (fun M4 cd4 r4 h4 e4 => c_X3_readFact_171 h4.1 ⟨h4.1, hq M4 _ _ _ _ (r1.trans (r3.trans r4)) h4 ?_⟩)
        · have := (bd_pX p4.2 sk.2 b1 s3 z).1.2
          have := h3.p4
          omega
        · by_cases z3 : f3 = 0
          · have z0 : (pX t k 0 (dp + 1) (skB t (p + 3)) cd n).1 = 0 := by rw [← s3.1]; exact z3
            rw [bnd_T z0, s3.2 z3]
            exact ⟨z3, fun _ => by rw [e4 z3]⟩
          · have z0 : ¬ (pX t k 0 (dp + 1) (skB t (p + 3)) cd n).1 = 0 := by rw [← s3.1]; exact z3
            rw [bnd_F z0]
            exact ⟨s3.1, fun y => absurd y z3⟩
      · rw [cif_T (by omega)] at hq
        exact deep M1 _ _ _ h1 r1 (by omega) hq
    · rw [cif_F (hw rfl)] at hq
      refine c_X3_readFact_50 h.1 (c_X3_readFact_51 h.1 ⟨fun y => absurd rfl y, fun _ => ⟨fun _ => ?_, fun y => absurd rfl y⟩⟩)
      refine c_X3_readFact_80 h.1 ⟨fun _ => ⟨fun _ => ?_, fun y => absurd rfl y⟩, fun y => absurd rfl y⟩
      exact k_cmp h (fun _ => b) (fun M' p' cd' n' f' r h' _ s => c_X3_readFact_171 h'.1 ⟨h'.1, hq M' p' cd' n' f' r h' (s rfl)⟩)
/-- behind a FAULT nothing more is read -/
theorem g_o {M : Mem} {p n f N : Nat} {cd : List Nat} {l1 l2 : Int32} {Q : Mem → Prop} (h : Lk M x a t p cd n f) (f0 : ¬ f = 0) (hN : 5 ≤ N) (hq : Q M) : oEnd G N x a l1 l2 Q M := by
  obtain ⟨N', rfl⟩ : ∃ N', N = N' + 5 := ⟨N - 5, by omega⟩
  exact k_take1 (W := wOr) h (by decide) (by decide +kernel) (by decide +kernel) (fun z => absurd z f0) (fun _ => ⟨fun y => absurd rfl y, fun _ => hq⟩)
theorem g_t {M : Mem} {p n f N : Nat} {cd : List Nat} {l1 l2 : Int32} {Q : Mem → Prop} (h : Lk M x a t p cd n f) (f0 : ¬ f = 0) (hN : 5 ≤ N) (hq : ∀ M' cd', FrL x a M M' → Lk M' x a t p cd' n f → Q M') : tEnd G N x a l1 l2 Q M := by
  refine ⟨fun _ => g_o h f0 hN (hq M cd FrL.refl h), fun _ => ?_⟩
  obtain ⟨N', rfl⟩ : ∃ N', N = N' + 1 := ⟨N - 1, by omega⟩
  exact k_add (c := 200010) h (fun z => absurd z f0) (fun M4 cd4 r4 h4 _ => g_o h4 f0 hN (hq M4 cd4 r4 h4))
theorem g_16 {M : Mem} {p n f N : Nat} {cd : List Nat} {l1 l2 l3 : Int32} {Q : Mem → Prop} (h : Lk M x a t p cd n f) (f0 : ¬ f = 0) (hN : 5 ≤ N) (hq : tEnd G N x a l1 l2 Q M) : At G (N + 1) 33 16 [(0, .ref (x + 18)), (1, .int l1), (2, .int l2), (3, .int l3)] [] M (qV Q) := by
  refine c_X3_readTest_16 h.1 ⟨fun _ => hq, fun _ => ?_⟩
  obtain ⟨N', rfl⟩ : ∃ N', N = N' + 5 := ⟨N - 5, by omega⟩
  exact k_take1 (W := wAnd) h (by decide) (by decide +kernel) (by decide +kernel) (fun z => absurd z f0) (fun _ => ⟨fun _ => hq, fun y => absurd rfl y⟩)
theorem cA_s {k : Nat} (hF : cF G x a t k) (hA : cA G x a t k) : cA G x a t (k + 1) := by
  intro M p cd n dp N e i l2 Q h b hk d10 hN hi hq
  have p4 := h.p4
  have b2 := b.2
  rw [pX, cif_F (by decide), cif_F (by decide), cif_T rfl] at hq
  refine c_X3_readTest_16 h.1 ⟨fun y => ?_, fun _ => ?_⟩
  · have i4 : i = 400 := by
      rw [show (400 : Int32) = nI 400 from rfl, le_I (by omega) (by omega)] at y
      omega
    have ne : ¬ wAt t p = wAnd := fun z => by
      have lw := wl_of z
      have l3 : wAnd.length = 3 := rfl
      have wq := wl_le p4.1
      omega
    rw [cif_F ne] at hq
    exact hq M p cd n 0 FrL.refl h ⟨rfl, fun _ => rfl⟩
  · obtain ⟨N', rfl⟩ : ∃ N', N = N' + 5 := ⟨N - 5, by omega⟩
    refine k_take1 (W := wAnd) h (by decide) (by decide +kernel) (by decide +kernel) (fun _ hw M1 r1 h1 => ⟨fun y => absurd y (by decide), fun _ => ?_⟩) (fun hw => ⟨fun _ => ?_, fun y => absurd rfl y⟩)
    · rw [cif_T hw] at hq
      have h1 : Lk M1 x a t (skB t (p + 3)) cd n 0 := h1
      have lw := wl_of hw
      have l3 : wAnd.length = 3 := rfl
      have wq := wl_le p4.1
      have sk := skB_le (t := t) (p := p + 3) (by omega)
      have b1 : bd t (skB t (p + 3)) cd n := ⟨skB_id _ _, b2.1, by omega⟩
      refine hF M1 (skB t (p + 3)) cd n dp (N' + 5) e _ h1 b1 (by omega) d10 hN (fun M3 p3 cd3 n3 f3 r3 h3 s3 => ?_)
      refine k_add (d := N' + 4) (c := 200009) h3 (fun z => ?_) (fun M4 cd4 r4 h4 e4 => ?_)
      · have := (bd_pX p4.2 sk.2 b1 s3 z).1.2
        have := h3.p4
        omega
      · rw [nI_1]
        by_cases z3 : f3 = 0
        · have z0 : (pX t k 0 dp (skB t (p + 3)) cd n).1 = 0 := by rw [← s3.1]; exact z3
          have b3 := bd_pX p4.2 sk.2 b1 s3 z3
          rw [bnd_T z0, s3.2 z3] at hq
          dsimp only at hq
          subst z3
          have e4 := e4 rfl
          subst e4
          have r9 := (pX_rom p4.2 k 0 dp (skB t (p + 3)) cd n sk.2 b1.2.1).2 z0
          rw [s3.2 rfl] at r9
          have e9 : rmK 0 = 9 := rfl
          dsimp only at r9
          refine hA M4 p3 (cd3 ++ [200009]) n3 dp (N' + 5) e (i + 1) l2 Q h4 ⟨b3.1.1, b3.1.2.1, ?_⟩ (by have := h4.p4; omega) d10 hN (by omega) (fun M' p' cd' n' f' r' h' s' => hq M' p' cd' n' f' (r1.trans (r3.trans (r4.trans r'))) h' s')
          rw [List.length_append, List.length_singleton]
          omega
        · have z0 : ¬ (pX t k 0 dp (skB t (p + 3)) cd n).1 = 0 := by rw [← s3.1]; exact z3
          rw [bnd_F z0] at hq
          exact g_16 h4 z3 (by omega) (hq M4 p3 cd4 n3 f3 (r1.trans (r3.trans r4)) h4 ⟨s3.1, fun y => absurd y z3⟩)
    · rw [cif_F (hw rfl)] at hq
      exact hq M p cd n 0 FrL.refl h ⟨rfl, fun _ => rfl⟩
/-- a PART and what follows, behind its first FACT; the word at its end -/
theorem cO_s {k : Nat} (hF : cF G x a t k) (hA : cA G x a t k) (hO : cO G x a t k) : cO G x a t (k + 1) := by
  intro M p cd n dp N e i Q h b hk d10 hN hi hq
  have p4 := h.p4
  have b2 := b.2
  rw [pX, cif_F (by decide), cif_F (by decide), cif_F (by decide)] at hq
  obtain ⟨N', rfl⟩ : ∃ N', N = N' + 5 := ⟨N - 5, by omega⟩
  unfold oEnd
  refine k_take1 (W := wOr) h (by decide) (by decide +kernel) (by decide +kernel) (fun _ hw M1 r1 h1 => ⟨fun _ => ?_, fun y => absurd y (by decide)⟩) (fun hw => ⟨fun y => absurd rfl y, fun _ => ?_⟩)
  · rw [cif_T hw] at hq
    have h1 : Lk M1 x a t (skB t (p + 2)) cd n 0 := h1
    have lw := wl_of hw
    have l3 : wOr.length = 2 := rfl
    have wq := wl_le p4.1
    have sk := skB_le (t := t) (p := p + 2) (by omega)
    have b1 : bd t (skB t (p + 2)) cd n := ⟨skB_id _ _, b2.1, by omega⟩
    rw [nI_1]
    refine c_X3_readTest_2 h1.1 ⟨fun y => absurd y (nI_ge (a := i + 1) (b := 400) (by omega) (by decide)), fun _ => ?_⟩
    refine hF M1 (skB t (p + 2)) cd n dp (N' + 5) e _ h1 b1 (by omega) d10 hN (fun M3 p3 cd3 n3 f3 r3 h3 s3 => ?_)
    by_cases z3 : f3 = 0
    · have z0 : (pX t k 0 dp (skB t (p + 2)) cd n).1 = 0 := by rw [← s3.1]; exact z3
      have b3 := bd_pX p4.2 sk.2 b1 s3 z3
      rw [bnd_T z0, s3.2 z3] at hq
      dsimp only at hq
      subst z3
      have r9 := (pX_rom p4.2 k 0 dp (skB t (p + 2)) cd n sk.2 b1.2.1).2 z0
      rw [s3.2 rfl] at r9
      have e9 : rmK 0 = 9 := rfl
      dsimp only at r9
      have p34 := h3.p4
      refine hA M3 p3 cd3 n3 dp (N' + 5) e 0 _ Q h3 b3.1 (by omega) d10 hN (Nat.zero_le _) (fun M4 p4' cd4 n4 f4 r4 h4 s4 => ?_)
      by_cases z4 : f4 = 0
      · have z40 : (pX t k 2 dp p3 cd3 n3).1 = 0 := by rw [← s4.1]; exact z4
        have b4 := bd_pX p4.2 p34.1 b3.1 s4 z4
        rw [bnd_T z40, s4.2 z4] at hq
        dsimp only at hq
        subst z4
        have r10 := (pX_rom p4.2 k 2 dp p3 cd3 n3 p34.1 b3.1.2.1).2 z40
        rw [s4.2 rfl] at r10
        have e10 : rmK 2 = 0 := rfl
        dsimp only at r10
        have p44 := h4.p4
        refine ⟨fun y => absurd y (by rw [il_0, le_I (by omega) (by omega)]; omega), fun _ => ?_⟩
        refine k_add (d := N' + 4) (c := 200010) h4 (fun z => by have := b4.1.2; omega) (fun M5 cd5 r5 h5 e5 => ?_)
        have e5 := e5 rfl
        subst e5
        refine hO M5 p4' (cd4 ++ [200010]) n4 dp (N' + 5) e (i + 1) Q h5 ⟨b4.1.1, b4.1.2.1, ?_⟩ (by omega) d10 hN (by omega) (fun M' p' cd' n' f' r' h' s' => hq M' p' cd' n' f' (r1.trans (r3.trans (r4.trans (r5.trans r')))) h' s')
        rw [List.length_append, List.length_singleton]
        omega
      · have z40 : ¬ (pX t k 2 dp p3 cd3 n3).1 = 0 := by rw [← s4.1]; exact z4
        rw [bnd_F z40] at hq
        exact g_t h4 z4 (by omega) (fun M5 cd5 r5 h5 => hq M5 _ _ _ _ (r1.trans (r3.trans (r4.trans r5))) h5 ⟨s4.1, fun y => absurd y z4⟩)
    · have z0 : ¬ (pX t k 0 dp (skB t (p + 2)) cd n).1 = 0 := by rw [← s3.1]; exact z3
      rw [bnd_F z0] at hq
      exact g_16 h3 z3 (by omega) (g_t h3 z3 (by omega) (fun M5 cd5 r5 h5 => hq M5 _ _ _ _ (r1.trans (r3.trans r5)) h5 ⟨s3.1, fun y => absurd y z3⟩))
  · rw [cif_F (hw rfl)] at hq
    exact hq M p cd n 0 FrL.refl h ⟨rfl, fun _ => rfl⟩
theorem cT_s {k : Nat} (hF : cF G x a t k) (hA : cA G x a t k) (hO : cO G x a t k) : cT G x a t (k + 1) := by
  intro M p cd n dp N e Q h b hk d10 hN hq
  obtain ⟨N', rfl⟩ : ∃ N', N = N' + 1 := ⟨N - 1, by omega⟩
  have p4 := h.p4
  rw [pX, cif_F (by decide), cif_T rfl] at hq
  refine c_X3_readTest h.1 (c_X3_readTest_2 h.1 ⟨fun y => absurd y (by decide), fun _ => ?_⟩)
  refine hF M p cd n dp N' e _ h b (by omega) d10 (by omega) (fun M3 p3 cd3 n3 f3 r3 h3 s3 => ?_)
  by_cases z3 : f3 = 0
  · have z0 : (pX t k 0 dp p cd n).1 = 0 := by rw [← s3.1]; exact z3
    have b3 := bd_pX p4.2 p4.1 b s3 z3
    rw [bnd_T z0, s3.2 z3] at hq
    dsimp only at hq
    subst z3
    have p34 := h3.p4
    refine hA M3 p3 cd3 n3 dp N' e 0 _ _ h3 b3.1 (by omega) d10 (by omega) (Nat.zero_le _) (fun M4 p4' cd4 n4 f4 r4 h4 s4 => ?_)
    by_cases z4 : f4 = 0
    · have z40 : (pX t k 2 dp p3 cd3 n3).1 = 0 := by rw [← s4.1]; exact z4
      have b4 := bd_pX p4.2 p34.1 b3.1 s4 z4
      rw [bnd_T z40, s4.2 z4] at hq
      dsimp only at hq
      subst z4
      have p44 := h4.p4
      refine ⟨fun _ => ?_, fun y => absurd (show (0 : Int32) ≤ 0 by decide) y⟩
      exact hO M4 p4' cd4 n4 dp N' e 0 _ h4 b4.1 (by omega) d10 (by omega) (Nat.zero_le _) (fun M' p' cd' n' f' r' h' s' => ⟨h'.1, hq M' p' cd' n' f' (r3.trans (r4.trans r')) h' s'⟩)
    · have z40 : ¬ (pX t k 2 dp p3 cd3 n3).1 = 0 := by rw [← s4.1]; exact z4
      rw [bnd_F z40] at hq
      exact g_t h4 z4 (by omega) (fun M5 cd5 r5 h5 => ⟨h5.1, hq M5 _ _ _ _ (r3.trans (r4.trans r5)) h5 ⟨s4.1, fun y => absurd y z4⟩⟩)
  · have z0 : ¬ (pX t k 0 dp p cd n).1 = 0 := by rw [← s3.1]; exact z3
    rw [bnd_F z0] at hq
    exact g_16 h3 z3 (by omega) (g_t h3 z3 (by omega) (fun M5 cd5 r5 h5 => ⟨h5.1, hq M5 _ _ _ _ (r3.trans r5) h5 ⟨s3.1, fun y => absurd y z3⟩⟩))
theorem c_all : ∀ k, cF G x a t k ∧ cT G x a t k ∧ cA G x a t k ∧ cO G x a t k
  | 0 => ⟨fun _ _ _ _ _ _ _ _ _ _ hk => by omega, fun _ _ _ _ _ _ _ _ _ _ hk => by omega, fun _ _ _ _ _ _ _ _ _ _ _ _ hk => by omega, fun _ _ _ _ _ _ _ _ _ _ _ hk => by omega⟩
  | k + 1 => by
    obtain ⟨f, t, a, o⟩ := c_all k
    exact ⟨cF_s f t, cT_s f a o, cA_s f a, cO_s f a o⟩
/-- a TEST; behind a FAULT too -/
theorem k_readTest {M : Mem} {d p n f : Nat} {cd : List Nat} {Q : Mem → Prop} (h : Lk M x a t p cd n f) (b : f = 0 → bd t p cd n) (hq : ∀ M' p' cd' n' f', FrL x a M M' → Lk M' x a t p' cd' n' f' → lStp (pTst t p cd n) f f' p' cd' n' → Q M') : CV G (d + 29) 33 [.ref (x + 18), .int 0] M (fun M' => LrAt M' (x + 18) (x + 1) a ∧ Q M') := by
  have p4 := h.p4
  by_cases z : f = 0
  · subst z
    exact (c_all 1700).2.1 M p cd n 0 (d + 29) d Q h (b rfl) (by omega) (by omega) (by omega) (fun M' p' cd' n' f' r' h' s' => hq M' p' cd' n' f' r' h' ⟨fun y => absurd rfl y, fun _ => s'⟩)
  · refine c_X3_readTest h.1 (c_X3_readTest_2 h.1 ⟨fun y => absurd y (by decide), fun _ => ?_⟩)
    refine k_fact0 (d := d + 20) h z (fun M1 p1 cd1 n1 r1 h1 => ?_)
    exact g_16 (N := d + 28) h1 z (by omega) (g_t h1 z (by omega) (fun M5 cd5 r5 h5 => ⟨h5.1, hq M5 _ _ _ _ (r1.trans r5) h5 ⟨fun _ => rfl, fun y => absurd y z⟩⟩))
end
