/-! A CHAIN: what comes behind, what comes before -/
def chn (nx bf : Nat → Int32) : Int32 → List Nat → Int32 → Prop
  | _, [], _ => True
  | l, [x], r => bf x = l ∧ nx x = r
  | l, x :: y :: t, r => bf x = l ∧ nx x = nI y ∧ chn nx bf (nI x) (y :: t) r
theorem chn_app {nx bf : Nat → Int32} : ∀ {X Y : List Nat} {x y : Nat} {l r : Int32}, (chn nx bf l (X ++ [x] ++ y :: Y) r ↔ chn nx bf l (X ++ [x]) (nI y) ∧ chn nx bf (nI x) (y :: Y) r)
  | [], Y, x, y, l, r => by
    show (bf x = l ∧ nx x = nI y ∧ chn nx bf (nI x) (y :: Y) r) ↔ (bf x = l ∧ nx x = nI y) ∧ _
    exact ⟨fun h => ⟨⟨h.1, h.2.1⟩, h.2.2⟩, fun h => ⟨h.1.1, h.1.2, h.2⟩⟩
  | [a], Y, x, y, l, r => by
    have ih := chn_app (nx := nx) (bf := bf) (X := []) (Y := Y) (x := x) (y := y) (l := nI a) (r := r)
    show (bf a = l ∧ nx a = nI x ∧ chn nx bf (nI a) ([] ++ [x] ++ y :: Y) r) ↔ (bf a = l ∧ nx a = nI x ∧ chn nx bf (nI a) ([] ++ [x]) (nI y)) ∧ _
    rw [ih]
    exact ⟨fun h => ⟨⟨h.1, h.2.1, h.2.2.1⟩, h.2.2.2⟩, fun h => ⟨h.1.1, h.1.2.1, h.1.2.2, h.2⟩⟩
  | a :: b :: X, Y, x, y, l, r => by
    have ih := chn_app (nx := nx) (bf := bf) (X := b :: X) (Y := Y) (x := x) (y := y) (l := nI a) (r := r)
    show (bf a = l ∧ nx a = nI b ∧ chn nx bf (nI a) (b :: X ++ [x] ++ y :: Y) r) ↔ (bf a = l ∧ nx a = nI b ∧ chn nx bf (nI a) (b :: X ++ [x]) (nI y)) ∧ _
    rw [ih]
    exact ⟨fun h => ⟨⟨h.1, h.2.1, h.2.2.1⟩, h.2.2.2⟩, fun h => ⟨h.1.1, h.1.2.1, h.1.2.2, h.2⟩⟩
theorem chn_cg {nx bf nx' bf' : Nat → Int32} : ∀ {X : List Nat} {l r : Int32}, chn nx bf l X r → (∀ z ∈ X, nx' z = nx z ∧ bf' z = bf z) → chn nx' bf' l X r
  | [], _, _, _, _ => trivial
  | [x], l, r, h, e => by
    have z := e x List.mem_cons_self
    exact ⟨by rw [z.2]; exact h.1, by rw [z.1]; exact h.2⟩
  | x :: y :: t, l, r, h, e => by
    have z := e x List.mem_cons_self
    exact ⟨by rw [z.2]; exact h.1, by rw [z.1]; exact h.2.1, chn_cg h.2.2 (fun u hu => e u (List.mem_cons_of_mem _ hu))⟩
/-- the last one's next is another -/
theorem chn_l {nx bf nx' bf' : Nat → Int32} {X : List Nat} {x : Nat} {l r r' : Int32} (h : chn nx bf l (X ++ [x]) r) (hN : (X ++ [x]).Nodup) (e : ∀ z ∈ X, nx' z = nx z) (eb : ∀ z ∈ X ++ [x], bf' z = bf z) (ex : nx' x = r') : chn nx' bf' l (X ++ [x]) r' := by
  match X, h, hN, e, eb with
  | [], h, hN, e, eb => exact ⟨by rw [eb x (by simp)]; exact h.1, ex⟩
  | a :: X, h, hN, e, eb =>
    obtain ⟨Y, y, ey⟩ : ∃ Y y, a :: X = Y ++ [y] := ⟨(a :: X).dropLast, (a :: X).getLast (by simp), (List.dropLast_concat_getLast (by simp)).symm⟩
    rw [ey] at h hN e eb ⊢
    have h2 := (chn_app (X := Y) (Y := []) (x := y) (y := x)).mp h
    refine (chn_app (X := Y) (Y := []) (x := y) (y := x)).mpr ⟨chn_cg h2.1 (fun z hz => ⟨e z hz, eb z (List.mem_append_left _ hz)⟩), ?_, ex⟩
    rw [eb x (by simp)]; exact h2.2.1
/-- the first one's before is another -/
theorem chn_f {nx bf nx' bf' : Nat → Int32} {X : List Nat} {x : Nat} {l l' r : Int32} (h : chn nx bf l (x :: X) r) (e : ∀ z ∈ x :: X, nx' z = nx z) (eb : ∀ z ∈ X, bf' z = bf z) (ex : bf' x = l') : chn nx' bf' l' (x :: X) r := by
  match X, h, e, eb with
  | [], h, e, eb => exact ⟨ex, by rw [e x (by simp)]; exact h.2⟩
  | a :: X, h, e, eb => exact ⟨ex, by rw [e x (by simp)]; exact h.2.1, chn_cg h.2.2 (fun z hz => ⟨e z (List.mem_cons_of_mem _ hz), eb z hz⟩)⟩
/-- the next of the last, or none -/
def hdI (r : Int32) : List Nat → Int32
  | [] => r
  | y :: _ => nI y
theorem chn_ap {nx bf : Nat → Int32} {X Y : List Nat} {x : Nat} {l r : Int32} : chn nx bf l (X ++ [x] ++ Y) r ↔ chn nx bf l (X ++ [x]) (hdI r Y) ∧ chn nx bf (nI x) Y r := by
  match Y with
  | [] => rw [List.append_nil]; exact ⟨fun h => ⟨h, trivial⟩, fun h => h.1⟩
  | y :: Y => exact chn_app
theorem chn_last {nx bf : Nat → Int32} : ∀ {X : List Nat} {x : Nat} {l r : Int32}, chn nx bf l (X ++ [x]) r → nx x = r
  | [], x, l, r, h => h.2
  | [a], x, l, r, h => h.2.2.2
  | a :: b :: X, x, l, r, h => chn_last (X := b :: X) h.2.2
theorem chn_first {nx bf : Nat → Int32} {X : List Nat} {x : Nat} {l r : Int32} (h : chn nx bf l (x :: X) r) : bf x = l := by
  match X, h with
  | [], h => exact h.1
  | _ :: _, h => exact h.1
/-- a row is taken out of its chain and hung in behind another -/
theorem chn_mv {nx bf nx1 bf1 nx2 bf2 nx3 bf3 : Nat → Int32} {A B C D R0 R1 : List Nat} {a h u τ : Nat} (eR : h :: R1 = R0 ++ [τ]) (hN : (A ++ [a] ++ (h :: R1) ++ B).Nodup) (hc : chn nx bf (-1) (A ++ [a] ++ (h :: R1) ++ B) (-1)) (eab : A ++ [a] ++ B = C ++ u :: D)
    (e1 : ∀ z, nx1 z = if z = a then nx τ else nx z) (f1 : ∀ z, bf1 z = if B.head? = some z then nI a else bf z)
    (e2 : ∀ z, nx2 z = if z = τ then nx1 u else nx1 z) (f2 : ∀ z, bf2 z = if D.head? = some z then nI τ else bf1 z)
    (e3 : ∀ z, nx3 z = if z = u then nI h else nx2 z) (f3 : ∀ z, bf3 z = if z = h then nI u else bf2 z) : chn nx3 bf3 (-1) (C ++ u :: (h :: R1 ++ D)) (-1) ∧ bf h = nI a ∧ nx τ = hdI (-1) B ∧ nx1 u = hdI (-1) D := by
  have n3 := nodup3 hN
  have N1 := List.nodup_append.mp hN
  have N2 := List.nodup_append.mp N1.1
  have NA := List.nodup_append.mp N2.1
  have NR := N2.2.1
  have NB := N1.2.1
  have aA : ∀ z ∈ A, z ≠ a := fun z hz => NA.2.2 z hz a (by simp)
  have aR : ∀ z ∈ h :: R1, z ≠ a := fun z hz e => N2.2.2 a (by simp) z hz e.symm
  have AB : ∀ z ∈ A ++ [a], z ∉ B := fun z hz hb => N1.2.2 z (List.mem_append_left _ hz) z hb rfl
  have RB : ∀ z ∈ h :: R1, z ∉ B := fun z hz hb => N1.2.2 z (List.mem_append_right _ hz) z hb rfl
  have NAB : (A ++ [a] ++ B).Nodup := List.nodup_append.mpr ⟨N2.1, NB, fun z hz w hw e => AB z hz (by rw [e]; exact hw)⟩
  have hdB : ∀ z, z ∉ B → ¬ B.head? = some z := fun z hz e => hz (List.mem_of_head? e)
  -- the chain in its parts
  have c0 : chn nx bf (-1) (A ++ [a] ++ R0 ++ [τ] ++ B) (-1) := by
    have : A ++ [a] ++ R0 ++ [τ] ++ B = A ++ [a] ++ (h :: R1) ++ B := by rw [eR]; simp only [List.append_assoc]
    rw [this]; exact hc
  have c1 := chn_ap.mp c0
  have c2 : chn nx bf (-1) (A ++ [a] ++ h :: R1) (hdI (-1) B) := by
    have : A ++ [a] ++ R0 ++ [τ] = A ++ [a] ++ h :: R1 := by rw [eR]; simp only [List.append_assoc]
    rw [← this]; exact c1.1
  have c3 := chn_app.mp c2
  have nt : nx τ = hdI (-1) B := chn_last c1.1
  have tR : τ ∈ h :: R1 := by rw [eR]; simp
  -- out of the chain
  have d1 : chn nx1 bf1 (-1) (A ++ [a]) (hdI (-1) B) := chn_l c3.1 N2.1 (fun z hz => by rw [e1, if_neg (aA z hz)]) (fun z hz => by rw [f1, if_neg (hdB z (AB z hz))]) (by rw [e1, if_pos rfl, nt])
  have d2 : chn nx1 bf1 (nI a) B (-1) := by
    match B, c1.2, NB, f1, AB with
    | [], _, _, _, _ => trivial
    | b :: B', c, NB, f1, AB => exact chn_f c (fun z hz => by rw [e1, if_neg (fun e => AB a (by simp) (by rw [← e]; exact hz))]) (fun z hz => by rw [f1, if_neg (fun e => (List.nodup_cons.mp NB).1 (by cases e; exact hz))]) (by rw [f1]; exact if_pos rfl)
  have d3 : chn nx1 bf1 (-1) (C ++ [u] ++ D) (-1) := by
    have : C ++ [u] ++ D = A ++ [a] ++ B := by rw [eab]; simp
    rw [this]; exact chn_ap.mpr ⟨d1, d2⟩
  have d4 : chn nx1 bf1 (nI a) (R0 ++ [τ]) (hdI (-1) B) := by
    rw [← eR]; exact chn_cg c3.2 (fun z hz => ⟨by rw [e1, if_neg (aR z hz)], by rw [f1, if_neg (hdB z (RB z hz))]⟩)
  have d5 := chn_ap.mp d3
  have nu : nx1 u = hdI (-1) D := chn_last d5.1
  -- the other list
  rw [eab] at NAB
  have M1 := List.nodup_append.mp NAB
  have M2 := List.nodup_cons.mp M1.2.1
  have mem : ∀ z, z ∈ C ++ u :: D → z ∉ h :: R1 := fun z hz hr => by
    rw [← eab] at hz
    rcases List.mem_append.mp hz with y | y
    · exact n3.1 z y hr
    · exact n3.2 z y hr
  have uR : u ∉ h :: R1 := mem u (by simp)
  have hdD : ∀ z, z ∉ D → ¬ D.head? = some z := fun z hz e => hz (List.mem_of_head? e)
  have RD : ∀ z ∈ h :: R1, z ∉ D := fun z hz hd => mem z (List.mem_append_right _ (List.mem_cons_of_mem _ hd)) hz
  have NC : (C ++ [u]).Nodup := List.nodup_append.mpr ⟨M1.1, by simp, fun z hz w hw e => M1.2.2 z hz u (by simp) (by rw [e]; simpa using hw)⟩
  have g1 : chn nx3 bf3 (-1) (C ++ [u]) (nI h) := by
    refine chn_l d5.1 NC (fun z hz => ?_) (fun z hz => ?_) (by rw [e3, if_pos rfl])
    · have zu : z ≠ u := M1.2.2 z hz u (by simp)
      have zt : z ≠ τ := fun e => mem z (List.mem_append_left _ hz) (by rw [e]; exact tR)
      rw [e3, if_neg zu, e2, if_neg zt]
    · have zm : z ∈ C ++ u :: D := by
        rcases List.mem_append.mp hz with y | y
        · exact List.mem_append_left _ y
        · exact List.mem_append_right _ (by rw [List.mem_singleton.mp y]; exact List.mem_cons_self)
      have zD : z ∉ D := fun zd => by
        rcases List.mem_append.mp hz with y | y
        · exact M1.2.2 z y z (List.mem_cons_of_mem _ zd) rfl
        · rw [List.mem_singleton.mp y] at zd; exact M2.1 zd
      rw [f3, if_neg (fun e => mem z zm (by rw [e]; exact List.mem_cons_self)), f2, if_neg (hdD z zD)]
  have NR0 : (R0 ++ [τ]).Nodup := by rw [← eR]; exact NR
  have g2 : chn nx3 bf3 (nI u) (h :: R1) (hdI (-1) D) := by
    have g : chn nx3 bf1 (nI a) (R0 ++ [τ]) (hdI (-1) D) := by
      refine chn_l d4 NR0 (fun z hz => ?_) (fun _ _ => rfl) ?_
      · have zt : z ≠ τ := (List.nodup_append.mp NR0).2.2 z hz τ (by simp)
        have zR : z ∈ h :: R1 := by rw [eR]; exact List.mem_append_left _ hz
        rw [e3, if_neg (fun e => uR (by rw [← e]; exact zR)), e2, if_neg zt]
      · rw [e3, if_neg (fun e => uR (by rw [← e]; exact tR)), e2, if_pos rfl, nu]
    rw [← eR] at g
    refine chn_f g (fun _ _ => rfl) (fun z hz => ?_) (by rw [f3, if_pos rfl])
    rw [f3, if_neg (fun e => (List.nodup_cons.mp NR).1 (by rw [← e]; exact hz)), f2, if_neg (hdD z (RD z (List.mem_cons_of_mem _ hz)))]
  have g3 : chn nx3 bf3 (nI τ) D (-1) := by
    have nz : ∀ z ∈ D, nx3 z = nx1 z := fun z hz => by
      rw [e3, if_neg (fun e => M2.1 (by rw [← e]; exact hz)), e2, if_neg (fun e => RD τ tR (by rw [← e]; exact hz))]
    have nh : ∀ z ∈ D, z ≠ h := fun z hz e => RD h List.mem_cons_self (by rw [← e]; exact hz)
    match D, d5.2, M2, f2, nz, nh with
    | [], _, _, _, _, _ => trivial
    | b :: D', c, M2, f2, nz, nh => exact chn_f c nz (fun z hz => by rw [f3, if_neg (nh z (List.mem_cons_of_mem _ hz)), f2, if_neg (fun e => (List.nodup_cons.mp M2.2).1 (by cases e; exact hz))]) (by rw [f3, if_neg (nh b List.mem_cons_self), f2]; exact if_pos rfl)
  refine ⟨?_, chn_first c3.2, nt, nu⟩
  have fin : chn nx3 bf3 (-1) (C ++ [u] ++ R0 ++ [τ] ++ D) (-1) := by
    refine chn_ap.mpr ⟨?_, g3⟩
    have : C ++ [u] ++ R0 ++ [τ] = C ++ [u] ++ h :: R1 := by rw [eR]; simp only [List.append_assoc]
    rw [this]; exact chn_app.mpr ⟨g1, g2⟩
  have : C ++ u :: (h :: R1 ++ D) = C ++ [u] ++ R0 ++ [τ] ++ D := by rw [eR]; simp
  rw [this]; exact fin
/-! the slots of the MARKS, in their order -/
noncomputable def pD (p : Nat → Prop) (s : Nat) : Bool := @decide (p s) (Classical.propDecidable _)
theorem pD_T {p : Nat → Prop} {s : Nat} : pD p s = true ↔ p s := @decide_eq_true_iff _ (Classical.propDecidable _)
noncomputable def psl (p : Nat → Prop) (n : Nat) : List Nat := (List.range n).filter (pD p)
theorem psl_y {p : Nat → Prop} {n : Nat} (h : p n) : psl p (n + 1) = psl p n ++ [n] := by
  unfold psl; rw [List.range_succ, List.filter_append, List.filter_cons_of_pos (pD_T.mpr h), List.filter_nil]
theorem psl_n {p : Nat → Prop} {n : Nat} (h : ¬ p n) : psl p (n + 1) = psl p n := by
  unfold psl; rw [List.range_succ, List.filter_append, List.filter_cons_of_neg (fun z => h (pD_T.mp z)), List.filter_nil, List.append_nil]
theorem psl_mem {p : Nat → Prop} {n s : Nat} : s ∈ psl p n ↔ s < n ∧ p s := by
  unfold psl; rw [List.mem_filter, List.mem_range, pD_T]
theorem psl_ct {p : Nat → Prop} : ∀ n, (psl p n).length = ct p n
  | 0 => rfl
  | n + 1 => by
    by_cases c : p n
    · rw [psl_y c, List.length_append, ct_y c, psl_ct n]; rfl
    · rw [psl_n c, ct_n c, psl_ct n]
/-- the widest of a row -/
noncomputable def wdS' (S : ShT) (dn : Nat → Prop) (o : Option Nat) (s : Nat) : Option Nat := match o with
  | none => cif (kK (kM S s) = 4 ∧ ¬ dn s) (some s) none
  | some b => cif ((kK (kM S s) = 4 ∧ ¬ dn s) ∧ mSp (kM S b) < mSp (kM S s)) (some s) (some b)
noncomputable def wdl (S : ShT) (dn : Nat → Prop) (l : List Nat) : Option Nat := l.foldl (wdS' S dn) none
theorem wdl_s {S : ShT} {dn : Nat → Prop} {l : List Nat} {s : Nat} : wdl S dn (l ++ [s]) = wdS' S dn (wdl S dn l) s := by
  unfold wdl; rw [List.foldl_append]; rfl
theorem wd_l {S : ShT} {p dn : Nat → Prop} : ∀ n, wd S p dn n = wdl S dn (psl p n)
  | 0 => rfl
  | n + 1 => by
    have ih := wd_l (S := S) (p := p) (dn := dn) n
    show (match wd S p dn n with | none => cif (isMv S p dn n) (some n) none | some b => cif (isMv S p dn n ∧ mSp (kM S b) < mSp (kM S n)) (some n) (some b)) = _
    rw [ih]
    by_cases c : p n
    · rw [psl_y c, wdl_s]
      have e : isMv S p dn n ↔ (kK (kM S n) = 4 ∧ ¬ dn n) := ⟨fun h => h.2, fun h => ⟨c, h⟩⟩
      unfold wdS'
      rw [propext e]
    · rw [psl_n c]
      have e : ¬ isMv S p dn n := fun h => c h.1
      cases wdl S dn (psl p n) with
      | none => dsimp only; rw [cif_F e]
      | some b => dsimp only; rw [cif_F (fun h => e h.1)]
