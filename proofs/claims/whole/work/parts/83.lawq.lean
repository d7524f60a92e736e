/-! READING LAWS: all clauses; what is read -/
noncomputable def pLw (t : TpT) : Nat → Nat → List Nat → Nat → List (Nat × Nat) → Nat × LawT
  | 0, _, _, _, _ => (99999, [], [])
  | k + 1, p, cd, n, acc => cif ((pCl t acc.length (skB t p) cd n).1 = 0)
      (cif (skB t (pCl t acc.length (skB t p) cd n).2.1 < t.1) (cif (t.2 (skB t (pCl t acc.length (skB t p) cd n).2.1) = 59)
        (pLw t k (skB t (pCl t acc.length (skB t p) cd n).2.1 + 1) (pCl t acc.length (skB t p) cd n).2.2.1 (pCl t acc.length (skB t p) cd n).2.2.2 (acc ++ [((clS' t (skB t p) cd n).2.2.1.length, (pCl t acc.length (skB t p) cd n).2.2.1.length)]))
        (flt (skB t (pCl t acc.length (skB t p) cd n).2.1) 0, [], []))
        (0, (pCl t acc.length (skB t p) cd n).2.2.1, acc ++ [((clS' t (skB t p) cd n).2.2.1.length, (pCl t acc.length (skB t p) cd n).2.2.1.length)]))
      ((pCl t acc.length (skB t p) cd n).1, [], [])
noncomputable def pAllL (T : StT) : Nat × LawT := pLw T.1 13 0 [] 0 []
def v_law (T : StT) (L : LawT) : StT := ((0, tB T), sh T, (qN T + 1, fun l => if l = qN T then L else qL T l), iM T)
noncomputable def f_law (T : StT) : Int32 := cif (qN T = 4) (-1) (cif ((pAllL T).1 = 0) (nI (qN T)) (-2 - nI (pAllL T).1))
noncomputable def u_law (T : StT) : StT := cif (qN T = 4) T (cif ((pAllL T).1 = 0) (v_law T (pAllL T).2) (v_end T 0))
/-- a row of a longer one -/
theorem seg_app {l e : List Nat} {a b : Nat} (h : b ≤ l.length) (hab : a ≤ b) : seg (l ++ e) a b = seg l a b := by
  unfold seg
  rw [List.drop_append_of_le_length (by omega), List.take_append_of_le_length (by rw [List.length_drop]; omega)]
