/-! WHAT IS MADE FIRST: the class's object, the reference's -/
def Ext (x : Nat) (M M' : Mem) : Prop := mN M ≤ mN M' ∧ (∀ b, b < mN M → b ≠ x → same M M' b ∧ mK M' b = mK M b ∧ mA M' b = mA M b) ∧ vi M' x = vi M x ∧ mK M' x = mK M x
theorem Ext.refl {x : Nat} {M : Mem} : Ext x M M := ⟨Nat.le_refl _, fun _ _ _ => ⟨same.refl, rfl, rfl⟩, rfl, rfl⟩
theorem Ext.trans {x : Nat} {M M' M'' : Mem} (h : Ext x M M') (h2 : Ext x M' M'') : Ext x M M'' :=
  ⟨Nat.le_trans h.1 h2.1, fun b hb hx => ⟨(h.2.1 b hb hx).1.trans (h2.2.1 b (by have := h.1; omega) hx).1, (h2.2.1 b (by have := h.1; omega) hx).2.1.trans (h.2.1 b hb hx).2.1, (h2.2.1 b (by have := h.1; omega) hx).2.2.trans (h.2.1 b hb hx).2.2⟩, h2.2.2.1.trans h.2.2.1, h2.2.2.2.trans h.2.2.2⟩
def Mko (x f c nf : Nat) (l : List (Nat × Nat × Nat)) (M M3 : Mem) : Prop :=
  Ext x M M3 ∧ frM M3 ∧ mN M3 = mN M + 1 + (arrs l).length ∧ mS M3 = mS M + nf + sumN l ∧ ObAt c M3 (mN M) ∧ (∀ b, mN M < b → b < mN M3 → vi M3 b = (fun _ => 0) ∧ vr M3 b = (fun _ => none)) ∧ (∀ k, k ∉ l.map (fun e => e.1) → vi M3 (mN M) k = 0) ∧ (∀ e ∈ l, e.2.1 = 0 → vi M3 (mN M) e.1 = -1) ∧ vr M3 x f = some (mN M) ∧ ∀ k, k ≠ f → vr M3 x k = vr M x k
section
variable {x f c nf K n : Nat} {l : List (Nat × Nat × Nat)} {M M1 M2 M3 : Mem}
theorem stp_ob (F : frM M) (hx : x < mN M) (nd : (l.map (fun e => e.1)).Nodup) (c13 : c < 13) (tb : obTab c = (arrs l).mapIdx (fun i e => (e.1, i + 1, e.2.1, e.2.2))) (e1 : M1 = mnew M (c + 1) nf) (e2 : M2 = bld (mN M) l M1) (e3 : M3 = setr M2 x f (some (mN M))) : Mko x f c nf l M M3 := by
  have F1 : frM M1 := by rw [e1]; exact fr_mnew F
  have n1 : mN M1 = mN M + 1 := by rw [e1]; rfl
  have bs : BS (mN M) l M1 M2 := by rw [e2]; exact bld_spec l M1 (by omega) F1 nd
  have ob := bs.ob (c := c) (by rw [e1, mK_mnew, if_pos rfl]) n1 tb
  obtain ⟨b1, b2, b3, b4, b5, b6, b7, b8, b9⟩ := bs
  have o1 : ∀ b, b ≠ mN M → vi M1 b = vi M b ∧ vl M1 b = vl M b ∧ vr M1 b = vr M b ∧ mK M1 b = mK M b ∧ mA M1 b = mA M b := fun b hb => by
    rw [e1]
    exact ⟨by rw [vi_mnew, if_neg hb], by rw [vl_mnew, if_neg hb], by rw [vr_mnew, if_neg hb], by rw [mK_mnew, if_neg hb], by rw [mA_mnew, if_neg hb]⟩
  have v3 : vi M3 = vi M2 ∧ vl M3 = vl M2 ∧ mK M3 = mK M2 ∧ mA M3 = mA M2 ∧ mN M3 = mN M2 ∧ mS M3 = mS M2 := by rw [e3]; exact ⟨rfl, rfl, rfl, rfl, rfl, rfl⟩
  have r3 : ∀ b, b ≠ x → vr M3 b = vr M2 b := fun b hb => by rw [e3]; funext k; rw [vr_setr, if_neg (fun z => hb z.1)]
  have sx := b3 x (by omega) (by omega)
  refine ⟨⟨by rw [v3.2.2.2.2.1]; omega, fun b hb hbx => ?_, ?_, ?_⟩, fun a ha => ?_, ?_, ?_, ?_, fun b hb hb2 => ?_, fun k hk => ?_, fun e he h0 => ?_, ?_, fun k hk => ?_⟩
  · have z := b3 b (by omega) (by omega)
    have y := o1 b (by omega)
    refine ⟨⟨?_, ?_, ?_⟩, ?_, ?_⟩
    · rw [v3.1, z.1.1, y.1]
    · rw [v3.2.1, z.1.2.1, y.2.1]
    · rw [r3 b hbx, z.1.2.2, y.2.2.1]
    · rw [v3.2.2.1, z.2.1, y.2.2.2.1]
    · rw [v3.2.2.2.1, z.2.2, y.2.2.2.2]
  · rw [v3.1, sx.1.1, (o1 x (by omega)).1]
  · rw [v3.2.2.1, sx.2.1, (o1 x (by omega)).2.2.2.1]
  · rw [v3.2.2.1]; exact b9 a (by rw [← v3.2.2.2.2.1]; exact ha)
  · rw [v3.2.2.2.2.1, b1, n1]
  · rw [v3.2.2.2.2.2, b2, e1, mS_mnew]
  · exact ob.keep (fun b _ => by rw [v3.2.2.1, v3.2.2.2.1]; exact ⟨rfl, rfl⟩) (r3 _ (by omega)) c13
  · have z := b5 b (by omega) (by rw [← v3.2.2.2.2.1]; exact hb2)
    exact ⟨by rw [v3.1]; exact z.1, by rw [r3 b (by omega)]; exact z.2.2⟩
  · rw [v3.1, (b7 k hk).2, e1, vi_mnew, if_pos rfl]
  · rw [v3.1]; exact (b8 e he).1 h0
  · rw [e3, vr_setr, if_pos ⟨rfl, rfl⟩]
  · rw [e3, vr_setr, if_neg (fun z => hk z.2), sx.1.2.2, (o1 x (by omega)).2.2.1]
end
