/-! THE LAW: each method's contracts, side by side -/
def Pk {α : Type} (x : Nat) (U : StT) (c : Nat) (M : Mem) (f v : α) (M1 : Mem) : Prop := v = f ∧ ∃ w' c', XC w' M1 x U c' ∧ c' ≤ c + 1 ∧ Cu x M M1
def Pm {α : Type} (m : Nat) (U : StT) (M : Mem) (f v : α) (M1 : Mem) : Prop := v = f ∧ RX M1 m U ∧ Ou m M M1
section
variable {G : GT} {d x m c : Nat} {w : Nat → Nat} {M : Mem} {T : StT} {a1 a2 a3 a4 a5 : Int32}
theorem ka_feed (h : XC w M x T c) (hc : c + 1 < 1000000) : CI G (d + 31) 109 [.ref x, .int a1, .int a2, .int a3, .int a4, .int a5] M (Pk x (u_feed T a1 a2 a3 a4 a5) c M (f_feed T)) := k_feed h (fun M1 X C => ⟨rfl, _, _, X, by omega, C⟩)
theorem ma_feed (h : RX M m T) : CI G (d + 31) 164 [.ref m, .int a1, .int a2, .int a3, .int a4, .int a5] M (Pm m (u_feed T a1 a2 a3 a4 a5) M (f_feed T)) := m_feed h (fun M1 R O => ⟨rfl, R, O⟩)
theorem ka_end (h : XC w M x T c) (hc : c + 1 < 1000000) : CI G (d + 31) 110 [.ref x, .int a1] M (Pk x (u_end T a1) c M (f_end T a1)) := k_end h (fun M1 X C => ⟨rfl, _, _, X, by omega, C⟩)
theorem ma_end (h : RX M m T) : CI G (d + 31) 166 [.ref m, .int a1] M (Pm m (u_end T a1) M (f_end T a1)) := m_end h (fun M1 R O => ⟨rfl, R, O⟩)
theorem ka_galley (h : XC w M x T c) (hc : c + 1 < 1000000) : CI G (d + 31) 111 [.ref x] M (Pk x (u_gal T) c M (f_gal T)) := k_galley h hc (fun M1 c1 X l C => ⟨rfl, _, _, X, l, C⟩)
theorem ma_galley (h : RX M m T) : CI G (d + 31) 169 [.ref m] M (Pm m (u_gal T) M (f_gal T)) := m_galley h (fun M1 R O => ⟨rfl, R, O⟩)
theorem ka_wishes (h : XC w M x T c) (hc : c + 1 < 1000000) : CI G (d + 31) 112 [.ref x] M (Pk x (u_wis T) c M (f_gal T)) := k_wishes h hc (fun M1 c1 X l C => ⟨rfl, _, _, X, l, C⟩)
theorem ma_wishes (h : RX M m T) : CI G (d + 31) 170 [.ref m] M (Pm m (u_wis T) M (f_gal T)) := m_wishes h (fun M1 R O => ⟨rfl, R, O⟩)
theorem ka_hand (h : XC w M x T c) (hc : c + 1 < 1000000) : CI G (d + 31) 113 [.ref x, .int a1] M (Pk x (u_hand T a1) c M (f_hand T a1)) := k_hand h hc (fun M1 c1 X l C => ⟨rfl, _, _, X, l, C⟩)
theorem ma_hand (h : RX M m T) : CI G (d + 31) 162 [.ref m, .int a1] M (Pm m (u_hand T a1) M (f_hand T a1)) := m_hand h (fun M1 R O => ⟨rfl, R, O⟩)
theorem ka_marks (h : XC w M x T c) (hc : c + 1 < 1000000) : CI G (d + 31) 114 [.ref x, .int a1] M (Pk x (u_marks T a1) c M (f_marks T a1)) := k_marks h hc (fun w1 M1 c1 X l C => ⟨rfl, _, _, X, l, C⟩)
theorem ma_marks (h : RX M m T) : CI G (d + 31) 196 [.ref m, .int a1] M (Pm m (u_marks T a1) M (f_marks T a1)) := m_marks h (fun M1 R O => ⟨rfl, R, O⟩)
theorem ka_law (h : XC w M x T c) (hc : c + 1 < 1000000) : CI G (d + 31) 115 [.ref x] M (Pk x (u_law T) c M (f_law T)) := k_law h (fun w1 M1 X C => ⟨rfl, _, _, X, by omega, C⟩)
theorem ma_law (h : RX M m T) : CI G (d + 31) 198 [.ref m] M (Pm m (u_law T) M (f_law T)) := m_law h (fun M1 R O => ⟨rfl, R, O⟩)
theorem ka_cost (h : XC w M x T c) (hc : c + 1 < 1000000) : CI G (d + 31) 116 [.ref x, .int a1, .int a2] M (Pk x (u_cost T a1 a2) c M (f_cost T a1 a2)) := k_cost h hc (fun M1 c1 X l C => ⟨rfl, _, _, X, l, C⟩)
theorem ma_cost (h : RX M m T) : CI G (d + 31) 163 [.ref m, .int a1, .int a2] M (Pm m (u_cost T a1 a2) M (f_cost T a1 a2)) := m_cost h (fun M1 R O => ⟨rfl, R, O⟩)
theorem ka_at (h : XC w M x T c) (hc : c + 1 < 1000000) : CI G (d + 31) 117 [.ref x, .int a1, .int a2] M (Pk x (T) c M (f_at T a1 a2)) := k_at h.xa h.cs ⟨rfl, w, c, h, by omega, Cu.refl⟩
theorem ma_at (h : RX M m T) : CI G (d + 31) 203 [.ref m, .int a1, .int a2] M (Pm m (T) M (f_at T a1 a2)) := m_at h ⟨rfl, h, Ou.refl⟩
theorem ka_mark (h : XC w M x T c) (hc : c + 1 < 1000000) : CI G (d + 31) 118 [.ref x, .int a1, .int a2, .int a3] M (Pk x (T) c M (f_mark T a1 a2 a3)) := k_mark h.xa h.cs ⟨rfl, w, c, h, by omega, Cu.refl⟩
theorem ma_mark (h : RX M m T) : CI G (d + 31) 207 [.ref m, .int a1, .int a2, .int a3] M (Pm m (T) M (f_mark T a1 a2 a3)) := m_mark h ⟨rfl, h, Ou.refl⟩
theorem ka_put (h : XC w M x T c) (hc : c + 1 < 1000000) : CI G (d + 31) 119 [.ref x, .int a1, .int a2, .int a3] M (Pk x (T) c M (f_put T a1 a2 a3)) := k_put h.xa h.cs ⟨rfl, w, c, h, by omega, Cu.refl⟩
theorem ma_put (h : RX M m T) : CI G (d + 31) 208 [.ref m, .int a1, .int a2, .int a3] M (Pm m (T) M (f_put T a1 a2 a3)) := m_put h ⟨rfl, h, Ou.refl⟩
theorem ka_clash (h : XC w M x T c) (hc : c + 1 < 1000000) : CI G (d + 31) 120 [.ref x, .int a1, .int a2, .int a3, .int a4] M (Pk x (T) c M (f_clash T a1 a2 a3 a4)) := k_clash h.xa h.cs ⟨rfl, w, c, h, by omega, Cu.refl⟩
theorem ma_clash (h : RX M m T) : CI G (d + 31) 217 [.ref m, .int a1, .int a2, .int a3, .int a4] M (Pm m (T) M (f_clash T a1 a2 a3 a4)) := m_clash h ⟨rfl, h, Ou.refl⟩
theorem ka_clashes (h : XC w M x T c) (hc : c + 1 < 1000000) : CI G (d + 31) 121 [.ref x, .int a1] M (Pk x (T) c M (f_clashes T a1)) := k_clashes h.xa h.cs ⟨rfl, w, c, h, by omega, Cu.refl⟩
theorem ma_clashes (h : RX M m T) : CI G (d + 31) 218 [.ref m, .int a1] M (Pm m (T) M (f_clashes T a1)) := m_clashes h ⟨rfl, h, Ou.refl⟩
theorem ka_weight (h : XC w M x T c) (hc : c + 1 < 1000000) : CJ G (d + 31) 122 [.ref x, .int a1, .int a2, .int a3] M (Pk x (T) c M (f_weight T a1 a2 a3)) := k_weight h (fun M1 X C => ⟨rfl, _, _, X, by omega, C⟩)
theorem ma_weight (h : RX M m T) : CJ G (d + 31) 220 [.ref m, .int a1, .int a2, .int a3] M (Pm m (T) M (f_weight T a1 a2 a3)) := m_weight h (fun M1 R O => ⟨rfl, R, O⟩)
theorem ka_stands (h : XC w M x T c) (hc : c + 1 < 1000000) : CI G (d + 31) 123 [.ref x, .int a1, .int a2, .int a3] M (Pk x (T) c M (f_stands T a1 a2 a3)) := k_stands h (fun M1 X C => ⟨rfl, _, _, X, by omega, C⟩)
theorem ma_stands (h : RX M m T) : CI G (d + 31) 225 [.ref m, .int a1, .int a2, .int a3] M (Pm m (T) M (f_stands T a1 a2 a3)) := m_stands h (fun M1 R O => ⟨rfl, R, O⟩)
theorem ka_falls (h : XC w M x T c) (hc : c + 1 < 1000000) : CI G (d + 31) 124 [.ref x, .int a1, .int a2, .int a3] M (Pk x (T) c M (f_falls T a1 a2 a3)) := k_falls h (fun M1 X C => ⟨rfl, _, _, X, by omega, C⟩)
theorem ma_falls (h : RX M m T) : CI G (d + 31) 226 [.ref m, .int a1, .int a2, .int a3] M (Pm m (T) M (f_falls T a1 a2 a3)) := m_falls h (fun M1 R O => ⟨rfl, R, O⟩)
theorem ka_many (h : XC w M x T c) (hc : c + 1 < 1000000) : CI G (d + 31) 125 [.ref x, .int a1, .int a2] M (Pk x (T) c M (f_many T a1 a2)) := k_many h (fun M1 X C => ⟨rfl, _, _, X, by omega, C⟩)
theorem ma_many (h : RX M m T) : CI G (d + 31) 227 [.ref m, .int a1, .int a2] M (Pm m (T) M (f_many T a1 a2)) := m_many h (fun M1 R O => ⟨rfl, R, O⟩)
theorem ka_out (h : XC w M x T c) (hc : c + 1 < 1000000) : CI G (d + 31) 126 [.ref x, .int a1] M (Pk x (T) c M (f_out T a1)) := k_out h (fun M1 X C => ⟨rfl, _, _, X, by omega, C⟩)
theorem ma_out (h : RX M m T) : CI G (d + 31) 239 [.ref m, .int a1] M (Pm m (T) M (f_out T a1)) := m_out h (fun M1 R O => ⟨rfl, R, O⟩)
theorem ka_reads (h : XC w M x T c) (hc : c + 1 < 1000000) : CI G (d + 31) 127 [.ref x, .int a1, .int a2] M (Pk x (T) c M (f_reads T a1 a2)) := k_reads h (fun M1 X C => ⟨rfl, _, _, X, by omega, C⟩)
theorem ma_reads (h : RX M m T) : CI G (d + 31) 240 [.ref m, .int a1, .int a2] M (Pm m (T) M (f_reads T a1 a2)) := m_reads h (fun M1 R O => ⟨rfl, R, O⟩)
theorem ka_lines (h : XC w M x T c) (hc : c + 1 < 1000000) : CI G (d + 31) 128 [.ref x, .int a1, .int a2] M (Pk x (T) c M (f_lines T a1 a2)) := k_lines h (fun M1 X C => ⟨rfl, _, _, X, by omega, C⟩)
theorem ma_lines (h : RX M m T) : CI G (d + 31) 244 [.ref m, .int a1, .int a2] M (Pm m (T) M (f_lines T a1 a2)) := m_lines h (fun M1 R O => ⟨rfl, R, O⟩)
theorem ka_line (h : XC w M x T c) (hc : c + 1 < 1000000) : CI G (d + 31) 129 [.ref x, .int a1, .int a2, .int a3, .int a4] M (Pk x (T) c M (f_line T a1 a2 a3 a4)) := k_line h (fun M1 X C => ⟨rfl, _, _, X, by omega, C⟩)
theorem ma_line (h : RX M m T) : CI G (d + 31) 245 [.ref m, .int a1, .int a2, .int a3, .int a4] M (Pm m (T) M (f_line T a1 a2 a3 a4)) := m_line h (fun M1 R O => ⟨rfl, R, O⟩)
theorem ka_changed (h : XC w M x T c) (hc : c + 1 < 1000000) : CI G (d + 31) 130 [.ref x, .int a1, .int a2] M (Pk x (T) c M (f_changed T a1 a2)) := k_changed h (fun M1 X C => ⟨rfl, _, _, X, by omega, C⟩)
theorem ma_changed (h : RX M m T) : CI G (d + 31) 249 [.ref m, .int a1, .int a2] M (Pm m (T) M (f_changed T a1 a2)) := m_changed h (fun M1 R O => ⟨rfl, R, O⟩)
theorem ka_run (h : XC w M x T c) (hc : c + 1 < 1000000) : CI G (d + 31) 131 [.ref x, .int a1, .int a2, .int a3] M (Pk x (T) c M (f_run T a1 a2 a3)) := k_run h (fun M1 X C => ⟨rfl, _, _, X, by omega, C⟩)
theorem ma_run (h : RX M m T) : CI G (d + 31) 250 [.ref m, .int a1, .int a2, .int a3] M (Pm m (T) M (f_run T a1 a2 a3)) := m_run h (fun M1 R O => ⟨rfl, R, O⟩)
theorem ka_costs (h : XC w M x T c) (hc : c + 1 < 1000000) : CI G (d + 31) 132 [.ref x, .int a1, .int a2] M (Pk x (T) c M (f_costs T a1 a2)) := k_costs h (fun M1 X C => ⟨rfl, _, _, X, by omega, C⟩)
theorem ma_costs (h : RX M m T) : CI G (d + 31) 251 [.ref m, .int a1, .int a2] M (Pm m (T) M (f_costs T a1 a2)) := m_costs h (fun M1 R O => ⟨rfl, R, O⟩)
theorem ka_edit (h : XC w M x T c) (hc : c + 1 < 1000000) : CI G (d + 31) 133 [.ref x, .int a1] M (Pk x (T) c M (f_edit T a1)) := k_edit h (fun M1 X C => ⟨rfl, _, _, X, by omega, C⟩)
theorem ma_edit (h : RX M m T) : CI G (d + 31) 255 [.ref m, .int a1] M (Pm m (T) M (f_edit T a1)) := m_edit h (fun M1 R O => ⟨rfl, R, O⟩)
theorem ka_moved (h : XC w M x T c) (hc : c + 1 < 1000000) : CI G (d + 31) 134 [.ref x, .int a1] M (Pk x (T) c M (f_moved T a1)) := k_moved h (fun M1 X C => ⟨rfl, _, _, X, by omega, C⟩)
theorem ma_moved (h : RX M m T) : CI G (d + 31) 258 [.ref m, .int a1] M (Pm m (T) M (f_moved T a1)) := m_moved h (fun M1 R O => ⟨rfl, R, O⟩)
theorem ka_fewest (h : XC w M x T c) (hc : c + 1 < 1000000) : CI G (d + 31) 135 [.ref x] M (Pk x (T) c M (f_fewest T)) := k_fewest h (fun M1 X C => ⟨rfl, _, _, X, by omega, C⟩)
theorem ma_fewest (h : RX M m T) : CI G (d + 31) 262 [.ref m] M (Pm m (T) M (f_fewest T)) := m_fewest h (fun M1 R O => ⟨rfl, R, O⟩)
theorem ka_unseen (h : XC w M x T c) (hc : c + 1 < 1000000) : CI G (d + 31) 136 [.ref x, .int a1, .int a2, .int a3, .int a4] M (Pk x (T) c M (f_unseen T a1 a2 a3 a4)) := k_unseen h.xa h.cs ⟨rfl, w, c, h, by omega, Cu.refl⟩
theorem ma_unseen (h : RX M m T) : CI G (d + 31) 265 [.ref m, .int a1, .int a2, .int a3, .int a4] M (Pm m (T) M (f_unseen T a1 a2 a3 a4)) := m_unseen h ⟨rfl, h, Ou.refl⟩
theorem ka_rate (h : XC w M x T c) (hc : c + 1 < 1000000) : CI G (d + 31) 137 [.ref x, .int a1, .int a2] M (Pk x (T) c M (f_rate T a1 a2)) := k_rate h.xa h.cs ⟨rfl, w, c, h, by omega, Cu.refl⟩
theorem ma_rate (h : RX M m T) : CI G (d + 31) 266 [.ref m, .int a1, .int a2] M (Pm m (T) M (f_rate T a1 a2)) := m_rate h ⟨rfl, h, Ou.refl⟩
theorem ka_count (h : XC w M x T c) (hc : c + 1 < 1000000) : CI G (d + 31) 138 [.ref x, .int a1] M (Pk x (T) c M (f_count T a1)) := k_count h.xa h.cs h.t h.q ⟨rfl, w, c, h, by omega, Cu.refl⟩
theorem ma_count (h : RX M m T) : CI G (d + 31) 267 [.ref m, .int a1] M (Pm m (T) M (f_count T a1)) := m_count h ⟨rfl, h, Ou.refl⟩
theorem ka_image (h : XC w M x T c) (hc : c + 1 < 1000000) : CI G (d + 31) 139 [.ref x, .int a1] M (Pk x (u_image T a1) c M (f_image T a1)) := k_image h (fun M1 w1 X C => ⟨rfl, _, _, X, by omega, C⟩)
theorem ma_image (h : RX M m T) : CI G (d + 31) 270 [.ref m, .int a1] M (Pm m (u_image T a1) M (f_image T a1)) := m_image h (fun M1 R O => ⟨rfl, R, O⟩)
theorem ka_back (h : XC w M x T c) (hc : c + 1 < 1000000) : CI G (d + 31) 140 [.ref x, .int a1] M (Pk x (u_back T a1) c M (f_back T a1)) := k_back h hc (fun M1 c1 X l C => ⟨rfl, _, _, X, l, C⟩)
theorem ma_back (h : RX M m T) : CI G (d + 31) 271 [.ref m, .int a1] M (Pm m (u_back T a1) M (f_back T a1)) := m_back h (fun M1 R O => ⟨rfl, R, O⟩)
end
