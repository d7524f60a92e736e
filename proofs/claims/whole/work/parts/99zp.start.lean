/-! WHAT THE STATEMENT GIVES AT THE ENTRY: by program (wip/tools/start.py) -/
theorem tm1 {w : Cond} {i : Nat} (h : tables_1_1[i]? = some w) : w ∈ lw_tbl := List.mem_append_right _ (tin1 (List.mem_of_getElem? h))
theorem tm2 {w : Cond} {i : Nat} (h : tables_1_2[i]? = some w) : w ∈ lw_tbl := List.mem_append_right _ (tin2 (List.mem_of_getElem? h))
theorem tm3 {w : Cond} {i : Nat} (h : tables_1_3[i]? = some w) : w ∈ lw_tbl := List.mem_append_right _ (tin3 (List.mem_of_getElem? h))
theorem tm4 {w : Cond} {i : Nat} (h : tables_1_4[i]? = some w) : w ∈ lw_tbl := List.mem_append_right _ (tin4 (List.mem_of_getElem? h))
theorem tm5 {w : Cond} {i : Nat} (h : tables_1_5[i]? = some w) : w ∈ lw_tbl := List.mem_append_right _ (tin5 (List.mem_of_getElem? h))
theorem tm6 {w : Cond} {i : Nat} (h : tables_1_6[i]? = some w) : w ∈ lw_tbl := List.mem_append_right _ (tin6 (List.mem_of_getElem? h))
theorem tm7 {w : Cond} {i : Nat} (h : tables_1_7[i]? = some w) : w ∈ lw_tbl := List.mem_append_right _ (tin7 (List.mem_of_getElem? h))
theorem tm8 {w : Cond} {i : Nat} (h : tables_1_8[i]? = some w) : w ∈ lw_tbl := List.mem_append_right _ (tin8 (List.mem_of_getElem? h))
set_option maxRecDepth 20000 in
theorem str_ok : ∀ q ∈ strL, Cond.stringRef q.1 q.2.1 q.2.2 ∈ lw_tbl := List.forall_mem_cons.mpr ⟨tm2 (i := 222) rfl, List.forall_mem_cons.mpr ⟨tm3 (i := 229) rfl, List.forall_mem_cons.mpr ⟨tm4 (i := 11) rfl, List.forall_mem_cons.mpr ⟨tm4 (i := 22) rfl, List.forall_mem_cons.mpr ⟨tm4 (i := 31) rfl, List.forall_mem_cons.mpr ⟨tm4 (i := 43) rfl, List.forall_mem_cons.mpr ⟨tm4 (i := 46) rfl, List.forall_mem_cons.mpr ⟨tm7 (i := 13) rfl, List.forall_mem_cons.mpr ⟨tm7 (i := 14) rfl, List.forall_mem_cons.mpr ⟨tm7 (i := 15) rfl, List.forall_mem_cons.mpr ⟨tm7 (i := 16) rfl, List.forall_mem_cons.mpr ⟨tm7 (i := 17) rfl, List.forall_mem_cons.mpr ⟨tm7 (i := 18) rfl, List.forall_mem_cons.mpr ⟨tm7 (i := 19) rfl, List.forall_mem_cons.mpr ⟨tm7 (i := 20) rfl, List.forall_mem_cons.mpr ⟨tm7 (i := 57) rfl, List.forall_mem_cons.mpr ⟨tm7 (i := 90) rfl, List.forall_mem_cons.mpr ⟨tm7 (i := 91) rfl, List.forall_mem_cons.mpr ⟨tm7 (i := 92) rfl, List.forall_mem_cons.mpr ⟨tm7 (i := 93) rfl, List.forall_mem_cons.mpr ⟨tm7 (i := 94) rfl, List.forall_mem_cons.mpr ⟨tm7 (i := 95) rfl, List.forall_mem_cons.mpr ⟨tm7 (i := 96) rfl, List.forall_mem_cons.mpr ⟨tm7 (i := 97) rfl, List.forall_mem_cons.mpr ⟨tm7 (i := 110) rfl, List.forall_mem_cons.mpr ⟨tm7 (i := 127) rfl, List.forall_mem_cons.mpr ⟨tm7 (i := 128) rfl, List.forall_mem_nil _⟩⟩⟩⟩⟩⟩⟩⟩⟩⟩⟩⟩⟩⟩⟩⟩⟩⟩⟩⟩⟩⟩⟩⟩⟩⟩⟩
set_option maxRecDepth 20000 in
theorem nest_ok : ∀ q ∈ nestL, Cond.methodLinkNest q.1 q.2.1 q.2.2.1 q.2.2.2 ∈ lw_tbl := List.forall_mem_cons.mpr ⟨tm1 (i := 32) rfl, List.forall_mem_cons.mpr ⟨tm1 (i := 59) rfl, List.forall_mem_cons.mpr ⟨tm1 (i := 141) rfl, List.forall_mem_cons.mpr ⟨tm1 (i := 207) rfl, List.forall_mem_cons.mpr ⟨tm2 (i := 10) rfl, List.forall_mem_cons.mpr ⟨tm2 (i := 38) rfl, List.forall_mem_cons.mpr ⟨tm2 (i := 67) rfl, List.forall_mem_cons.mpr ⟨tm4 (i := 56) rfl, List.forall_mem_cons.mpr ⟨tm4 (i := 236) rfl, List.forall_mem_cons.mpr ⟨tm4 (i := 237) rfl, List.forall_mem_cons.mpr ⟨tm5 (i := 92) rfl, List.forall_mem_cons.mpr ⟨tm5 (i := 97) rfl, List.forall_mem_cons.mpr ⟨tm1 (i := 169) rfl, List.forall_mem_cons.mpr ⟨tm3 (i := 74) rfl, List.forall_mem_cons.mpr ⟨tm5 (i := 125) rfl, List.forall_mem_cons.mpr ⟨tm5 (i := 126) rfl, List.forall_mem_cons.mpr ⟨tm3 (i := 157) rfl, List.forall_mem_cons.mpr ⟨tm2 (i := 173) rfl, List.forall_mem_cons.mpr ⟨tm2 (i := 227) rfl, List.forall_mem_cons.mpr ⟨tm3 (i := 58) rfl, List.forall_mem_nil _⟩⟩⟩⟩⟩⟩⟩⟩⟩⟩⟩⟩⟩⟩⟩⟩⟩⟩⟩⟩
theorem ac_byte : Cond.arrayClass .byte ∈ lw_tbl := tm3 (i := 142) rfl
theorem ac_int : Cond.arrayClass .int ∈ lw_tbl := tm1 (i := 56) rfl
theorem ac_long : Cond.arrayClass .long ∈ lw_tbl := tm1 (i := 133) rfl
theorem ac_boolean : Cond.arrayClass .boolean ∈ lw_tbl := tm6 (i := 186) rfl
theorem ao_2 : Cond.arrayOver (.object (clsN 2)) ∈ lw_tbl := tm1 (i := 136) rfl
theorem ao_5 : Cond.arrayOver (.object (clsN 5)) ∈ lw_tbl := tm1 (i := 64) rfl
theorem ao_8 : Cond.arrayOver (.object (clsN 8)) ∈ lw_tbl := tm1 (i := 134) rfl
theorem ao_10 : Cond.arrayOver (.object (clsN 10)) ∈ lw_tbl := tm1 (i := 138) rfl
theorem cs_ok : Cond.castable "[I" "java/lang/Cloneable" ∈ lw_tbl := tm3 (i := 84) rfl
theorem ls_1 : Cond.laysStatic "java/lang/String" "COMPACT_STRINGS" "Z" ∈ lw_tbl := tm2 (i := 239) rfl
theorem ls_2 : Cond.laysStatic "jdk/internal/util/Preconditions" "SIOOBE_FORMATTER" "Ljava/util/function/BiFunction;" ∈ lw_tbl := tm3 (i := 15) rfl
theorem li_1 : Cond.initialized "java/lang/String" ∈ lw_tbl := tm1 (i := 14) rfl
theorem li_2 : Cond.initialized "jdk/internal/util/Preconditions" ∈ lw_tbl := tm1 (i := 16) rfl
def fl : List Cond := flatC (Jvm.Cond.and given_1 narrow_1)
def tmS (i : Nat) : Term := .string (strL.getD i ("", 0, "")).1 (strL.getD i ("", 0, "")).2.1
abbrev tvS (i : Nat) : Term := .field (tmS i) "java/lang/String" "value" "[B"
def bS (i : Nat) : Nat := [61, 101, 111, 153, 159, 166, 173, 179, 186, 193, 200, 207, 215, 223, 231, 240, 251, 259, 267, 277, 285, 293, 302, 311, 318, 326, 334].getD i 0
set_option maxRecDepth 100000 in
set_option maxHeartbeats 4000000 in
theorem st_ex : ∀ i, i < 27 → fl[bS i]? = some (Cond.exactly (tmS i) "java/lang/String") := by decide +kernel
set_option maxRecDepth 100000 in
set_option maxHeartbeats 4000000 in
theorem st_co : ∀ i, i < 27 → fl[bS i + 1]? = some (Cond.eq (.field (tmS i) "java/lang/String" "coder" "B") (.int 0)) := by decide +kernel
set_option maxRecDepth 100000 in
set_option maxHeartbeats 4000000 in
theorem st_ar : ∀ i, i < 27 → fl[bS i + 2]? = some (Cond.arrayOf (tvS i) .byte) := by decide +kernel
set_option maxRecDepth 100000 in
set_option maxHeartbeats 4000000 in
theorem st_le : ∀ i, i < 27 → fl[bS i + 3]? = some (Cond.eq (.length (tvS i)) (.int (Int32.ofNat (strB.getD i []).length))) := by decide +kernel
set_option maxRecDepth 100000 in
set_option maxHeartbeats 4000000 in
theorem st_el : ∀ i, i < 27 → ∀ j, j < (strB.getD i []).length → fl[bS i + 4 + j]? = some (Cond.eq (.elem (tvS i) (.int (Int32.ofNat j))) (.int ((strB.getD i []).getD j 0))) := by decide +kernel
set_option maxRecDepth 100000 in
set_option maxHeartbeats 4000000 in
theorem st_z1 : fl[4]? = some (Cond.eq (.static "java/lang/String" "COMPACT_STRINGS" "Z") (.int 1)) := by decide +kernel
set_option maxRecDepth 100000 in
set_option maxHeartbeats 4000000 in
theorem st_z2 : fl[5]? = some (Cond.isRef (.static "jdk/internal/util/Preconditions" "SIOOBE_FORMATTER" "Ljava/util/function/BiFunction;")) := by decide +kernel
theorem st_len : ∀ i, i < 27 → (strB.getD i []).length < 2 ^ 31 := by decide
