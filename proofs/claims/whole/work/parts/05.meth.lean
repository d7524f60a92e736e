/-! THE METHODS, by number; the tables of links: by program (wip/tools/meth.py) -/
theorem tin1 {w : Cond} (h : w ∈ tables_1_1) : w ∈ tables_1 := List.mem_append_left _ (h)
theorem gm1 {w : Cond} {i : Nat} (h : tables_1_1[i]? = some w) (hg : goodWord w = true) : w ∈ lw_good := List.mem_filter.mpr ⟨List.mem_append_right _ (tin1 (List.mem_of_getElem? h)), hg⟩
theorem tin2 {w : Cond} (h : w ∈ tables_1_2) : w ∈ tables_1 := List.mem_append_right _ (List.mem_append_left _ (h))
theorem gm2 {w : Cond} {i : Nat} (h : tables_1_2[i]? = some w) (hg : goodWord w = true) : w ∈ lw_good := List.mem_filter.mpr ⟨List.mem_append_right _ (tin2 (List.mem_of_getElem? h)), hg⟩
theorem tin3 {w : Cond} (h : w ∈ tables_1_3) : w ∈ tables_1 := List.mem_append_right _ (List.mem_append_right _ (List.mem_append_left _ (h)))
theorem gm3 {w : Cond} {i : Nat} (h : tables_1_3[i]? = some w) (hg : goodWord w = true) : w ∈ lw_good := List.mem_filter.mpr ⟨List.mem_append_right _ (tin3 (List.mem_of_getElem? h)), hg⟩
theorem tin4 {w : Cond} (h : w ∈ tables_1_4) : w ∈ tables_1 := List.mem_append_right _ (List.mem_append_right _ (List.mem_append_right _ (List.mem_append_left _ (h))))
theorem gm4 {w : Cond} {i : Nat} (h : tables_1_4[i]? = some w) (hg : goodWord w = true) : w ∈ lw_good := List.mem_filter.mpr ⟨List.mem_append_right _ (tin4 (List.mem_of_getElem? h)), hg⟩
theorem tin5 {w : Cond} (h : w ∈ tables_1_5) : w ∈ tables_1 := List.mem_append_right _ (List.mem_append_right _ (List.mem_append_right _ (List.mem_append_right _ (List.mem_append_left _ (h)))))
theorem gm5 {w : Cond} {i : Nat} (h : tables_1_5[i]? = some w) (hg : goodWord w = true) : w ∈ lw_good := List.mem_filter.mpr ⟨List.mem_append_right _ (tin5 (List.mem_of_getElem? h)), hg⟩
theorem tin6 {w : Cond} (h : w ∈ tables_1_6) : w ∈ tables_1 := List.mem_append_right _ (List.mem_append_right _ (List.mem_append_right _ (List.mem_append_right _ (List.mem_append_right _ (List.mem_append_left _ (h))))))
theorem gm6 {w : Cond} {i : Nat} (h : tables_1_6[i]? = some w) (hg : goodWord w = true) : w ∈ lw_good := List.mem_filter.mpr ⟨List.mem_append_right _ (tin6 (List.mem_of_getElem? h)), hg⟩
theorem tin7 {w : Cond} (h : w ∈ tables_1_7) : w ∈ tables_1 := List.mem_append_right _ (List.mem_append_right _ (List.mem_append_right _ (List.mem_append_right _ (List.mem_append_right _ (List.mem_append_right _ (List.mem_append_left _ (h)))))))
theorem gm7 {w : Cond} {i : Nat} (h : tables_1_7[i]? = some w) (hg : goodWord w = true) : w ∈ lw_good := List.mem_filter.mpr ⟨List.mem_append_right _ (tin7 (List.mem_of_getElem? h)), hg⟩
theorem tin8 {w : Cond} (h : w ∈ tables_1_8) : w ∈ tables_1 := List.mem_append_right _ (List.mem_append_right _ (List.mem_append_right _ (List.mem_append_right _ (List.mem_append_right _ (List.mem_append_right _ (List.mem_append_right _ (h)))))))
theorem gm8 {w : Cond} {i : Nat} (h : tables_1_8[i]? = some w) (hg : goodWord w = true) : w ∈ lw_good := List.mem_filter.mpr ⟨List.mem_append_right _ (tin8 (List.mem_of_getElem? h)), hg⟩
theorem pin1 {q : MethodName × Nat} (h : q ∈ lw_privs_1) : q ∈ lw_privs := List.mem_append_left _ (h)
theorem gs1 {y : MethodName} {n i : Nat} (h : lw_privs_1[i]? = some (y, n)) : Cond.selects y.cls y y ∈ lw_good := List.mem_filter.mpr ⟨List.mem_append_left _ (List.mem_map.mpr ⟨(y, n), pin1 (List.mem_of_getElem? h), rfl⟩), rfl⟩
theorem pin2 {q : MethodName × Nat} (h : q ∈ lw_privs_2) : q ∈ lw_privs := List.mem_append_right _ (List.mem_append_left _ (h))
theorem gs2 {y : MethodName} {n i : Nat} (h : lw_privs_2[i]? = some (y, n)) : Cond.selects y.cls y y ∈ lw_good := List.mem_filter.mpr ⟨List.mem_append_left _ (List.mem_map.mpr ⟨(y, n), pin2 (List.mem_of_getElem? h), rfl⟩), rfl⟩
theorem pin3 {q : MethodName × Nat} (h : q ∈ lw_privs_3) : q ∈ lw_privs := List.mem_append_right _ (List.mem_append_right _ (List.mem_append_left _ (h)))
theorem gs3 {y : MethodName} {n i : Nat} (h : lw_privs_3[i]? = some (y, n)) : Cond.selects y.cls y y ∈ lw_good := List.mem_filter.mpr ⟨List.mem_append_left _ (List.mem_map.mpr ⟨(y, n), pin3 (List.mem_of_getElem? h), rfl⟩), rfl⟩
theorem pin4 {q : MethodName × Nat} (h : q ∈ lw_privs_4) : q ∈ lw_privs := List.mem_append_right _ (List.mem_append_right _ (List.mem_append_right _ (List.mem_append_left _ (h))))
theorem gs4 {y : MethodName} {n i : Nat} (h : lw_privs_4[i]? = some (y, n)) : Cond.selects y.cls y y ∈ lw_good := List.mem_filter.mpr ⟨List.mem_append_left _ (List.mem_map.mpr ⟨(y, n), pin4 (List.mem_of_getElem? h), rfl⟩), rfl⟩
theorem pin5 {q : MethodName × Nat} (h : q ∈ lw_privs_5) : q ∈ lw_privs := List.mem_append_right _ (List.mem_append_right _ (List.mem_append_right _ (List.mem_append_right _ (List.mem_append_left _ (h)))))
theorem gs5 {y : MethodName} {n i : Nat} (h : lw_privs_5[i]? = some (y, n)) : Cond.selects y.cls y y ∈ lw_good := List.mem_filter.mpr ⟨List.mem_append_left _ (List.mem_map.mpr ⟨(y, n), pin5 (List.mem_of_getElem? h), rfl⟩), rfl⟩
theorem pin6 {q : MethodName × Nat} (h : q ∈ lw_privs_6) : q ∈ lw_privs := List.mem_append_right _ (List.mem_append_right _ (List.mem_append_right _ (List.mem_append_right _ (List.mem_append_right _ (List.mem_append_left _ (h))))))
theorem gs6 {y : MethodName} {n i : Nat} (h : lw_privs_6[i]? = some (y, n)) : Cond.selects y.cls y y ∈ lw_good := List.mem_filter.mpr ⟨List.mem_append_left _ (List.mem_map.mpr ⟨(y, n), pin6 (List.mem_of_getElem? h), rfl⟩), rfl⟩
theorem pin7 {q : MethodName × Nat} (h : q ∈ lw_privs_7) : q ∈ lw_privs := List.mem_append_right _ (List.mem_append_right _ (List.mem_append_right _ (List.mem_append_right _ (List.mem_append_right _ (List.mem_append_right _ (List.mem_append_left _ (h)))))))
theorem gs7 {y : MethodName} {n i : Nat} (h : lw_privs_7[i]? = some (y, n)) : Cond.selects y.cls y y ∈ lw_good := List.mem_filter.mpr ⟨List.mem_append_left _ (List.mem_map.mpr ⟨(y, n), pin7 (List.mem_of_getElem? h), rfl⟩), rfl⟩
theorem pin8 {q : MethodName × Nat} (h : q ∈ lw_privs_8) : q ∈ lw_privs := List.mem_append_right _ (List.mem_append_right _ (List.mem_append_right _ (List.mem_append_right _ (List.mem_append_right _ (List.mem_append_right _ (List.mem_append_right _ (List.mem_append_left _ (h))))))))
theorem gs8 {y : MethodName} {n i : Nat} (h : lw_privs_8[i]? = some (y, n)) : Cond.selects y.cls y y ∈ lw_good := List.mem_filter.mpr ⟨List.mem_append_left _ (List.mem_map.mpr ⟨(y, n), pin8 (List.mem_of_getElem? h), rfl⟩), rfl⟩
theorem pin9 {q : MethodName × Nat} (h : q ∈ lw_privs_9) : q ∈ lw_privs := List.mem_append_right _ (List.mem_append_right _ (List.mem_append_right _ (List.mem_append_right _ (List.mem_append_right _ (List.mem_append_right _ (List.mem_append_right _ (List.mem_append_right _ (h))))))))
theorem gs9 {y : MethodName} {n i : Nat} (h : lw_privs_9[i]? = some (y, n)) : Cond.selects y.cls y y ∈ lw_good := List.mem_filter.mpr ⟨List.mem_append_left _ (List.mem_map.mpr ⟨(y, n), pin9 (List.mem_of_getElem? h), rfl⟩), rfl⟩
def mtL : List (MethodName × ByteArray × Nat × Option FieldType × Nat) := [
  (yX0_init, cX0_init, 1, none, 0),
  (yX0_compose, cX0_compose, 7, none, 0),
  (yX0_hang, cX0_hang, 4, none, 0),
  (yX0_doMoves, cX0_doMoves, 7, none, 0),
  (yX0_widestMove, cX0_widestMove, 6, (some (.object "GalleyMarks$Mark")), 0),
  (yX0_shift, cX0_shift, 5, none, 0),
  (yX0_hook, cX0_hook, 3, none, 0),
  (yX0_note, cX0_note, 3, none, 0),
  (yX0_write, cX0_write, 3, none, 0),
  (yX0_writeByte, cX0_writeByte, 4, none, 0),
  (yX0_fewestSet, cX0_fewestSet, 6, (some .int), 0),
  (yX0_gatherAll, cX0_gatherAll, 7, (some .int), 0),
  (yX0_isFree, cX0_isFree, 4, (some .boolean), 0),
  (yX0_makesWish, cX0_makesWish, 6, (some .boolean), 0),
  (yX1_init, cX1_init, 1, none, 1),
  (yX1_search, cX1_search, 4, none, 1),
  (yX1_fillRow, cX1_fillRow, 15, none, 1),
  (yX1_keep, cX1_keep, 6, none, 1),
  (yX1_kept, cX1_kept, 4, (some .int), 1),
  (yX1_walk, cX1_walk, 7, none, 1),
  (yX2_init, cX2_init, 1, none, 2),
  (yX2_clear, cX2_clear, 1, none, 2),
  (yX2_add, cX2_add, 2, none, 2),
  (yX2_endSum, cX2_endSum, 2, none, 2),
  (yX2_endClause, cX2_endClause, 2, none, 2),
  (yX2_weigh, cX2_weigh, 6, (some .long), 2),
  (yX2_learn, cX2_learn, 5, (some .boolean), 2),
  (yX2_valueOf, cX2_valueOf, 6, (some .long), 2),
  (yX2_wordValue, cX2_wordValue, 2, (some .long), 2),
  (yX2_join, cX2_join, 5, (some .long), 2),
  (yX3_init, cX3_init, 2, none, 3),
  (yX3_handOver, cX3_handOver, 2, (some (.object "GalleyMarks$Law")), 3),
  (yX3_readLaw, cX3_readLaw, 3, none, 3),
  (yX3_readTest, cX3_readTest, 4, none, 3),
  (yX3_readFact, cX3_readFact, 6, none, 3),
  (yX3_readSign, cX3_readSign, 4, (some .int), 3),
  (yX3_readSum, cX3_readSum, 5, none, 3),
  (yX3_readValue, cX3_readValue, 4, none, 3),
  (yX3_countAt, cX3_countAt, 2, none, 3),
  (yX4_init, cX4_init, 1, none, 4),
  (yX4_layOut, cX4_layOut, 8, none, 4),
  (yX4_addWord, cX4_addWord, 7, none, 4),
  (yX4_beginLine, cX4_beginLine, 2, none, 4),
  (yX4_addBytes, cX4_addBytes, 5, none, 4),
  (yX4_addByte, cX4_addByte, 3, none, 4),
  (yX4_pagesUnlike, cX4_pagesUnlike, 7, (some .int), 4),
  (yX4_sameLine, cX4_sameLine, 6, (some .boolean), 4),
  (yX5_init, cX5_init, 6, none, 5),
  (yX5_isAlike, cX5_isAlike, 2, (some .boolean), 5),
  (yX5_sameText, cX5_sameText, 3, (some .boolean), 5),
  (yX5_meets, cX5_meets, 2, (some .int), 5),
  (yX5_meetsLater, cX5_meetsLater, 2, (some .int), 5),
  (yX5_insMeets, cX5_insMeets, 2, (some .int), 5),
  (yX5_sharesByte, cX5_sharesByte, 2, (some .boolean), 5),
  (yX5_movesFit, cX5_movesFit, 2, (some .boolean), 5),
  (yX5_liesIn, cX5_liesIn, 3, (some .boolean), 5),
  (yX5_overFrom, cX5_overFrom, 1, (some .int), 5),
  (yX5_overTo, cX5_overTo, 1, (some .int), 5),
  (yX6_init, cX6_init, 1, none, 6),
  (yX6_readMarks, cX6_readMarks, 5, none, 6),
  (yX6_readClause, cX6_readClause, 6, none, 6),
  (yX6_readMark, cX6_readMark, 8, (some (.object "GalleyMarks$Mark")), 6),
  (yX6_readClose, cX6_readClose, 4, (some (.object "GalleyMarks$Mark")), 6),
  (yX6_readIns, cX6_readIns, 5, (some (.object "GalleyMarks$Mark")), 6),
  (yX6_readNumber, cX6_readNumber, 6, (some .int), 6),
  (yX6_readText, cX6_readText, 4, (some .int), 6),
  (yX7_init, cX7_init, 1, none, 7),
  (yX7_search, cX7_search, 7, none, 7),
  (yX7_fillBehind, cX7_fillBehind, 13, none, 7),
  (yX7_extend, cX7_extend, 14, none, 7),
  (yX7_tryMoves, cX7_tryMoves, 8, none, 7),
  (yX7_offer, cX7_offer, 5, none, 7),
  (yX7_comesAhead, cX7_comesAhead, 4, (some .boolean), 7),
  (yX8_init, cX8_init, 1, none, 8),
  (yX8_copyFrom, cX8_copyFrom, 2, none, 8),
  (yX8_takeGalley, cX8_takeGalley, 4, none, 8),
  (yX8_takeWish, cX8_takeWish, 4, none, 8),
  (yX8_hasHand, cX8_hasHand, 2, (some .boolean), 8),
  (yX8_addMarks, cX8_addMarks, 6, none, 8),
  (yX8_clashesOf, cX8_clashesOf, 6, (some .long), 8),
  (yX8_find, cX8_find, 3, (some (.object "GalleyMarks$Mark")), 8),
  (yX8_allTold, cX8_allTold, 3, (some .int), 8),
  (yX8_tells, cX8_tells, 6, (some .boolean), 8),
  (yX8_agreeing, cX8_agreeing, 4, (some .int), 8),
  (yX8_toldBeside, cX8_toldBeside, 8, (some .int), 8),
  (yX8_toldByOthers, cX8_toldByOthers, 7, (some .int), 8),
  (yX8_toldEarlier, cX8_toldEarlier, 6, (some .boolean), 8),
  (yX9_init, cX9_init, 1, none, 9),
  (yX9_append, cX9_append, 3, none, 9),
  (yX9_firstWrong, cX9_firstWrong, 2, (some .int), 9),
  (yX9_rewind, cX9_rewind, 1, none, 9),
  (yX9_fail, cX9_fail, 3, none, 9),
  (yX9_peek, cX9_peek, 1, (some .int), 9),
  (yX9_pass, cX9_pass, 3, none, 9),
  (yX9_takeSign, cX9_takeSign, 4, (some .int), 9),
  (yX9_takeWord, cX9_takeWord, 7, (some .int), 9),
  (yX9_digits, cX9_digits, 3, (some .int), 9),
  (yX9_valueOf, cX9_valueOf, 4, (some .int), 9),
  (yX10_init, cX10_init, 1, none, 10),
  (yX10_settle, cX10_settle, 5, none, 10),
  (yX10_heaviestWaiting, cX10_heaviestWaiting, 3, (some .int), 10),
  (yX10_decide, cX10_decide, 7, none, 10),
  (yX10_feller, cX10_feller, 6, (some .int), 10),
  (yX10_howMany, cX10_howMany, 4, (some .int), 10),
  (yX10_compose, cX10_compose, 4, none, 10),
  (yX10_gather, cX10_gather, 4, (some .int), 10),
  (yX10_costOfMarks, cX10_costOfMarks, 6, (some .int), 10),
  (yX10_hasEarlier, cX10_hasEarlier, 5, (some .boolean), 10),
  (yX11_init, cX11_init, 1, none, 11),
  (yX11_feed, cX11_feed, 6, (some .int), 11),
  (yX11_end, cX11_end, 2, (some .int), 11),
  (yX11_galley, cX11_galley, 3, (some .int), 11),
  (yX11_wishes, cX11_wishes, 3, (some .int), 11),
  (yX11_hand, cX11_hand, 3, (some .int), 11),
  (yX11_marks, cX11_marks, 2, (some .int), 11),
  (yX11_law, cX11_law, 2, (some .int), 11),
  (yX11_cost, cX11_cost, 4, (some .int), 11),
  (yX11_at, cX11_at, 3, (some .int), 11),
  (yX11_mark, cX11_mark, 5, (some .int), 11),
  (yX11_put, cX11_put, 5, (some .int), 11),
  (yX11_clash, cX11_clash, 7, (some .int), 11),
  (yX11_clashes, cX11_clashes, 8, (some .int), 11),
  (yX11_weight, cX11_weight, 5, (some .long), 11),
  (yX11_stands, cX11_stands, 5, (some .int), 11),
  (yX11_falls, cX11_falls, 6, (some .int), 11),
  (yX11_many, cX11_many, 4, (some .int), 11),
  (yX11_out, cX11_out, 3, (some .int), 11),
  (yX11_reads, cX11_reads, 4, (some .int), 11),
  (yX11_lines, cX11_lines, 3, (some .int), 11),
  (yX11_line, cX11_line, 5, (some .int), 11),
  (yX11_changed, cX11_changed, 4, (some .int), 11),
  (yX11_run, cX11_run, 5, (some .int), 11),
  (yX11_costs, cX11_costs, 4, (some .int), 11),
  (yX11_edit, cX11_edit, 2, (some .int), 11),
  (yX11_moved, cX11_moved, 2, (some .int), 11),
  (yX11_fewest, cX11_fewest, 1, (some .int), 11),
  (yX11_unseen, cX11_unseen, 8, (some .int), 11),
  (yX11_rate, cX11_rate, 3, (some .int), 11),
  (yX11_count, cX11_count, 2, (some .int), 11),
  (yX11_image, cX11_image, 3, (some .int), 11),
  (yX11_back, cX11_back, 3, (some .int), 11),
  (yX11_judged, cX11_judged, 4, (some (.object "GalleyMarks$Verdict")), 11),
  (yX11_composed, cX11_composed, 3, (some (.object "GalleyMarks$Verdict")), 11),
  (yX11_setLines, cX11_setLines, 4, (some .boolean), 11),
  (yX11_unlikePages, cX11_unlikePages, 4, (some .int), 11),
  (yX11_findEdit, cX11_findEdit, 1, none, 11),
  (yX11_isWidth, cX11_isWidth, 1, (some .boolean), 11),
  (yX11_slotOf, cX11_slotOf, 2, (some .int), 11),
  (yX11_isByte, cX11_isByte, 1, (some .boolean), 11),
  (yX11_isSmall, cX11_isSmall, 1, (some .boolean), 11),
  (yX11_isCapital, cX11_isCapital, 1, (some .boolean), 11),
  (yX11_isDigit, cX11_isDigit, 1, (some .boolean), 11),
  (yX11_twinOf, cX11_twinOf, 1, (some .int), 11),
  (yX11_partOf, cX11_partOf, 7, (some .int), 11),
  (yX12_init, cX12_init, 1, none, 12),
  (yX12_in, cX12_in, 6, (some .boolean), 12),
  (yX12_has, cX12_has, 2, (some .boolean), 12),
  (yX12_bits, cX12_bits, 3, (some .int), 12),
  (yX12_divisor, cX12_divisor, 5, (some .int), 12),
  (yX12_isHand, cX12_isHand, 2, (some .boolean), 12),
  (yX12_isMark, cX12_isMark, 3, (some .boolean), 12),
  (yX12_isThere, cX12_isThere, 2, (some .boolean), 12),
  (yX12_hand, cX12_hand, 3, (some .int), 12),
  (yX12_cost, cX12_cost, 4, (some .int), 12),
  (yX12_feed, cX12_feed, 6, (some .int), 12),
  (yX12_put4, cX12_put4, 3, none, 12),
  (yX12_end, cX12_end, 2, (some .int), 12),
  (yX12_isByte, cX12_isByte, 1, (some .boolean), 12),
  (yX12_wrongByte, cX12_wrongByte, 2, (some .int), 12),
  (yX12_galley, cX12_galley, 4, (some .int), 12),
  (yX12_wishes, cX12_wishes, 4, (some .int), 12),
  (yX12_wordOf, cX12_wordOf, 1, (some (.object "java/lang/String")), 12),
  (yX12_markWord, cX12_markWord, 1, (some (.object "java/lang/String")), 12),
  (yX12_fails, cX12_fails, 3, none, 12),
  (yX12_sign, cX12_sign, 1, (some .int), 12),
  (yX12_blanks, cX12_blanks, 1, none, 12),
  (yX12_isDigit, cX12_isDigit, 1, (some .boolean), 12),
  (yX12_isAt, cX12_isAt, 5, (some .boolean), 12),
  (yX12_takes, cX12_takes, 3, (some .boolean), 12),
  (yX12_entry, cX12_entry, 3, none, 12),
  (yX12_isCounted, cX12_isCounted, 2, none, 12),
  (yX12_digits, cX12_digits, 4, (some .int), 12),
  (yX12_value, cX12_value, 3, none, 12),
  (yX12_term, cX12_term, 2, none, 12),
  (yX12_sum, cX12_sum, 2, none, 12),
  (yX12_compared, cX12_compared, 3, none, 12),
  (yX12_top, cX12_top, 1, (some .int), 12),
  (yX12_opens, cX12_opens, 2, none, 12),
  (yX12_answers, cX12_answers, 2, none, 12),
  (yX12_fact, cX12_fact, 1, (some .boolean), 12),
  (yX12_test, cX12_test, 5, none, 12),
  (yX12_spot, cX12_spot, 6, (some .int), 12),
  (yX12_readsText, cX12_readsText, 3, none, 12),
  (yX12_span, cX12_span, 2, none, 12),
  (yX12_readsMark, cX12_readsMark, 5, none, 12),
  (yX12_markClause, cX12_markClause, 5, none, 12),
  (yX12_marks, cX12_marks, 4, (some .int), 12),
  (yX12_clause, cX12_clause, 4, none, 12),
  (yX12_law, cX12_law, 3, (some .int), 12),
  (yX12_isLaw, cX12_isLaw, 2, (some .boolean), 12),
  (yX12_truth, cX12_truth, 1, (some .long), 12),
  (yX12_both, cX12_both, 5, (some .long), 12),
  (yX12_answer, cX12_answer, 8, (some .long), 12),
  (yX12_at, cX12_at, 3, (some .int), 12),
  (yX12_areAlike, cX12_areAlike, 5, (some .boolean), 12),
  (yX12_tells, cX12_tells, 5, (some .boolean), 12),
  (yX12_agree, cX12_agree, 4, (some .int), 12),
  (yX12_mark, cX12_mark, 5, (some .int), 12),
  (yX12_put, cX12_put, 5, (some .int), 12),
  (yX12_areCommon, cX12_areCommon, 3, (some .boolean), 12),
  (yX12_least, cX12_least, 2, (some .int), 12),
  (yX12_greatest, cX12_greatest, 2, (some .int), 12),
  (yX12_isBetween, cX12_isBetween, 4, (some .boolean), 12),
  (yX12_isWithin, cX12_isWithin, 5, (some .boolean), 12),
  (yX12_moveClash, cX12_moveClash, 4, (some .boolean), 12),
  (yX12_isInside, cX12_isInside, 3, (some .boolean), 12),
  (yX12_clashOf, cX12_clashOf, 7, (some .int), 12),
  (yX12_clash, cX12_clash, 5, (some .int), 12),
  (yX12_clashes, cX12_clashes, 6, (some .int), 12),
  (yX12_weightOf, cX12_weightOf, 4, (some .long), 12),
  (yX12_weight, cX12_weight, 4, (some .long), 12),
  (yX12_hasClash, cX12_hasClash, 5, (some .boolean), 12),
  (yX12_heaviest, cX12_heaviest, 3, (some .int), 12),
  (yX12_settles, cX12_settles, 4, none, 12),
  (yX12_judges, cX12_judges, 3, none, 12),
  (yX12_stands, cX12_stands, 4, (some .int), 12),
  (yX12_falls, cX12_falls, 6, (some .int), 12),
  (yX12_many, cX12_many, 5, (some .int), 12),
  (yX12_findsItem, cX12_findsItem, 3, (some .int), 12),
  (yX12_moves, cX12_moves, 8, none, 12),
  (yX12_widest, cX12_widest, 4, (some .int), 12),
  (yX12_doesAlike, cX12_doesAlike, 3, none, 12),
  (yX12_isSmall, cX12_isSmall, 1, (some .boolean), 12),
  (yX12_isCapital, cX12_isCapital, 1, (some .boolean), 12),
  (yX12_touches, cX12_touches, 3, none, 12),
  (yX12_writes, cX12_writes, 2, none, 12),
  (yX12_putsIn, cX12_putsIn, 4, none, 12),
  (yX12_makes, cX12_makes, 4, none, 12),
  (yX12_makesOut, cX12_makesOut, 3, none, 12),
  (yX12_out, cX12_out, 2, (some .int), 12),
  (yX12_reads, cX12_reads, 3, (some .int), 12),
  (yX12_isSet, cX12_isSet, 3, (some .boolean), 12),
  (yX12_setsWord, cX12_setsWord, 6, none, 12),
  (yX12_setsLines, cX12_setsLines, 7, none, 12),
  (yX12_lines, cX12_lines, 3, (some .int), 12),
  (yX12_line, cX12_line, 5, (some .int), 12),
  (yX12_isSameLine, cX12_isSameLine, 6, (some .boolean), 12),
  (yX12_blanksOf, cX12_blanksOf, 4, (some .int), 12),
  (yX12_changes, cX12_changes, 6, (some .int), 12),
  (yX12_changed, cX12_changed, 3, (some .int), 12),
  (yX12_run, cX12_run, 7, (some .int), 12),
  (yX12_costs, cX12_costs, 7, (some .int), 12),
  (yX12_stepCost, cX12_stepCost, 5, (some .int), 12),
  (yX12_behind, cX12_behind, 4, (some .int), 12),
  (yX12_edits, cX12_edits, 6, none, 12),
  (yX12_edit, cX12_edit, 6, (some .int), 12),
  (yX12_basesMoved, cX12_basesMoved, 7, none, 12),
  (yX12_triesMove, cX12_triesMove, 5, none, 12),
  (yX12_moved, cX12_moved, 6, (some .int), 12),
  (yX12_allMarks, cX12_allMarks, 3, (some .int), 12),
  (yX12_isWished, cX12_isWished, 3, (some .boolean), 12),
  (yX12_isGood, cX12_isGood, 4, (some .boolean), 12),
  (yX12_fewest, cX12_fewest, 5, (some .int), 12),
  (yX12_isFirst, cX12_isFirst, 4, (some .boolean), 12),
  (yX12_told, cX12_told, 7, (some .int), 12),
  (yX12_unseen, cX12_unseen, 8, (some .int), 12),
  (yX12_rate, cX12_rate, 8, (some .int), 12),
  (yX12_count, cX12_count, 2, (some .int), 12),
  (yX12_carry, cX12_carry, 3, none, 12),
  (yX12_carriesAll, cX12_carriesAll, 3, none, 12),
  (yX12_image, cX12_image, 2, (some .int), 12),
  (yX12_back, cX12_back, 2, (some .int), 12),
  (yJ7_fill_53178, cJ7_fill_53178, 4, none, 14),
  (yJ7_copyOf_59c91, cJ7_copyOf_59c91, 3, (some (.array .int)), 14),
  (yJ6_bitCount_0f7a4, cJ6_bitCount_0f7a4, 1, (some .int), 15),
  (yJ0_length_8abf5, cJ0_length_8abf5, 1, (some .int), 16),
  (yJ0_coder_7d493, cJ0_coder_7d493, 1, (some .byte), 16),
  (yJ0_isLatin1_aae02, cJ0_isLatin1_aae02, 1, (some .boolean), 16),
  (yJ0_charAt_5068e, cJ0_charAt_5068e, 2, (some .char), 16),
  (yJ1_charAt_3b067, cJ1_charAt_3b067, 2, (some .char), 17),
  (yJ0_checkIndex_df160, cJ0_checkIndex_df160, 2, none, 16),
  (yJ3_checkIndex_8e157, cJ3_checkIndex_8e157, 3, (some .int), 18),
  (x, code, 4, some .boolean, 13)]
def mT (y : Nat) : MethodName × ByteArray × Nat × Option FieldType × Nat := mtL.getD y (⟨"", "", ""⟩, .empty, 0, none, 99)
def mNm (y : Nat) : MethodName := (mT y).1
def mCode (y : Nat) : ByteArray := (mT y).2.1
def mMax (y : Nat) : Nat := (mT y).2.2.1
def mRet (y : Nat) : Option FieldType := (mT y).2.2.2.1
def mOwn (y : Nat) : Nat := (mT y).2.2.2.2
def clsN (c : Nat) : String := [RX0, RX1, RX2, RX3, RX4, RX5, RX6, RX7, RX8, RX9, RX10, RX11, RX12, RL, RJ7, RJ6, RJ0, RJ1, RJ3].getD c ""
def TT (c : Nat) : u_T := match c with
| 0 => TX0 | 1 => TX1 | 2 => TX2 | 3 => TX3 | 4 => TX4 | 5 => TX5 | 6 => TX6 | 7 => TX7 | 8 => TX8 | 9 => TX9 | 10 => TX10 | 11 => TX11 | _ => TX12
theorem vw_at {c : Nat} (h : c < 13) : vwCl[c]? = some (clsN c, TT c, nF c) := by
  match c, h with
  | 0, _ => rfl
  | 1, _ => rfl
  | 2, _ => rfl
  | 3, _ => rfl
  | 4, _ => rfl
  | 5, _ => rfl
  | 6, _ => rfl
  | 7, _ => rfl
  | 8, _ => rfl
  | 9, _ => rfl
  | 10, _ => rfl
  | 11, _ => rfl
  | 12, _ => rfl
  | n + 13, h => omega
theorem ty_ok {c : Nat} (h : c < 13) : ∀ k, k < nF c → parseFieldDescriptor (TT c k).2.2.1 = some (tyT c k) := by
  match c, h with
  | 0, _ => exact tyX0_ok
  | 1, _ => exact tyX1_ok
  | 2, _ => exact tyX2_ok
  | 3, _ => exact tyX3_ok
  | 4, _ => exact tyX4_ok
  | 5, _ => exact tyX5_ok
  | 6, _ => exact tyX6_ok
  | 7, _ => exact tyX7_ok
  | 8, _ => exact tyX8_ok
  | 9, _ => exact tyX9_ok
  | 10, _ => exact tyX10_ok
  | 11, _ => exact tyX11_ok
  | 12, _ => exact tyX12_ok
  | n + 13, h => omega
theorem nm_ok {c : Nat} (h : c < 13) : ∀ a, a < nF c → ∀ b, b < nF c → a ≠ b → (TT c a).2.1 ≠ (TT c b).2.1 := by
  match c, h with
  | 0, _ => exact nmX0
  | 1, _ => exact nmX1
  | 2, _ => exact nmX2
  | 3, _ => exact nmX3
  | 4, _ => exact nmX4
  | 5, _ => exact nmX5
  | 6, _ => exact nmX6
  | 7, _ => exact nmX7
  | 8, _ => exact nmX8
  | 9, _ => exact nmX9
  | 10, _ => exact nmX10
  | 11, _ => exact nmX11
  | 12, _ => exact nmX12
  | n + 13, h => omega
theorem inG0 : ∀ w ∈ u_ws RX0 TX0 11, w ∈ lw_good := List.forall_mem_cons.mpr ⟨gm1 (i := 225) rfl rfl, List.forall_mem_cons.mpr ⟨gm1 (i := 227) rfl rfl, List.forall_mem_cons.mpr ⟨gm1 (i := 229) rfl rfl, List.forall_mem_cons.mpr ⟨gm1 (i := 231) rfl rfl, List.forall_mem_cons.mpr ⟨gm1 (i := 233) rfl rfl, List.forall_mem_cons.mpr ⟨gm1 (i := 235) rfl rfl, List.forall_mem_cons.mpr ⟨gm1 (i := 237) rfl rfl, List.forall_mem_cons.mpr ⟨gm1 (i := 239) rfl rfl, List.forall_mem_cons.mpr ⟨gm2 (i := 1) rfl rfl, List.forall_mem_cons.mpr ⟨gm2 (i := 3) rfl rfl, List.forall_mem_cons.mpr ⟨gm2 (i := 5) rfl rfl, List.forall_mem_nil _⟩⟩⟩⟩⟩⟩⟩⟩⟩⟩⟩
theorem inG1 : ∀ w ∈ u_ws RX1 TX1 6, w ∈ lw_good := List.forall_mem_cons.mpr ⟨gm2 (i := 52) rfl rfl, List.forall_mem_cons.mpr ⟨gm2 (i := 54) rfl rfl, List.forall_mem_cons.mpr ⟨gm2 (i := 56) rfl rfl, List.forall_mem_cons.mpr ⟨gm2 (i := 58) rfl rfl, List.forall_mem_cons.mpr ⟨gm2 (i := 60) rfl rfl, List.forall_mem_cons.mpr ⟨gm2 (i := 62) rfl rfl, List.forall_mem_nil _⟩⟩⟩⟩⟩⟩
theorem inG2 : ∀ w ∈ u_ws RX2 TX2 7, w ∈ lw_good := List.forall_mem_cons.mpr ⟨gm1 (i := 180) rfl rfl, List.forall_mem_cons.mpr ⟨gm1 (i := 182) rfl rfl, List.forall_mem_cons.mpr ⟨gm1 (i := 184) rfl rfl, List.forall_mem_cons.mpr ⟨gm1 (i := 186) rfl rfl, List.forall_mem_cons.mpr ⟨gm1 (i := 188) rfl rfl, List.forall_mem_cons.mpr ⟨gm1 (i := 190) rfl rfl, List.forall_mem_cons.mpr ⟨gm1 (i := 192) rfl rfl, List.forall_mem_nil _⟩⟩⟩⟩⟩⟩⟩
theorem inG3 : ∀ w ∈ u_ws RX3 TX3 3, w ∈ lw_good := List.forall_mem_cons.mpr ⟨gm1 (i := 198) rfl rfl, List.forall_mem_cons.mpr ⟨gm1 (i := 200) rfl rfl, List.forall_mem_cons.mpr ⟨gm1 (i := 202) rfl rfl, List.forall_mem_nil _⟩⟩⟩
theorem inG4 : ∀ w ∈ u_ws RX4 TX4 6, w ∈ lw_good := List.forall_mem_cons.mpr ⟨gm2 (i := 23) rfl rfl, List.forall_mem_cons.mpr ⟨gm2 (i := 25) rfl rfl, List.forall_mem_cons.mpr ⟨gm2 (i := 27) rfl rfl, List.forall_mem_cons.mpr ⟨gm2 (i := 29) rfl rfl, List.forall_mem_cons.mpr ⟨gm2 (i := 31) rfl rfl, List.forall_mem_cons.mpr ⟨gm2 (i := 33) rfl rfl, List.forall_mem_nil _⟩⟩⟩⟩⟩⟩
theorem inG5 : ∀ w ∈ u_ws RX5 TX5 8, w ∈ lw_good := List.forall_mem_cons.mpr ⟨gm3 (i := 125) rfl rfl, List.forall_mem_cons.mpr ⟨gm3 (i := 127) rfl rfl, List.forall_mem_cons.mpr ⟨gm3 (i := 129) rfl rfl, List.forall_mem_cons.mpr ⟨gm3 (i := 131) rfl rfl, List.forall_mem_cons.mpr ⟨gm3 (i := 133) rfl rfl, List.forall_mem_cons.mpr ⟨gm3 (i := 135) rfl rfl, List.forall_mem_cons.mpr ⟨gm3 (i := 137) rfl rfl, List.forall_mem_cons.mpr ⟨gm3 (i := 139) rfl rfl, List.forall_mem_nil _⟩⟩⟩⟩⟩⟩⟩⟩
theorem inG6 : ∀ w ∈ u_ws RX6 TX6 4, w ∈ lw_good := List.forall_mem_cons.mpr ⟨gm1 (i := 152) rfl rfl, List.forall_mem_cons.mpr ⟨gm1 (i := 154) rfl rfl, List.forall_mem_cons.mpr ⟨gm1 (i := 156) rfl rfl, List.forall_mem_cons.mpr ⟨gm1 (i := 158) rfl rfl, List.forall_mem_nil _⟩⟩⟩⟩
theorem inG7 : ∀ w ∈ u_ws RX7 TX7 9, w ∈ lw_good := List.forall_mem_cons.mpr ⟨gm2 (i := 85) rfl rfl, List.forall_mem_cons.mpr ⟨gm2 (i := 87) rfl rfl, List.forall_mem_cons.mpr ⟨gm2 (i := 89) rfl rfl, List.forall_mem_cons.mpr ⟨gm2 (i := 91) rfl rfl, List.forall_mem_cons.mpr ⟨gm2 (i := 93) rfl rfl, List.forall_mem_cons.mpr ⟨gm2 (i := 95) rfl rfl, List.forall_mem_cons.mpr ⟨gm2 (i := 97) rfl rfl, List.forall_mem_cons.mpr ⟨gm2 (i := 99) rfl rfl, List.forall_mem_cons.mpr ⟨gm2 (i := 101) rfl rfl, List.forall_mem_nil _⟩⟩⟩⟩⟩⟩⟩⟩⟩
theorem inG8 : ∀ w ∈ u_ws RX8 TX8 11, w ∈ lw_good := List.forall_mem_cons.mpr ⟨gm1 (i := 110) rfl rfl, List.forall_mem_cons.mpr ⟨gm1 (i := 112) rfl rfl, List.forall_mem_cons.mpr ⟨gm1 (i := 114) rfl rfl, List.forall_mem_cons.mpr ⟨gm1 (i := 116) rfl rfl, List.forall_mem_cons.mpr ⟨gm1 (i := 118) rfl rfl, List.forall_mem_cons.mpr ⟨gm1 (i := 120) rfl rfl, List.forall_mem_cons.mpr ⟨gm1 (i := 122) rfl rfl, List.forall_mem_cons.mpr ⟨gm1 (i := 124) rfl rfl, List.forall_mem_cons.mpr ⟨gm1 (i := 126) rfl rfl, List.forall_mem_cons.mpr ⟨gm1 (i := 128) rfl rfl, List.forall_mem_cons.mpr ⟨gm1 (i := 130) rfl rfl, List.forall_mem_nil _⟩⟩⟩⟩⟩⟩⟩⟩⟩⟩⟩
theorem inG9 : ∀ w ∈ u_ws RX9 TX9 4, w ∈ lw_good := List.forall_mem_cons.mpr ⟨gm1 (i := 47) rfl rfl, List.forall_mem_cons.mpr ⟨gm1 (i := 49) rfl rfl, List.forall_mem_cons.mpr ⟨gm1 (i := 51) rfl rfl, List.forall_mem_cons.mpr ⟨gm1 (i := 53) rfl rfl, List.forall_mem_nil _⟩⟩⟩⟩
theorem inG10 : ∀ w ∈ u_ws RX10 TX10 8, w ∈ lw_good := List.forall_mem_cons.mpr ⟨gm4 (i := 75) rfl rfl, List.forall_mem_cons.mpr ⟨gm4 (i := 77) rfl rfl, List.forall_mem_cons.mpr ⟨gm4 (i := 79) rfl rfl, List.forall_mem_cons.mpr ⟨gm4 (i := 81) rfl rfl, List.forall_mem_cons.mpr ⟨gm4 (i := 83) rfl rfl, List.forall_mem_cons.mpr ⟨gm4 (i := 85) rfl rfl, List.forall_mem_cons.mpr ⟨gm4 (i := 87) rfl rfl, List.forall_mem_cons.mpr ⟨gm4 (i := 89) rfl rfl, List.forall_mem_nil _⟩⟩⟩⟩⟩⟩⟩⟩
theorem inG11 : ∀ w ∈ u_ws RX11 TX11 16, w ∈ lw_good := List.forall_mem_cons.mpr ⟨gm2 (i := 120) rfl rfl, List.forall_mem_cons.mpr ⟨gm2 (i := 122) rfl rfl, List.forall_mem_cons.mpr ⟨gm2 (i := 124) rfl rfl, List.forall_mem_cons.mpr ⟨gm2 (i := 126) rfl rfl, List.forall_mem_cons.mpr ⟨gm2 (i := 128) rfl rfl, List.forall_mem_cons.mpr ⟨gm2 (i := 130) rfl rfl, List.forall_mem_cons.mpr ⟨gm2 (i := 132) rfl rfl, List.forall_mem_cons.mpr ⟨gm2 (i := 134) rfl rfl, List.forall_mem_cons.mpr ⟨gm2 (i := 136) rfl rfl, List.forall_mem_cons.mpr ⟨gm2 (i := 138) rfl rfl, List.forall_mem_cons.mpr ⟨gm2 (i := 140) rfl rfl, List.forall_mem_cons.mpr ⟨gm2 (i := 142) rfl rfl, List.forall_mem_cons.mpr ⟨gm2 (i := 144) rfl rfl, List.forall_mem_cons.mpr ⟨gm2 (i := 146) rfl rfl, List.forall_mem_cons.mpr ⟨gm2 (i := 148) rfl rfl, List.forall_mem_cons.mpr ⟨gm2 (i := 150) rfl rfl, List.forall_mem_nil _⟩⟩⟩⟩⟩⟩⟩⟩⟩⟩⟩⟩⟩⟩⟩⟩
theorem inG12 : ∀ w ∈ u_ws RX12 TX12 68, w ∈ lw_good := List.forall_mem_cons.mpr ⟨gm6 (i := 49) rfl rfl, List.forall_mem_cons.mpr ⟨gm6 (i := 51) rfl rfl, List.forall_mem_cons.mpr ⟨gm6 (i := 53) rfl rfl, List.forall_mem_cons.mpr ⟨gm6 (i := 55) rfl rfl, List.forall_mem_cons.mpr ⟨gm6 (i := 57) rfl rfl, List.forall_mem_cons.mpr ⟨gm6 (i := 59) rfl rfl, List.forall_mem_cons.mpr ⟨gm6 (i := 61) rfl rfl, List.forall_mem_cons.mpr ⟨gm6 (i := 63) rfl rfl, List.forall_mem_cons.mpr ⟨gm6 (i := 65) rfl rfl, List.forall_mem_cons.mpr ⟨gm6 (i := 67) rfl rfl, List.forall_mem_cons.mpr ⟨gm6 (i := 69) rfl rfl, List.forall_mem_cons.mpr ⟨gm6 (i := 71) rfl rfl, List.forall_mem_cons.mpr ⟨gm6 (i := 73) rfl rfl, List.forall_mem_cons.mpr ⟨gm6 (i := 75) rfl rfl, List.forall_mem_cons.mpr ⟨gm6 (i := 77) rfl rfl, List.forall_mem_cons.mpr ⟨gm6 (i := 79) rfl rfl, List.forall_mem_cons.mpr ⟨gm6 (i := 81) rfl rfl, List.forall_mem_cons.mpr ⟨gm6 (i := 83) rfl rfl, List.forall_mem_cons.mpr ⟨gm6 (i := 85) rfl rfl, List.forall_mem_cons.mpr ⟨gm6 (i := 87) rfl rfl, List.forall_mem_cons.mpr ⟨gm6 (i := 89) rfl rfl, List.forall_mem_cons.mpr ⟨gm6 (i := 91) rfl rfl, List.forall_mem_cons.mpr ⟨gm6 (i := 93) rfl rfl, List.forall_mem_cons.mpr ⟨gm6 (i := 95) rfl rfl, List.forall_mem_cons.mpr ⟨gm6 (i := 97) rfl rfl, List.forall_mem_cons.mpr ⟨gm6 (i := 99) rfl rfl, List.forall_mem_cons.mpr ⟨gm6 (i := 101) rfl rfl, List.forall_mem_cons.mpr ⟨gm6 (i := 103) rfl rfl, List.forall_mem_cons.mpr ⟨gm6 (i := 105) rfl rfl, List.forall_mem_cons.mpr ⟨gm6 (i := 107) rfl rfl, List.forall_mem_cons.mpr ⟨gm6 (i := 109) rfl rfl, List.forall_mem_cons.mpr ⟨gm6 (i := 111) rfl rfl, List.forall_mem_cons.mpr ⟨gm6 (i := 113) rfl rfl, List.forall_mem_cons.mpr ⟨gm6 (i := 115) rfl rfl, List.forall_mem_cons.mpr ⟨gm6 (i := 117) rfl rfl, List.forall_mem_cons.mpr ⟨gm6 (i := 119) rfl rfl, List.forall_mem_cons.mpr ⟨gm6 (i := 121) rfl rfl, List.forall_mem_cons.mpr ⟨gm6 (i := 123) rfl rfl, List.forall_mem_cons.mpr ⟨gm6 (i := 125) rfl rfl, List.forall_mem_cons.mpr ⟨gm6 (i := 127) rfl rfl, List.forall_mem_cons.mpr ⟨gm6 (i := 129) rfl rfl, List.forall_mem_cons.mpr ⟨gm6 (i := 131) rfl rfl, List.forall_mem_cons.mpr ⟨gm6 (i := 133) rfl rfl, List.forall_mem_cons.mpr ⟨gm6 (i := 135) rfl rfl, List.forall_mem_cons.mpr ⟨gm6 (i := 137) rfl rfl, List.forall_mem_cons.mpr ⟨gm6 (i := 139) rfl rfl, List.forall_mem_cons.mpr ⟨gm6 (i := 141) rfl rfl, List.forall_mem_cons.mpr ⟨gm6 (i := 143) rfl rfl, List.forall_mem_cons.mpr ⟨gm6 (i := 145) rfl rfl, List.forall_mem_cons.mpr ⟨gm6 (i := 147) rfl rfl, List.forall_mem_cons.mpr ⟨gm6 (i := 149) rfl rfl, List.forall_mem_cons.mpr ⟨gm6 (i := 151) rfl rfl, List.forall_mem_cons.mpr ⟨gm6 (i := 153) rfl rfl, List.forall_mem_cons.mpr ⟨gm6 (i := 155) rfl rfl, List.forall_mem_cons.mpr ⟨gm6 (i := 157) rfl rfl, List.forall_mem_cons.mpr ⟨gm6 (i := 159) rfl rfl, List.forall_mem_cons.mpr ⟨gm6 (i := 161) rfl rfl, List.forall_mem_cons.mpr ⟨gm6 (i := 163) rfl rfl, List.forall_mem_cons.mpr ⟨gm6 (i := 165) rfl rfl, List.forall_mem_cons.mpr ⟨gm6 (i := 167) rfl rfl, List.forall_mem_cons.mpr ⟨gm6 (i := 169) rfl rfl, List.forall_mem_cons.mpr ⟨gm6 (i := 171) rfl rfl, List.forall_mem_cons.mpr ⟨gm6 (i := 173) rfl rfl, List.forall_mem_cons.mpr ⟨gm6 (i := 175) rfl rfl, List.forall_mem_cons.mpr ⟨gm6 (i := 177) rfl rfl, List.forall_mem_cons.mpr ⟨gm6 (i := 179) rfl rfl, List.forall_mem_cons.mpr ⟨gm6 (i := 181) rfl rfl, List.forall_mem_cons.mpr ⟨gm6 (i := 183) rfl rfl, List.forall_mem_nil _⟩⟩⟩⟩⟩⟩⟩⟩⟩⟩⟩⟩⟩⟩⟩⟩⟩⟩⟩⟩⟩⟩⟩⟩⟩⟩⟩⟩⟩⟩⟩⟩⟩⟩⟩⟩⟩⟩⟩⟩⟩⟩⟩⟩⟩⟩⟩⟩⟩⟩⟩⟩⟩⟩⟩⟩⟩⟩⟩⟩⟩⟩⟩⟩⟩⟩⟩⟩
theorem in_ok {c : Nat} (h : c < 13) : ∀ w ∈ u_ws (clsN c) (TT c) (nF c), w ∈ lw_good := by
  match c, h with
  | 0, _ => exact inG0
  | 1, _ => exact inG1
  | 2, _ => exact inG2
  | 3, _ => exact inG3
  | 4, _ => exact inG4
  | 5, _ => exact inG5
  | 6, _ => exact inG6
  | 7, _ => exact inG7
  | 8, _ => exact inG8
  | 9, _ => exact inG9
  | 10, _ => exact inG10
  | 11, _ => exact inG11
  | 12, _ => exact inG12
  | n + 13, h => omega
theorem ini_ok {c : Nat} (h : c < 19) : Cond.initialized (clsN c) ∈ lw_good := by
  match c, h with
  | 0, _ => exact gm1 (i := 7) rfl rfl
  | 1, _ => exact gm1 (i := 9) rfl rfl
  | 2, _ => exact gm1 (i := 6) rfl rfl
  | 3, _ => exact gm1 (i := 5) rfl rfl
  | 4, _ => exact gm1 (i := 8) rfl rfl
  | 5, _ => exact gm1 (i := 18) rfl rfl
  | 6, _ => exact gm1 (i := 4) rfl rfl
  | 7, _ => exact gm1 (i := 10) rfl rfl
  | 8, _ => exact gm1 (i := 3) rfl rfl
  | 9, _ => exact gm1 (i := 2) rfl rfl
  | 10, _ => exact gm1 (i := 20) rfl rfl
  | 11, _ => exact gm1 (i := 1) rfl rfl
  | 12, _ => exact gm1 (i := 11) rfl rfl
  | 13, _ => exact gm1 (i := 0) rfl rfl
  | 14, _ => exact gm1 (i := 13) rfl rfl
  | 15, _ => exact gm1 (i := 21) rfl rfl
  | 16, _ => exact gm1 (i := 14) rfl rfl
  | 17, _ => exact gm1 (i := 15) rfl rfl
  | 18, _ => exact gm1 (i := 16) rfl rfl
  | n + 19, h => omega
theorem inst_ok {c : Nat} (h : c < 13) : Cond.instantiable (clsN c) (nF c) ∈ lw_good := by
  match c, h with
  | 0, _ => exact gm1 (i := 206) rfl rfl
  | 1, _ => exact gm2 (i := 37) rfl rfl
  | 2, _ => exact gm1 (i := 168) rfl rfl
  | 3, _ => exact gm1 (i := 162) rfl rfl
  | 4, _ => exact gm2 (i := 9) rfl rfl
  | 5, _ => exact gm3 (i := 75) rfl rfl
  | 6, _ => exact gm1 (i := 140) rfl rfl
  | 7, _ => exact gm2 (i := 66) rfl rfl
  | 8, _ => exact gm1 (i := 58) rfl rfl
  | 9, _ => exact gm1 (i := 31) rfl rfl
  | 10, _ => exact gm4 (i := 55) rfl rfl
  | 11, _ => exact gm1 (i := 23) rfl rfl
  | 12, _ => exact gm5 (i := 216) rfl rfl
  | n + 13, h => omega
set_option maxRecDepth 20000 in
theorem cw0 : Cond.code (mNm 0) (mCode 0) (mMax 0) (mRet 0) ∈ lw_good := gm1 (i := 209) rfl rfl
set_option maxRecDepth 20000 in
theorem cw1 : Cond.code (mNm 1) (mCode 1) (mMax 1) (mRet 1) ∈ lw_good := gm4 (i := 200) rfl rfl
set_option maxRecDepth 20000 in
theorem cw2 : Cond.code (mNm 2) (mCode 2) (mMax 2) (mRet 2) ∈ lw_good := gm4 (i := 204) rfl rfl
set_option maxRecDepth 20000 in
theorem cw3 : Cond.code (mNm 3) (mCode 3) (mMax 3) (mRet 3) ∈ lw_good := gm4 (i := 209) rfl rfl
set_option maxRecDepth 20000 in
theorem cw4 : Cond.code (mNm 4) (mCode 4) (mMax 4) (mRet 4) ∈ lw_good := gm4 (i := 214) rfl rfl
set_option maxRecDepth 20000 in
theorem cw5 : Cond.code (mNm 5) (mCode 5) (mMax 5) (mRet 5) ∈ lw_good := gm4 (i := 218) rfl rfl
set_option maxRecDepth 20000 in
theorem cw6 : Cond.code (mNm 6) (mCode 6) (mMax 6) (mRet 6) ∈ lw_good := gm4 (i := 222) rfl rfl
set_option maxRecDepth 20000 in
theorem cw7 : Cond.code (mNm 7) (mCode 7) (mMax 7) (mRet 7) ∈ lw_good := gm4 (i := 227) rfl rfl
set_option maxRecDepth 20000 in
theorem cw8 : Cond.code (mNm 8) (mCode 8) (mMax 8) (mRet 8) ∈ lw_good := gm4 (i := 231) rfl rfl
set_option maxRecDepth 20000 in
theorem cw9 : Cond.code (mNm 9) (mCode 9) (mMax 9) (mRet 9) ∈ lw_good := gm4 (i := 235) rfl rfl
set_option maxRecDepth 20000 in
theorem cw10 : Cond.code (mNm 10) (mCode 10) (mMax 10) (mRet 10) ∈ lw_good := gm5 (i := 155) rfl rfl
set_option maxRecDepth 20000 in
theorem cw11 : Cond.code (mNm 11) (mCode 11) (mMax 11) (mRet 11) ∈ lw_good := gm5 (i := 159) rfl rfl
set_option maxRecDepth 20000 in
theorem cw12 : Cond.code (mNm 12) (mCode 12) (mMax 12) (mRet 12) ∈ lw_good := gm5 (i := 169) rfl rfl
set_option maxRecDepth 20000 in
theorem cw13 : Cond.code (mNm 13) (mCode 13) (mMax 13) (mRet 13) ∈ lw_good := gm5 (i := 173) rfl rfl
set_option maxRecDepth 20000 in
theorem cw14 : Cond.code (mNm 14) (mCode 14) (mMax 14) (mRet 14) ∈ lw_good := gm2 (i := 40) rfl rfl
set_option maxRecDepth 20000 in
theorem cw15 : Cond.code (mNm 15) (mCode 15) (mMax 15) (mRet 15) ∈ lw_good := gm5 (i := 86) rfl rfl
set_option maxRecDepth 20000 in
theorem cw16 : Cond.code (mNm 16) (mCode 16) (mMax 16) (mRet 16) ∈ lw_good := gm5 (i := 91) rfl rfl
set_option maxRecDepth 20000 in
theorem cw17 : Cond.code (mNm 17) (mCode 17) (mMax 17) (mRet 17) ∈ lw_good := gm5 (i := 101) rfl rfl
set_option maxRecDepth 20000 in
theorem cw18 : Cond.code (mNm 18) (mCode 18) (mMax 18) (mRet 18) ∈ lw_good := gm5 (i := 111) rfl rfl
set_option maxRecDepth 20000 in
theorem cw19 : Cond.code (mNm 19) (mCode 19) (mMax 19) (mRet 19) ∈ lw_good := gm5 (i := 107) rfl rfl
set_option maxRecDepth 20000 in
theorem cw20 : Cond.code (mNm 20) (mCode 20) (mMax 20) (mRet 20) ∈ lw_good := gm1 (i := 171) rfl rfl
set_option maxRecDepth 20000 in
theorem cw21 : Cond.code (mNm 21) (mCode 21) (mMax 21) (mRet 21) ∈ lw_good := gm3 (i := 228) rfl rfl
set_option maxRecDepth 20000 in
theorem cw22 : Cond.code (mNm 22) (mCode 22) (mMax 22) (mRet 22) ∈ lw_good := gm4 (i := 5) rfl rfl
set_option maxRecDepth 20000 in
theorem cw23 : Cond.code (mNm 23) (mCode 23) (mMax 23) (mRet 23) ∈ lw_good := gm4 (i := 21) rfl rfl
set_option maxRecDepth 20000 in
theorem cw24 : Cond.code (mNm 24) (mCode 24) (mMax 24) (mRet 24) ∈ lw_good := gm4 (i := 50) rfl rfl
set_option maxRecDepth 20000 in
theorem cw25 : Cond.code (mNm 25) (mCode 25) (mMax 25) (mRet 25) ∈ lw_good := gm4 (i := 134) rfl rfl
set_option maxRecDepth 20000 in
theorem cw26 : Cond.code (mNm 26) (mCode 26) (mMax 26) (mRet 26) ∈ lw_good := gm4 (i := 138) rfl rfl
set_option maxRecDepth 20000 in
theorem cw27 : Cond.code (mNm 27) (mCode 27) (mMax 27) (mRet 27) ∈ lw_good := gm4 (i := 142) rfl rfl
set_option maxRecDepth 20000 in
theorem cw28 : Cond.code (mNm 28) (mCode 28) (mMax 28) (mRet 28) ∈ lw_good := gm4 (i := 148) rfl rfl
set_option maxRecDepth 20000 in
theorem cw29 : Cond.code (mNm 29) (mCode 29) (mMax 29) (mRet 29) ∈ lw_good := gm4 (i := 152) rfl rfl
set_option maxRecDepth 20000 in
theorem cw30 : Cond.code (mNm 30) (mCode 30) (mMax 30) (mRet 30) ∈ lw_good := gm1 (i := 165) rfl rfl
set_option maxRecDepth 20000 in
theorem cw31 : Cond.code (mNm 31) (mCode 31) (mMax 31) (mRet 31) ∈ lw_good := gm4 (i := 54) rfl rfl
set_option maxRecDepth 20000 in
theorem cw32 : Cond.code (mNm 32) (mCode 32) (mMax 32) (mRet 32) ∈ lw_good := gm3 (i := 223) rfl rfl
set_option maxRecDepth 20000 in
theorem cw33 : Cond.code (mNm 33) (mCode 33) (mMax 33) (mRet 33) ∈ lw_good := gm4 (i := 26) rfl rfl
set_option maxRecDepth 20000 in
theorem cw34 : Cond.code (mNm 34) (mCode 34) (mMax 34) (mRet 34) ∈ lw_good := gm4 (i := 30) rfl rfl
set_option maxRecDepth 20000 in
theorem cw35 : Cond.code (mNm 35) (mCode 35) (mMax 35) (mRet 35) ∈ lw_good := gm4 (i := 36) rfl rfl
set_option maxRecDepth 20000 in
theorem cw36 : Cond.code (mNm 36) (mCode 36) (mMax 36) (mRet 36) ∈ lw_good := gm3 (i := 235) rfl rfl
set_option maxRecDepth 20000 in
theorem cw37 : Cond.code (mNm 37) (mCode 37) (mMax 37) (mRet 37) ∈ lw_good := gm3 (i := 239) rfl rfl
set_option maxRecDepth 20000 in
theorem cw38 : Cond.code (mNm 38) (mCode 38) (mMax 38) (mRet 38) ∈ lw_good := gm4 (i := 10) rfl rfl
set_option maxRecDepth 20000 in
theorem cw39 : Cond.code (mNm 39) (mCode 39) (mMax 39) (mRet 39) ∈ lw_good := gm2 (i := 12) rfl rfl
set_option maxRecDepth 20000 in
theorem cw40 : Cond.code (mNm 40) (mCode 40) (mMax 40) (mRet 40) ∈ lw_good := gm5 (i := 19) rfl rfl
set_option maxRecDepth 20000 in
theorem cw41 : Cond.code (mNm 41) (mCode 41) (mMax 41) (mRet 41) ∈ lw_good := gm5 (i := 24) rfl rfl
set_option maxRecDepth 20000 in
theorem cw42 : Cond.code (mNm 42) (mCode 42) (mMax 42) (mRet 42) ∈ lw_good := gm5 (i := 28) rfl rfl
set_option maxRecDepth 20000 in
theorem cw43 : Cond.code (mNm 43) (mCode 43) (mMax 43) (mRet 43) ∈ lw_good := gm5 (i := 32) rfl rfl
set_option maxRecDepth 20000 in
theorem cw44 : Cond.code (mNm 44) (mCode 44) (mMax 44) (mRet 44) ∈ lw_good := gm5 (i := 36) rfl rfl
set_option maxRecDepth 20000 in
theorem cw45 : Cond.code (mNm 45) (mCode 45) (mMax 45) (mRet 45) ∈ lw_good := gm5 (i := 52) rfl rfl
set_option maxRecDepth 20000 in
theorem cw46 : Cond.code (mNm 46) (mCode 46) (mMax 46) (mRet 46) ∈ lw_good := gm5 (i := 57) rfl rfl
set_option maxRecDepth 20000 in
theorem cw47 : Cond.code (mNm 47) (mCode 47) (mMax 47) (mRet 47) ∈ lw_good := gm3 (i := 92) rfl rfl
set_option maxRecDepth 20000 in
theorem cw48 : Cond.code (mNm 48) (mCode 48) (mMax 48) (mRet 48) ∈ lw_good := gm3 (i := 175) rfl rfl
set_option maxRecDepth 20000 in
theorem cw49 : Cond.code (mNm 49) (mCode 49) (mMax 49) (mRet 49) ∈ lw_good := gm3 (i := 179) rfl rfl
set_option maxRecDepth 20000 in
theorem cw50 : Cond.code (mNm 50) (mCode 50) (mMax 50) (mRet 50) ∈ lw_good := gm3 (i := 187) rfl rfl
set_option maxRecDepth 20000 in
theorem cw51 : Cond.code (mNm 51) (mCode 51) (mMax 51) (mRet 51) ∈ lw_good := gm3 (i := 191) rfl rfl
set_option maxRecDepth 20000 in
theorem cw52 : Cond.code (mNm 52) (mCode 52) (mMax 52) (mRet 52) ∈ lw_good := gm3 (i := 195) rfl rfl
set_option maxRecDepth 20000 in
theorem cw53 : Cond.code (mNm 53) (mCode 53) (mMax 53) (mRet 53) ∈ lw_good := gm3 (i := 215) rfl rfl
set_option maxRecDepth 20000 in
theorem cw54 : Cond.code (mNm 54) (mCode 54) (mMax 54) (mRet 54) ∈ lw_good := gm3 (i := 199) rfl rfl
set_option maxRecDepth 20000 in
theorem cw55 : Cond.code (mNm 55) (mCode 55) (mMax 55) (mRet 55) ∈ lw_good := gm3 (i := 203) rfl rfl
set_option maxRecDepth 20000 in
theorem cw56 : Cond.code (mNm 56) (mCode 56) (mMax 56) (mRet 56) ∈ lw_good := gm3 (i := 207) rfl rfl
set_option maxRecDepth 20000 in
theorem cw57 : Cond.code (mNm 57) (mCode 57) (mMax 57) (mRet 57) ∈ lw_good := gm3 (i := 211) rfl rfl
set_option maxRecDepth 20000 in
theorem cw58 : Cond.code (mNm 58) (mCode 58) (mMax 58) (mRet 58) ∈ lw_good := gm1 (i := 143) rfl rfl
set_option maxRecDepth 20000 in
theorem cw59 : Cond.code (mNm 59) (mCode 59) (mMax 59) (mRet 59) ∈ lw_good := gm2 (i := 209) rfl rfl
set_option maxRecDepth 20000 in
theorem cw60 : Cond.code (mNm 60) (mCode 60) (mMax 60) (mRet 60) ∈ lw_good := gm2 (i := 221) rfl rfl
set_option maxRecDepth 20000 in
theorem cw61 : Cond.code (mNm 61) (mCode 61) (mMax 61) (mRet 61) ∈ lw_good := gm3 (i := 45) rfl rfl
set_option maxRecDepth 20000 in
theorem cw62 : Cond.code (mNm 62) (mCode 62) (mMax 62) (mRet 62) ∈ lw_good := gm3 (i := 146) rfl rfl
set_option maxRecDepth 20000 in
theorem cw63 : Cond.code (mNm 63) (mCode 63) (mMax 63) (mRet 63) ∈ lw_good := gm3 (i := 49) rfl rfl
set_option maxRecDepth 20000 in
theorem cw64 : Cond.code (mNm 64) (mCode 64) (mMax 64) (mRet 64) ∈ lw_good := gm3 (i := 53) rfl rfl
set_option maxRecDepth 20000 in
theorem cw65 : Cond.code (mNm 65) (mCode 65) (mMax 65) (mRet 65) ∈ lw_good := gm3 (i := 73) rfl rfl
set_option maxRecDepth 20000 in
theorem cw66 : Cond.code (mNm 66) (mCode 66) (mMax 66) (mRet 66) ∈ lw_good := gm2 (i := 69) rfl rfl
set_option maxRecDepth 20000 in
theorem cw67 : Cond.code (mNm 67) (mCode 67) (mMax 67) (mRet 67) ∈ lw_good := gm5 (i := 119) rfl rfl
set_option maxRecDepth 20000 in
theorem cw68 : Cond.code (mNm 68) (mCode 68) (mMax 68) (mRet 68) ∈ lw_good := gm5 (i := 123) rfl rfl
set_option maxRecDepth 20000 in
theorem cw69 : Cond.code (mNm 69) (mCode 69) (mMax 69) (mRet 69) ∈ lw_good := gm5 (i := 131) rfl rfl
set_option maxRecDepth 20000 in
theorem cw70 : Cond.code (mNm 70) (mCode 70) (mMax 70) (mRet 70) ∈ lw_good := gm5 (i := 135) rfl rfl
set_option maxRecDepth 20000 in
theorem cw71 : Cond.code (mNm 71) (mCode 71) (mMax 71) (mRet 71) ∈ lw_good := gm5 (i := 139) rfl rfl
set_option maxRecDepth 20000 in
theorem cw72 : Cond.code (mNm 72) (mCode 72) (mMax 72) (mRet 72) ∈ lw_good := gm5 (i := 143) rfl rfl
set_option maxRecDepth 20000 in
theorem cw73 : Cond.code (mNm 73) (mCode 73) (mMax 73) (mRet 73) ∈ lw_good := gm1 (i := 61) rfl rfl
set_option maxRecDepth 20000 in
theorem cw74 : Cond.code (mNm 74) (mCode 74) (mMax 74) (mRet 74) ∈ lw_good := gm5 (i := 209) rfl rfl
set_option maxRecDepth 20000 in
theorem cw75 : Cond.code (mNm 75) (mCode 75) (mMax 75) (mRet 75) ∈ lw_good := gm2 (i := 179) rfl rfl
set_option maxRecDepth 20000 in
theorem cw76 : Cond.code (mNm 76) (mCode 76) (mMax 76) (mRet 76) ∈ lw_good := gm2 (i := 193) rfl rfl
set_option maxRecDepth 20000 in
theorem cw77 : Cond.code (mNm 77) (mCode 77) (mMax 77) (mRet 77) ∈ lw_good := gm2 (i := 205) rfl rfl
set_option maxRecDepth 20000 in
theorem cw78 : Cond.code (mNm 78) (mCode 78) (mMax 78) (mRet 78) ∈ lw_good := gm3 (i := 155) rfl rfl
set_option maxRecDepth 20000 in
theorem cw79 : Cond.code (mNm 79) (mCode 79) (mMax 79) (mRet 79) ∈ lw_good := gm3 (i := 183) rfl rfl
set_option maxRecDepth 20000 in
theorem cw80 : Cond.code (mNm 80) (mCode 80) (mMax 80) (mRet 80) ∈ lw_good := gm3 (i := 171) rfl rfl
set_option maxRecDepth 20000 in
theorem cw81 : Cond.code (mNm 81) (mCode 81) (mMax 81) (mRet 81) ∈ lw_good := gm5 (i := 151) rfl rfl
set_option maxRecDepth 20000 in
theorem cw82 : Cond.code (mNm 82) (mCode 82) (mMax 82) (mRet 82) ∈ lw_good := gm3 (i := 167) rfl rfl
set_option maxRecDepth 20000 in
theorem cw83 : Cond.code (mNm 83) (mCode 83) (mMax 83) (mRet 83) ∈ lw_good := gm3 (i := 163) rfl rfl
set_option maxRecDepth 20000 in
theorem cw84 : Cond.code (mNm 84) (mCode 84) (mMax 84) (mRet 84) ∈ lw_good := gm5 (i := 182) rfl rfl
set_option maxRecDepth 20000 in
theorem cw85 : Cond.code (mNm 85) (mCode 85) (mMax 85) (mRet 85) ∈ lw_good := gm5 (i := 193) rfl rfl
set_option maxRecDepth 20000 in
theorem cw86 : Cond.code (mNm 86) (mCode 86) (mMax 86) (mRet 86) ∈ lw_good := gm5 (i := 197) rfl rfl
set_option maxRecDepth 20000 in
theorem cw87 : Cond.code (mNm 87) (mCode 87) (mMax 87) (mRet 87) ∈ lw_good := gm1 (i := 34) rfl rfl
set_option maxRecDepth 20000 in
theorem cw88 : Cond.code (mNm 88) (mCode 88) (mMax 88) (mRet 88) ∈ lw_good := gm2 (i := 160) rfl rfl
set_option maxRecDepth 20000 in
theorem cw89 : Cond.code (mNm 89) (mCode 89) (mMax 89) (mRet 89) ∈ lw_good := gm2 (i := 172) rfl rfl
set_option maxRecDepth 20000 in
theorem cw90 : Cond.code (mNm 90) (mCode 90) (mMax 90) (mRet 90) ∈ lw_good := gm2 (i := 213) rfl rfl
set_option maxRecDepth 20000 in
theorem cw91 : Cond.code (mNm 91) (mCode 91) (mMax 91) (mRet 91) ∈ lw_good := gm3 (i := 41) rfl rfl
set_option maxRecDepth 20000 in
theorem cw92 : Cond.code (mNm 92) (mCode 92) (mMax 92) (mRet 92) ∈ lw_good := gm3 (i := 69) rfl rfl
set_option maxRecDepth 20000 in
theorem cw93 : Cond.code (mNm 93) (mCode 93) (mMax 93) (mRet 93) ∈ lw_good := gm2 (i := 217) rfl rfl
set_option maxRecDepth 20000 in
theorem cw94 : Cond.code (mNm 94) (mCode 94) (mMax 94) (mRet 94) ∈ lw_good := gm3 (i := 150) rfl rfl
set_option maxRecDepth 20000 in
theorem cw95 : Cond.code (mNm 95) (mCode 95) (mMax 95) (mRet 95) ∈ lw_good := gm2 (i := 226) rfl rfl
set_option maxRecDepth 20000 in
theorem cw96 : Cond.code (mNm 96) (mCode 96) (mMax 96) (mRet 96) ∈ lw_good := gm3 (i := 57) rfl rfl
set_option maxRecDepth 20000 in
theorem cw97 : Cond.code (mNm 97) (mCode 97) (mMax 97) (mRet 97) ∈ lw_good := gm3 (i := 64) rfl rfl
set_option maxRecDepth 20000 in
theorem cw98 : Cond.code (mNm 98) (mCode 98) (mMax 98) (mRet 98) ∈ lw_good := gm4 (i := 58) rfl rfl
set_option maxRecDepth 20000 in
theorem cw99 : Cond.code (mNm 99) (mCode 99) (mMax 99) (mRet 99) ∈ lw_good := gm4 (i := 130) rfl rfl
set_option maxRecDepth 20000 in
theorem cw100 : Cond.code (mNm 100) (mCode 100) (mMax 100) (mRet 100) ∈ lw_good := gm4 (i := 156) rfl rfl
set_option maxRecDepth 20000 in
theorem cw101 : Cond.code (mNm 101) (mCode 101) (mMax 101) (mRet 101) ∈ lw_good := gm4 (i := 160) rfl rfl
set_option maxRecDepth 20000 in
theorem cw102 : Cond.code (mNm 102) (mCode 102) (mMax 102) (mRet 102) ∈ lw_good := gm4 (i := 172) rfl rfl
set_option maxRecDepth 20000 in
theorem cw103 : Cond.code (mNm 103) (mCode 103) (mMax 103) (mRet 103) ∈ lw_good := gm4 (i := 180) rfl rfl
set_option maxRecDepth 20000 in
theorem cw104 : Cond.code (mNm 104) (mCode 104) (mMax 104) (mRet 104) ∈ lw_good := gm4 (i := 192) rfl rfl
set_option maxRecDepth 20000 in
theorem cw105 : Cond.code (mNm 105) (mCode 105) (mMax 105) (mRet 105) ∈ lw_good := gm4 (i := 196) rfl rfl
set_option maxRecDepth 20000 in
theorem cw106 : Cond.code (mNm 106) (mCode 106) (mMax 106) (mRet 106) ∈ lw_good := gm5 (i := 69) rfl rfl
set_option maxRecDepth 20000 in
theorem cw107 : Cond.code (mNm 107) (mCode 107) (mMax 107) (mRet 107) ∈ lw_good := gm5 (i := 73) rfl rfl
set_option maxRecDepth 20000 in
theorem cw108 : Cond.code (mNm 108) (mCode 108) (mMax 108) (mRet 108) ∈ lw_good := gm1 (i := 26) rfl rfl
set_option maxRecDepth 20000 in
theorem cw109 : Cond.code (mNm 109) (mCode 109) (mMax 109) (mRet 109) ∈ lw_good := gm2 (i := 156) rfl rfl
set_option maxRecDepth 20000 in
theorem cw110 : Cond.code (mNm 110) (mCode 110) (mMax 110) (mRet 110) ∈ lw_good := gm2 (i := 164) rfl rfl
set_option maxRecDepth 20000 in
theorem cw111 : Cond.code (mNm 111) (mCode 111) (mMax 111) (mRet 111) ∈ lw_good := gm2 (i := 168) rfl rfl
set_option maxRecDepth 20000 in
theorem cw112 : Cond.code (mNm 112) (mCode 112) (mMax 112) (mRet 112) ∈ lw_good := gm2 (i := 189) rfl rfl
set_option maxRecDepth 20000 in
theorem cw113 : Cond.code (mNm 113) (mCode 113) (mMax 113) (mRet 113) ∈ lw_good := gm2 (i := 197) rfl rfl
set_option maxRecDepth 20000 in
theorem cw114 : Cond.code (mNm 114) (mCode 114) (mMax 114) (mRet 114) ∈ lw_good := gm2 (i := 201) rfl rfl
set_option maxRecDepth 20000 in
theorem cw115 : Cond.code (mNm 115) (mCode 115) (mMax 115) (mRet 115) ∈ lw_good := gm3 (i := 219) rfl rfl
set_option maxRecDepth 20000 in
theorem cw116 : Cond.code (mNm 116) (mCode 116) (mMax 116) (mRet 116) ∈ lw_good := gm4 (i := 95) rfl rfl
set_option maxRecDepth 20000 in
theorem cw117 : Cond.code (mNm 117) (mCode 117) (mMax 117) (mRet 117) ∈ lw_good := gm4 (i := 99) rfl rfl
set_option maxRecDepth 20000 in
theorem cw118 : Cond.code (mNm 118) (mCode 118) (mMax 118) (mRet 118) ∈ lw_good := gm4 (i := 103) rfl rfl
set_option maxRecDepth 20000 in
theorem cw119 : Cond.code (mNm 119) (mCode 119) (mMax 119) (mRet 119) ∈ lw_good := gm4 (i := 109) rfl rfl
set_option maxRecDepth 20000 in
theorem cw120 : Cond.code (mNm 120) (mCode 120) (mMax 120) (mRet 120) ∈ lw_good := gm4 (i := 113) rfl rfl
set_option maxRecDepth 20000 in
theorem cw121 : Cond.code (mNm 121) (mCode 121) (mMax 121) (mRet 121) ∈ lw_good := gm4 (i := 118) rfl rfl
set_option maxRecDepth 20000 in
theorem cw122 : Cond.code (mNm 122) (mCode 122) (mMax 122) (mRet 122) ∈ lw_good := gm4 (i := 122) rfl rfl
set_option maxRecDepth 20000 in
theorem cw123 : Cond.code (mNm 123) (mCode 123) (mMax 123) (mRet 123) ∈ lw_good := gm4 (i := 164) rfl rfl
set_option maxRecDepth 20000 in
theorem cw124 : Cond.code (mNm 124) (mCode 124) (mMax 124) (mRet 124) ∈ lw_good := gm4 (i := 168) rfl rfl
set_option maxRecDepth 20000 in
theorem cw125 : Cond.code (mNm 125) (mCode 125) (mMax 125) (mRet 125) ∈ lw_good := gm4 (i := 176) rfl rfl
set_option maxRecDepth 20000 in
theorem cw126 : Cond.code (mNm 126) (mCode 126) (mMax 126) (mRet 126) ∈ lw_good := gm4 (i := 184) rfl rfl
set_option maxRecDepth 20000 in
theorem cw127 : Cond.code (mNm 127) (mCode 127) (mMax 127) (mRet 127) ∈ lw_good := gm5 (i := 4) rfl rfl
set_option maxRecDepth 20000 in
theorem cw128 : Cond.code (mNm 128) (mCode 128) (mMax 128) (mRet 128) ∈ lw_good := gm5 (i := 8) rfl rfl
set_option maxRecDepth 20000 in
theorem cw129 : Cond.code (mNm 129) (mCode 129) (mMax 129) (mRet 129) ∈ lw_good := gm5 (i := 40) rfl rfl
set_option maxRecDepth 20000 in
theorem cw130 : Cond.code (mNm 130) (mCode 130) (mMax 130) (mRet 130) ∈ lw_good := gm5 (i := 44) rfl rfl
set_option maxRecDepth 20000 in
theorem cw131 : Cond.code (mNm 131) (mCode 131) (mMax 131) (mRet 131) ∈ lw_good := gm5 (i := 61) rfl rfl
set_option maxRecDepth 20000 in
theorem cw132 : Cond.code (mNm 132) (mCode 132) (mMax 132) (mRet 132) ∈ lw_good := gm5 (i := 65) rfl rfl
set_option maxRecDepth 20000 in
theorem cw133 : Cond.code (mNm 133) (mCode 133) (mMax 133) (mRet 133) ∈ lw_good := gm5 (i := 78) rfl rfl
set_option maxRecDepth 20000 in
theorem cw134 : Cond.code (mNm 134) (mCode 134) (mMax 134) (mRet 134) ∈ lw_good := gm5 (i := 115) rfl rfl
set_option maxRecDepth 20000 in
theorem cw135 : Cond.code (mNm 135) (mCode 135) (mMax 135) (mRet 135) ∈ lw_good := gm5 (i := 147) rfl rfl
set_option maxRecDepth 20000 in
theorem cw136 : Cond.code (mNm 136) (mCode 136) (mMax 136) (mRet 136) ∈ lw_good := gm5 (i := 178) rfl rfl
set_option maxRecDepth 20000 in
theorem cw137 : Cond.code (mNm 137) (mCode 137) (mMax 137) (mRet 137) ∈ lw_good := gm5 (i := 189) rfl rfl
set_option maxRecDepth 20000 in
theorem cw138 : Cond.code (mNm 138) (mCode 138) (mMax 138) (mRet 138) ∈ lw_good := gm5 (i := 201) rfl rfl
set_option maxRecDepth 20000 in
theorem cw139 : Cond.code (mNm 139) (mCode 139) (mMax 139) (mRet 139) ∈ lw_good := gm5 (i := 205) rfl rfl
set_option maxRecDepth 20000 in
theorem cw140 : Cond.code (mNm 140) (mCode 140) (mMax 140) (mRet 140) ∈ lw_good := gm5 (i := 214) rfl rfl
set_option maxRecDepth 20000 in
theorem cw141 : Cond.code (mNm 141) (mCode 141) (mMax 141) (mRet 141) ∈ lw_good := gm4 (i := 126) rfl rfl
set_option maxRecDepth 20000 in
theorem cw142 : Cond.code (mNm 142) (mCode 142) (mMax 142) (mRet 142) ∈ lw_good := gm4 (i := 188) rfl rfl
set_option maxRecDepth 20000 in
theorem cw143 : Cond.code (mNm 143) (mCode 143) (mMax 143) (mRet 143) ∈ lw_good := gm5 (i := 12) rfl rfl
set_option maxRecDepth 20000 in
theorem cw144 : Cond.code (mNm 144) (mCode 144) (mMax 144) (mRet 144) ∈ lw_good := gm5 (i := 48) rfl rfl
set_option maxRecDepth 20000 in
theorem cw145 : Cond.code (mNm 145) (mCode 145) (mMax 145) (mRet 145) ∈ lw_good := gm5 (i := 82) rfl rfl
set_option maxRecDepth 20000 in
theorem cw146 : Cond.code (mNm 146) (mCode 146) (mMax 146) (mRet 146) ∈ lw_good := gm5 (i := 15) rfl rfl
set_option maxRecDepth 20000 in
theorem cw147 : Cond.code (mNm 147) (mCode 147) (mMax 147) (mRet 147) ∈ lw_good := gm3 (i := 159) rfl rfl
set_option maxRecDepth 20000 in
theorem cw148 : Cond.code (mNm 148) (mCode 148) (mMax 148) (mRet 148) ∈ lw_good := gm2 (i := 175) rfl rfl
set_option maxRecDepth 20000 in
theorem cw149 : Cond.code (mNm 149) (mCode 149) (mMax 149) (mRet 149) ∈ lw_good := gm2 (i := 229) rfl rfl
set_option maxRecDepth 20000 in
theorem cw150 : Cond.code (mNm 150) (mCode 150) (mMax 150) (mRet 150) ∈ lw_good := gm4 (i := 239) rfl rfl
set_option maxRecDepth 20000 in
theorem cw151 : Cond.code (mNm 151) (mCode 151) (mMax 151) (mRet 151) ∈ lw_good := gm3 (i := 60) rfl rfl
set_option maxRecDepth 20000 in
theorem cw152 : Cond.code (mNm 152) (mCode 152) (mMax 152) (mRet 152) ∈ lw_good := gm5 (i := 94) rfl rfl
set_option maxRecDepth 20000 in
theorem cw153 : Cond.code (mNm 153) (mCode 153) (mMax 153) (mRet 153) ∈ lw_good := gm5 (i := 185) rfl rfl
set_option maxRecDepth 20000 in
theorem cw154 : Cond.code (mNm 154) (mCode 154) (mMax 154) (mRet 154) ∈ lw_good := gm5 (i := 219) rfl rfl
set_option maxRecDepth 20000 in
theorem cw155 : Cond.code (mNm 155) (mCode 155) (mMax 155) (mRet 155) ∈ lw_good := gm6 (i := 194) rfl rfl
set_option maxRecDepth 20000 in
theorem cw156 : Cond.code (mNm 156) (mCode 156) (mMax 156) (mRet 156) ∈ lw_good := gm8 (i := 159) rfl rfl
set_option maxRecDepth 20000 in
theorem cw157 : Cond.code (mNm 157) (mCode 157) (mMax 157) (mRet 157) ∈ lw_good := gm8 (i := 152) rfl rfl
set_option maxRecDepth 20000 in
theorem cw158 : Cond.code (mNm 158) (mCode 158) (mMax 158) (mRet 158) ∈ lw_good := gm8 (i := 178) rfl rfl
set_option maxRecDepth 20000 in
theorem cw159 : Cond.code (mNm 159) (mCode 159) (mMax 159) (mRet 159) ∈ lw_good := gm6 (i := 237) rfl rfl
set_option maxRecDepth 20000 in
theorem cw160 : Cond.code (mNm 160) (mCode 160) (mMax 160) (mRet 160) ∈ lw_good := gm7 (i := 140) rfl rfl
set_option maxRecDepth 20000 in
theorem cw161 : Cond.code (mNm 161) (mCode 161) (mMax 161) (mRet 161) ∈ lw_good := gm7 (i := 200) rfl rfl
set_option maxRecDepth 20000 in
theorem cw162 : Cond.code (mNm 162) (mCode 162) (mMax 162) (mRet 162) ∈ lw_good := gm6 (i := 190) rfl rfl
set_option maxRecDepth 20000 in
theorem cw163 : Cond.code (mNm 163) (mCode 163) (mMax 163) (mRet 163) ∈ lw_good := gm6 (i := 198) rfl rfl
set_option maxRecDepth 20000 in
theorem cw164 : Cond.code (mNm 164) (mCode 164) (mMax 164) (mRet 164) ∈ lw_good := gm6 (i := 204) rfl rfl
set_option maxRecDepth 20000 in
theorem cw165 : Cond.code (mNm 165) (mCode 165) (mMax 165) (mRet 165) ∈ lw_good := gm6 (i := 208) rfl rfl
set_option maxRecDepth 20000 in
theorem cw166 : Cond.code (mNm 166) (mCode 166) (mMax 166) (mRet 166) ∈ lw_good := gm6 (i := 212) rfl rfl
set_option maxRecDepth 20000 in
theorem cw167 : Cond.code (mNm 167) (mCode 167) (mMax 167) (mRet 167) ∈ lw_good := gm6 (i := 223) rfl rfl
set_option maxRecDepth 20000 in
theorem cw168 : Cond.code (mNm 168) (mCode 168) (mMax 168) (mRet 168) ∈ lw_good := gm6 (i := 220) rfl rfl
set_option maxRecDepth 20000 in
theorem cw169 : Cond.code (mNm 169) (mCode 169) (mMax 169) (mRet 169) ∈ lw_good := gm6 (i := 216) rfl rfl
set_option maxRecDepth 20000 in
theorem cw170 : Cond.code (mNm 170) (mCode 170) (mMax 170) (mRet 170) ∈ lw_good := gm6 (i := 229) rfl rfl
set_option maxRecDepth 20000 in
theorem cw171 : Cond.code (mNm 171) (mCode 171) (mMax 171) (mRet 171) ∈ lw_good := gm7 (i := 89) rfl rfl
set_option maxRecDepth 20000 in
theorem cw172 : Cond.code (mNm 172) (mCode 172) (mMax 172) (mRet 172) ∈ lw_good := gm7 (i := 12) rfl rfl
set_option maxRecDepth 20000 in
theorem cw173 : Cond.code (mNm 173) (mCode 173) (mMax 173) (mRet 173) ∈ lw_good := gm7 (i := 30) rfl rfl
set_option maxRecDepth 20000 in
theorem cw174 : Cond.code (mNm 174) (mCode 174) (mMax 174) (mRet 174) ∈ lw_good := gm7 (i := 9) rfl rfl
set_option maxRecDepth 20000 in
theorem cw175 : Cond.code (mNm 175) (mCode 175) (mMax 175) (mRet 175) ∈ lw_good := gm7 (i := 5) rfl rfl
set_option maxRecDepth 20000 in
theorem cw176 : Cond.code (mNm 176) (mCode 176) (mMax 176) (mRet 176) ∈ lw_good := gm7 (i := 73) rfl rfl
set_option maxRecDepth 20000 in
theorem cw177 : Cond.code (mNm 177) (mCode 177) (mMax 177) (mRet 177) ∈ lw_good := gm7 (i := 24) rfl rfl
set_option maxRecDepth 20000 in
theorem cw178 : Cond.code (mNm 178) (mCode 178) (mMax 178) (mRet 178) ∈ lw_good := gm7 (i := 101) rfl rfl
set_option maxRecDepth 20000 in
theorem cw179 : Cond.code (mNm 179) (mCode 179) (mMax 179) (mRet 179) ∈ lw_good := gm7 (i := 86) rfl rfl
set_option maxRecDepth 20000 in
theorem cw180 : Cond.code (mNm 180) (mCode 180) (mMax 180) (mRet 180) ∈ lw_good := gm7 (i := 82) rfl rfl
set_option maxRecDepth 20000 in
theorem cw181 : Cond.code (mNm 181) (mCode 181) (mMax 181) (mRet 181) ∈ lw_good := gm7 (i := 78) rfl rfl
set_option maxRecDepth 20000 in
theorem cw182 : Cond.code (mNm 182) (mCode 182) (mMax 182) (mRet 182) ∈ lw_good := gm7 (i := 69) rfl rfl
set_option maxRecDepth 20000 in
theorem cw183 : Cond.code (mNm 183) (mCode 183) (mMax 183) (mRet 183) ∈ lw_good := gm7 (i := 65) rfl rfl
set_option maxRecDepth 20000 in
theorem cw184 : Cond.code (mNm 184) (mCode 184) (mMax 184) (mRet 184) ∈ lw_good := gm7 (i := 61) rfl rfl
set_option maxRecDepth 20000 in
theorem cw185 : Cond.code (mNm 185) (mCode 185) (mMax 185) (mRet 185) ∈ lw_good := gm7 (i := 118) rfl rfl
set_option maxRecDepth 20000 in
theorem cw186 : Cond.code (mNm 186) (mCode 186) (mMax 186) (mRet 186) ∈ lw_good := gm7 (i := 126) rfl rfl
set_option maxRecDepth 20000 in
theorem cw187 : Cond.code (mNm 187) (mCode 187) (mMax 187) (mRet 187) ∈ lw_good := gm7 (i := 114) rfl rfl
set_option maxRecDepth 20000 in
theorem cw188 : Cond.code (mNm 188) (mCode 188) (mMax 188) (mRet 188) ∈ lw_good := gm7 (i := 122) rfl rfl
set_option maxRecDepth 20000 in
theorem cw189 : Cond.code (mNm 189) (mCode 189) (mMax 189) (mRet 189) ∈ lw_good := gm7 (i := 109) rfl rfl
set_option maxRecDepth 20000 in
theorem cw190 : Cond.code (mNm 190) (mCode 190) (mMax 190) (mRet 190) ∈ lw_good := gm7 (i := 105) rfl rfl
set_option maxRecDepth 20000 in
theorem cw191 : Cond.code (mNm 191) (mCode 191) (mMax 191) (mRet 191) ∈ lw_good := gm7 (i := 38) rfl rfl
set_option maxRecDepth 20000 in
theorem cw192 : Cond.code (mNm 192) (mCode 192) (mMax 192) (mRet 192) ∈ lw_good := gm7 (i := 44) rfl rfl
set_option maxRecDepth 20000 in
theorem cw193 : Cond.code (mNm 193) (mCode 193) (mMax 193) (mRet 193) ∈ lw_good := gm7 (i := 48) rfl rfl
set_option maxRecDepth 20000 in
theorem cw194 : Cond.code (mNm 194) (mCode 194) (mMax 194) (mRet 194) ∈ lw_good := gm7 (i := 34) rfl rfl
set_option maxRecDepth 20000 in
theorem cw195 : Cond.code (mNm 195) (mCode 195) (mMax 195) (mRet 195) ∈ lw_good := gm7 (i := 1) rfl rfl
set_option maxRecDepth 20000 in
theorem cw196 : Cond.code (mNm 196) (mCode 196) (mMax 196) (mRet 196) ∈ lw_good := gm6 (i := 233) rfl rfl
set_option maxRecDepth 20000 in
theorem cw197 : Cond.code (mNm 197) (mCode 197) (mMax 197) (mRet 197) ∈ lw_good := gm7 (i := 56) rfl rfl
set_option maxRecDepth 20000 in
theorem cw198 : Cond.code (mNm 198) (mCode 198) (mMax 198) (mRet 198) ∈ lw_good := gm7 (i := 52) rfl rfl
set_option maxRecDepth 20000 in
theorem cw199 : Cond.code (mNm 199) (mCode 199) (mMax 199) (mRet 199) ∈ lw_good := gm7 (i := 208) rfl rfl
set_option maxRecDepth 20000 in
theorem cw200 : Cond.code (mNm 200) (mCode 200) (mMax 200) (mRet 200) ∈ lw_good := gm7 (i := 222) rfl rfl
set_option maxRecDepth 20000 in
theorem cw201 : Cond.code (mNm 201) (mCode 201) (mMax 201) (mRet 201) ∈ lw_good := gm7 (i := 219) rfl rfl
set_option maxRecDepth 20000 in
theorem cw202 : Cond.code (mNm 202) (mCode 202) (mMax 202) (mRet 202) ∈ lw_good := gm7 (i := 216) rfl rfl
set_option maxRecDepth 20000 in
theorem cw203 : Cond.code (mNm 203) (mCode 203) (mMax 203) (mRet 203) ∈ lw_good := gm7 (i := 132) rfl rfl
set_option maxRecDepth 20000 in
theorem cw204 : Cond.code (mNm 204) (mCode 204) (mMax 204) (mRet 204) ∈ lw_good := gm7 (i := 152) rfl rfl
set_option maxRecDepth 20000 in
theorem cw205 : Cond.code (mNm 205) (mCode 205) (mMax 205) (mRet 205) ∈ lw_good := gm7 (i := 148) rfl rfl
set_option maxRecDepth 20000 in
theorem cw206 : Cond.code (mNm 206) (mCode 206) (mMax 206) (mRet 206) ∈ lw_good := gm7 (i := 144) rfl rfl
set_option maxRecDepth 20000 in
theorem cw207 : Cond.code (mNm 207) (mCode 207) (mMax 207) (mRet 207) ∈ lw_good := gm7 (i := 136) rfl rfl
set_option maxRecDepth 20000 in
theorem cw208 : Cond.code (mNm 208) (mCode 208) (mMax 208) (mRet 208) ∈ lw_good := gm7 (i := 156) rfl rfl
set_option maxRecDepth 20000 in
theorem cw209 : Cond.code (mNm 209) (mCode 209) (mMax 209) (mRet 209) ∈ lw_good := gm7 (i := 192) rfl rfl
set_option maxRecDepth 20000 in
theorem cw210 : Cond.code (mNm 210) (mCode 210) (mMax 210) (mRet 210) ∈ lw_good := gm7 (i := 180) rfl rfl
set_option maxRecDepth 20000 in
theorem cw211 : Cond.code (mNm 211) (mCode 211) (mMax 211) (mRet 211) ∈ lw_good := gm7 (i := 176) rfl rfl
set_option maxRecDepth 20000 in
theorem cw212 : Cond.code (mNm 212) (mCode 212) (mMax 212) (mRet 212) ∈ lw_good := gm7 (i := 188) rfl rfl
set_option maxRecDepth 20000 in
theorem cw213 : Cond.code (mNm 213) (mCode 213) (mMax 213) (mRet 213) ∈ lw_good := gm7 (i := 184) rfl rfl
set_option maxRecDepth 20000 in
theorem cw214 : Cond.code (mNm 214) (mCode 214) (mMax 214) (mRet 214) ∈ lw_good := gm7 (i := 172) rfl rfl
set_option maxRecDepth 20000 in
theorem cw215 : Cond.code (mNm 215) (mCode 215) (mMax 215) (mRet 215) ∈ lw_good := gm7 (i := 168) rfl rfl
set_option maxRecDepth 20000 in
theorem cw216 : Cond.code (mNm 216) (mCode 216) (mMax 216) (mRet 216) ∈ lw_good := gm7 (i := 164) rfl rfl
set_option maxRecDepth 20000 in
theorem cw217 : Cond.code (mNm 217) (mCode 217) (mMax 217) (mRet 217) ∈ lw_good := gm7 (i := 160) rfl rfl
set_option maxRecDepth 20000 in
theorem cw218 : Cond.code (mNm 218) (mCode 218) (mMax 218) (mRet 218) ∈ lw_good := gm7 (i := 196) rfl rfl
set_option maxRecDepth 20000 in
theorem cw219 : Cond.code (mNm 219) (mCode 219) (mMax 219) (mRet 219) ∈ lw_good := gm7 (i := 212) rfl rfl
set_option maxRecDepth 20000 in
theorem cw220 : Cond.code (mNm 220) (mCode 220) (mMax 220) (mRet 220) ∈ lw_good := gm7 (i := 204) rfl rfl
set_option maxRecDepth 20000 in
theorem cw221 : Cond.code (mNm 221) (mCode 221) (mMax 221) (mRet 221) ∈ lw_good := gm8 (i := 2) rfl rfl
set_option maxRecDepth 20000 in
theorem cw222 : Cond.code (mNm 222) (mCode 222) (mMax 222) (mRet 222) ∈ lw_good := gm7 (i := 234) rfl rfl
set_option maxRecDepth 20000 in
theorem cw223 : Cond.code (mNm 223) (mCode 223) (mMax 223) (mRet 223) ∈ lw_good := gm7 (i := 238) rfl rfl
set_option maxRecDepth 20000 in
theorem cw224 : Cond.code (mNm 224) (mCode 224) (mMax 224) (mRet 224) ∈ lw_good := gm7 (i := 230) rfl rfl
set_option maxRecDepth 20000 in
theorem cw225 : Cond.code (mNm 225) (mCode 225) (mMax 225) (mRet 225) ∈ lw_good := gm7 (i := 226) rfl rfl
set_option maxRecDepth 20000 in
theorem cw226 : Cond.code (mNm 226) (mCode 226) (mMax 226) (mRet 226) ∈ lw_good := gm8 (i := 6) rfl rfl
set_option maxRecDepth 20000 in
theorem cw227 : Cond.code (mNm 227) (mCode 227) (mMax 227) (mRet 227) ∈ lw_good := gm8 (i := 10) rfl rfl
set_option maxRecDepth 20000 in
theorem cw228 : Cond.code (mNm 228) (mCode 228) (mMax 228) (mRet 228) ∈ lw_good := gm8 (i := 35) rfl rfl
set_option maxRecDepth 20000 in
theorem cw229 : Cond.code (mNm 229) (mCode 229) (mMax 229) (mRet 229) ∈ lw_good := gm8 (i := 31) rfl rfl
set_option maxRecDepth 20000 in
theorem cw230 : Cond.code (mNm 230) (mCode 230) (mMax 230) (mRet 230) ∈ lw_good := gm8 (i := 27) rfl rfl
set_option maxRecDepth 20000 in
theorem cw231 : Cond.code (mNm 231) (mCode 231) (mMax 231) (mRet 231) ∈ lw_good := gm8 (i := 39) rfl rfl
set_option maxRecDepth 20000 in
theorem cw232 : Cond.code (mNm 232) (mCode 232) (mMax 232) (mRet 232) ∈ lw_good := gm8 (i := 47) rfl rfl
set_option maxRecDepth 20000 in
theorem cw233 : Cond.code (mNm 233) (mCode 233) (mMax 233) (mRet 233) ∈ lw_good := gm8 (i := 52) rfl rfl
set_option maxRecDepth 20000 in
theorem cw234 : Cond.code (mNm 234) (mCode 234) (mMax 234) (mRet 234) ∈ lw_good := gm8 (i := 44) rfl rfl
set_option maxRecDepth 20000 in
theorem cw235 : Cond.code (mNm 235) (mCode 235) (mMax 235) (mRet 235) ∈ lw_good := gm8 (i := 62) rfl rfl
set_option maxRecDepth 20000 in
theorem cw236 : Cond.code (mNm 236) (mCode 236) (mMax 236) (mRet 236) ∈ lw_good := gm8 (i := 58) rfl rfl
set_option maxRecDepth 20000 in
theorem cw237 : Cond.code (mNm 237) (mCode 237) (mMax 237) (mRet 237) ∈ lw_good := gm8 (i := 23) rfl rfl
set_option maxRecDepth 20000 in
theorem cw238 : Cond.code (mNm 238) (mCode 238) (mMax 238) (mRet 238) ∈ lw_good := gm8 (i := 19) rfl rfl
set_option maxRecDepth 20000 in
theorem cw239 : Cond.code (mNm 239) (mCode 239) (mMax 239) (mRet 239) ∈ lw_good := gm8 (i := 15) rfl rfl
set_option maxRecDepth 20000 in
theorem cw240 : Cond.code (mNm 240) (mCode 240) (mMax 240) (mRet 240) ∈ lw_good := gm8 (i := 66) rfl rfl
set_option maxRecDepth 20000 in
theorem cw241 : Cond.code (mNm 241) (mCode 241) (mMax 241) (mRet 241) ∈ lw_good := gm8 (i := 76) rfl rfl
set_option maxRecDepth 20000 in
theorem cw242 : Cond.code (mNm 242) (mCode 242) (mMax 242) (mRet 242) ∈ lw_good := gm8 (i := 84) rfl rfl
set_option maxRecDepth 20000 in
theorem cw243 : Cond.code (mNm 243) (mCode 243) (mMax 243) (mRet 243) ∈ lw_good := gm8 (i := 80) rfl rfl
set_option maxRecDepth 20000 in
theorem cw244 : Cond.code (mNm 244) (mCode 244) (mMax 244) (mRet 244) ∈ lw_good := gm8 (i := 70) rfl rfl
set_option maxRecDepth 20000 in
theorem cw245 : Cond.code (mNm 245) (mCode 245) (mMax 245) (mRet 245) ∈ lw_good := gm8 (i := 88) rfl rfl
set_option maxRecDepth 20000 in
theorem cw246 : Cond.code (mNm 246) (mCode 246) (mMax 246) (mRet 246) ∈ lw_good := gm8 (i := 100) rfl rfl
set_option maxRecDepth 20000 in
theorem cw247 : Cond.code (mNm 247) (mCode 247) (mMax 247) (mRet 247) ∈ lw_good := gm8 (i := 104) rfl rfl
set_option maxRecDepth 20000 in
theorem cw248 : Cond.code (mNm 248) (mCode 248) (mMax 248) (mRet 248) ∈ lw_good := gm8 (i := 96) rfl rfl
set_option maxRecDepth 20000 in
theorem cw249 : Cond.code (mNm 249) (mCode 249) (mMax 249) (mRet 249) ∈ lw_good := gm8 (i := 92) rfl rfl
set_option maxRecDepth 20000 in
theorem cw250 : Cond.code (mNm 250) (mCode 250) (mMax 250) (mRet 250) ∈ lw_good := gm8 (i := 108) rfl rfl
set_option maxRecDepth 20000 in
theorem cw251 : Cond.code (mNm 251) (mCode 251) (mMax 251) (mRet 251) ∈ lw_good := gm8 (i := 112) rfl rfl
set_option maxRecDepth 20000 in
theorem cw252 : Cond.code (mNm 252) (mCode 252) (mMax 252) (mRet 252) ∈ lw_good := gm8 (i := 124) rfl rfl
set_option maxRecDepth 20000 in
theorem cw253 : Cond.code (mNm 253) (mCode 253) (mMax 253) (mRet 253) ∈ lw_good := gm8 (i := 128) rfl rfl
set_option maxRecDepth 20000 in
theorem cw254 : Cond.code (mNm 254) (mCode 254) (mMax 254) (mRet 254) ∈ lw_good := gm8 (i := 120) rfl rfl
set_option maxRecDepth 20000 in
theorem cw255 : Cond.code (mNm 255) (mCode 255) (mMax 255) (mRet 255) ∈ lw_good := gm8 (i := 116) rfl rfl
set_option maxRecDepth 20000 in
theorem cw256 : Cond.code (mNm 256) (mCode 256) (mMax 256) (mRet 256) ∈ lw_good := gm8 (i := 141) rfl rfl
set_option maxRecDepth 20000 in
theorem cw257 : Cond.code (mNm 257) (mCode 257) (mMax 257) (mRet 257) ∈ lw_good := gm8 (i := 137) rfl rfl
set_option maxRecDepth 20000 in
theorem cw258 : Cond.code (mNm 258) (mCode 258) (mMax 258) (mRet 258) ∈ lw_good := gm8 (i := 132) rfl rfl
set_option maxRecDepth 20000 in
theorem cw259 : Cond.code (mNm 259) (mCode 259) (mMax 259) (mRet 259) ∈ lw_good := gm8 (i := 149) rfl rfl
set_option maxRecDepth 20000 in
theorem cw260 : Cond.code (mNm 260) (mCode 260) (mMax 260) (mRet 260) ∈ lw_good := gm8 (i := 163) rfl rfl
set_option maxRecDepth 20000 in
theorem cw261 : Cond.code (mNm 261) (mCode 261) (mMax 261) (mRet 261) ∈ lw_good := gm8 (i := 156) rfl rfl
set_option maxRecDepth 20000 in
theorem cw262 : Cond.code (mNm 262) (mCode 262) (mMax 262) (mRet 262) ∈ lw_good := gm8 (i := 145) rfl rfl
set_option maxRecDepth 20000 in
theorem cw263 : Cond.code (mNm 263) (mCode 263) (mMax 263) (mRet 263) ∈ lw_good := gm8 (i := 175) rfl rfl
set_option maxRecDepth 20000 in
theorem cw264 : Cond.code (mNm 264) (mCode 264) (mMax 264) (mRet 264) ∈ lw_good := gm8 (i := 171) rfl rfl
set_option maxRecDepth 20000 in
theorem cw265 : Cond.code (mNm 265) (mCode 265) (mMax 265) (mRet 265) ∈ lw_good := gm8 (i := 167) rfl rfl
set_option maxRecDepth 20000 in
theorem cw266 : Cond.code (mNm 266) (mCode 266) (mMax 266) (mRet 266) ∈ lw_good := gm8 (i := 182) rfl rfl
set_option maxRecDepth 20000 in
theorem cw267 : Cond.code (mNm 267) (mCode 267) (mMax 267) (mRet 267) ∈ lw_good := gm8 (i := 186) rfl rfl
set_option maxRecDepth 20000 in
theorem cw268 : Cond.code (mNm 268) (mCode 268) (mMax 268) (mRet 268) ∈ lw_good := gm8 (i := 198) rfl rfl
set_option maxRecDepth 20000 in
theorem cw269 : Cond.code (mNm 269) (mCode 269) (mMax 269) (mRet 269) ∈ lw_good := gm8 (i := 194) rfl rfl
set_option maxRecDepth 20000 in
theorem cw270 : Cond.code (mNm 270) (mCode 270) (mMax 270) (mRet 270) ∈ lw_good := gm8 (i := 190) rfl rfl
set_option maxRecDepth 20000 in
theorem cw271 : Cond.code (mNm 271) (mCode 271) (mMax 271) (mRet 271) ∈ lw_good := gm8 (i := 202) rfl rfl
set_option maxRecDepth 20000 in
theorem cw272 : Cond.code (mNm 272) (mCode 272) (mMax 272) (mRet 272) ∈ lw_good := gm2 (i := 185) rfl rfl
set_option maxRecDepth 20000 in
theorem cw273 : Cond.code (mNm 273) (mCode 273) (mMax 273) (mRet 273) ∈ lw_good := gm3 (i := 78) rfl rfl
set_option maxRecDepth 20000 in
theorem cw274 : Cond.code (mNm 274) (mCode 274) (mMax 274) (mRet 274) ∈ lw_good := gm5 (i := 162) rfl rfl
set_option maxRecDepth 20000 in
theorem cw275 : Cond.code (mNm 275) (mCode 275) (mMax 275) (mRet 275) ∈ lw_good := gm2 (i := 233) rfl rfl
set_option maxRecDepth 20000 in
theorem cw276 : Cond.code (mNm 276) (mCode 276) (mMax 276) (mRet 276) ∈ lw_good := gm2 (i := 237) rfl rfl
set_option maxRecDepth 20000 in
theorem cw277 : Cond.code (mNm 277) (mCode 277) (mMax 277) (mRet 277) ∈ lw_good := gm3 (i := 7) rfl rfl
set_option maxRecDepth 20000 in
theorem cw278 : Cond.code (mNm 278) (mCode 278) (mMax 278) (mRet 278) ∈ lw_good := gm3 (i := 3) rfl rfl
set_option maxRecDepth 20000 in
theorem cw279 : Cond.code (mNm 279) (mCode 279) (mMax 279) (mRet 279) ∈ lw_good := gm3 (i := 10) rfl rfl
set_option maxRecDepth 20000 in
theorem cw280 : Cond.code (mNm 280) (mCode 280) (mMax 280) (mRet 280) ∈ lw_good := gm3 (i := 13) rfl rfl
set_option maxRecDepth 20000 in
theorem cw281 : Cond.code (mNm 281) (mCode 281) (mMax 281) (mRet 281) ∈ lw_good := gm3 (i := 18) rfl rfl
def mOk (y : Nat) : Prop := Cond.code (mNm y) (mCode y) (mMax y) (mRet y) ∈ lw_good ∧ mOwn y < 19 ∧ (mNm y).cls = clsN (mOwn y) ∧ mMax y ≤ 45
set_option maxRecDepth 20000 in
theorem mok_0 {y : Nat} (h : y < 16) (h0 : 0 ≤ y) : mOk y := by
  obtain ⟨z, rfl⟩ : ∃ z, y = 0 + z := ⟨y - 0, by omega⟩
  match z, h with
  | 0, _ => exact ⟨cw0, Nat.le_of_ble_eq_true rfl, rfl, Nat.le_of_ble_eq_true rfl⟩
  | 1, _ => exact ⟨cw1, Nat.le_of_ble_eq_true rfl, rfl, Nat.le_of_ble_eq_true rfl⟩
  | 2, _ => exact ⟨cw2, Nat.le_of_ble_eq_true rfl, rfl, Nat.le_of_ble_eq_true rfl⟩
  | 3, _ => exact ⟨cw3, Nat.le_of_ble_eq_true rfl, rfl, Nat.le_of_ble_eq_true rfl⟩
  | 4, _ => exact ⟨cw4, Nat.le_of_ble_eq_true rfl, rfl, Nat.le_of_ble_eq_true rfl⟩
  | 5, _ => exact ⟨cw5, Nat.le_of_ble_eq_true rfl, rfl, Nat.le_of_ble_eq_true rfl⟩
  | 6, _ => exact ⟨cw6, Nat.le_of_ble_eq_true rfl, rfl, Nat.le_of_ble_eq_true rfl⟩
  | 7, _ => exact ⟨cw7, Nat.le_of_ble_eq_true rfl, rfl, Nat.le_of_ble_eq_true rfl⟩
  | 8, _ => exact ⟨cw8, Nat.le_of_ble_eq_true rfl, rfl, Nat.le_of_ble_eq_true rfl⟩
  | 9, _ => exact ⟨cw9, Nat.le_of_ble_eq_true rfl, rfl, Nat.le_of_ble_eq_true rfl⟩
  | 10, _ => exact ⟨cw10, Nat.le_of_ble_eq_true rfl, rfl, Nat.le_of_ble_eq_true rfl⟩
  | 11, _ => exact ⟨cw11, Nat.le_of_ble_eq_true rfl, rfl, Nat.le_of_ble_eq_true rfl⟩
  | 12, _ => exact ⟨cw12, Nat.le_of_ble_eq_true rfl, rfl, Nat.le_of_ble_eq_true rfl⟩
  | 13, _ => exact ⟨cw13, Nat.le_of_ble_eq_true rfl, rfl, Nat.le_of_ble_eq_true rfl⟩
  | 14, _ => exact ⟨cw14, Nat.le_of_ble_eq_true rfl, rfl, Nat.le_of_ble_eq_true rfl⟩
  | 15, _ => exact ⟨cw15, Nat.le_of_ble_eq_true rfl, rfl, Nat.le_of_ble_eq_true rfl⟩
  | n + 16, h => omega
set_option maxRecDepth 20000 in
theorem mok_1 {y : Nat} (h : y < 32) (h0 : 16 ≤ y) : mOk y := by
  obtain ⟨z, rfl⟩ : ∃ z, y = 16 + z := ⟨y - 16, by omega⟩
  match z, h with
  | 0, _ => exact ⟨cw16, Nat.le_of_ble_eq_true rfl, rfl, Nat.le_of_ble_eq_true rfl⟩
  | 1, _ => exact ⟨cw17, Nat.le_of_ble_eq_true rfl, rfl, Nat.le_of_ble_eq_true rfl⟩
  | 2, _ => exact ⟨cw18, Nat.le_of_ble_eq_true rfl, rfl, Nat.le_of_ble_eq_true rfl⟩
  | 3, _ => exact ⟨cw19, Nat.le_of_ble_eq_true rfl, rfl, Nat.le_of_ble_eq_true rfl⟩
  | 4, _ => exact ⟨cw20, Nat.le_of_ble_eq_true rfl, rfl, Nat.le_of_ble_eq_true rfl⟩
  | 5, _ => exact ⟨cw21, Nat.le_of_ble_eq_true rfl, rfl, Nat.le_of_ble_eq_true rfl⟩
  | 6, _ => exact ⟨cw22, Nat.le_of_ble_eq_true rfl, rfl, Nat.le_of_ble_eq_true rfl⟩
  | 7, _ => exact ⟨cw23, Nat.le_of_ble_eq_true rfl, rfl, Nat.le_of_ble_eq_true rfl⟩
  | 8, _ => exact ⟨cw24, Nat.le_of_ble_eq_true rfl, rfl, Nat.le_of_ble_eq_true rfl⟩
  | 9, _ => exact ⟨cw25, Nat.le_of_ble_eq_true rfl, rfl, Nat.le_of_ble_eq_true rfl⟩
  | 10, _ => exact ⟨cw26, Nat.le_of_ble_eq_true rfl, rfl, Nat.le_of_ble_eq_true rfl⟩
  | 11, _ => exact ⟨cw27, Nat.le_of_ble_eq_true rfl, rfl, Nat.le_of_ble_eq_true rfl⟩
  | 12, _ => exact ⟨cw28, Nat.le_of_ble_eq_true rfl, rfl, Nat.le_of_ble_eq_true rfl⟩
  | 13, _ => exact ⟨cw29, Nat.le_of_ble_eq_true rfl, rfl, Nat.le_of_ble_eq_true rfl⟩
  | 14, _ => exact ⟨cw30, Nat.le_of_ble_eq_true rfl, rfl, Nat.le_of_ble_eq_true rfl⟩
  | 15, _ => exact ⟨cw31, Nat.le_of_ble_eq_true rfl, rfl, Nat.le_of_ble_eq_true rfl⟩
  | n + 16, h => omega
set_option maxRecDepth 20000 in
theorem mok_2 {y : Nat} (h : y < 48) (h0 : 32 ≤ y) : mOk y := by
  obtain ⟨z, rfl⟩ : ∃ z, y = 32 + z := ⟨y - 32, by omega⟩
  match z, h with
  | 0, _ => exact ⟨cw32, Nat.le_of_ble_eq_true rfl, rfl, Nat.le_of_ble_eq_true rfl⟩
  | 1, _ => exact ⟨cw33, Nat.le_of_ble_eq_true rfl, rfl, Nat.le_of_ble_eq_true rfl⟩
  | 2, _ => exact ⟨cw34, Nat.le_of_ble_eq_true rfl, rfl, Nat.le_of_ble_eq_true rfl⟩
  | 3, _ => exact ⟨cw35, Nat.le_of_ble_eq_true rfl, rfl, Nat.le_of_ble_eq_true rfl⟩
  | 4, _ => exact ⟨cw36, Nat.le_of_ble_eq_true rfl, rfl, Nat.le_of_ble_eq_true rfl⟩
  | 5, _ => exact ⟨cw37, Nat.le_of_ble_eq_true rfl, rfl, Nat.le_of_ble_eq_true rfl⟩
  | 6, _ => exact ⟨cw38, Nat.le_of_ble_eq_true rfl, rfl, Nat.le_of_ble_eq_true rfl⟩
  | 7, _ => exact ⟨cw39, Nat.le_of_ble_eq_true rfl, rfl, Nat.le_of_ble_eq_true rfl⟩
  | 8, _ => exact ⟨cw40, Nat.le_of_ble_eq_true rfl, rfl, Nat.le_of_ble_eq_true rfl⟩
  | 9, _ => exact ⟨cw41, Nat.le_of_ble_eq_true rfl, rfl, Nat.le_of_ble_eq_true rfl⟩
  | 10, _ => exact ⟨cw42, Nat.le_of_ble_eq_true rfl, rfl, Nat.le_of_ble_eq_true rfl⟩
  | 11, _ => exact ⟨cw43, Nat.le_of_ble_eq_true rfl, rfl, Nat.le_of_ble_eq_true rfl⟩
  | 12, _ => exact ⟨cw44, Nat.le_of_ble_eq_true rfl, rfl, Nat.le_of_ble_eq_true rfl⟩
  | 13, _ => exact ⟨cw45, Nat.le_of_ble_eq_true rfl, rfl, Nat.le_of_ble_eq_true rfl⟩
  | 14, _ => exact ⟨cw46, Nat.le_of_ble_eq_true rfl, rfl, Nat.le_of_ble_eq_true rfl⟩
  | 15, _ => exact ⟨cw47, Nat.le_of_ble_eq_true rfl, rfl, Nat.le_of_ble_eq_true rfl⟩
  | n + 16, h => omega
set_option maxRecDepth 20000 in
theorem mok_3 {y : Nat} (h : y < 64) (h0 : 48 ≤ y) : mOk y := by
  obtain ⟨z, rfl⟩ : ∃ z, y = 48 + z := ⟨y - 48, by omega⟩
  match z, h with
  | 0, _ => exact ⟨cw48, Nat.le_of_ble_eq_true rfl, rfl, Nat.le_of_ble_eq_true rfl⟩
  | 1, _ => exact ⟨cw49, Nat.le_of_ble_eq_true rfl, rfl, Nat.le_of_ble_eq_true rfl⟩
  | 2, _ => exact ⟨cw50, Nat.le_of_ble_eq_true rfl, rfl, Nat.le_of_ble_eq_true rfl⟩
  | 3, _ => exact ⟨cw51, Nat.le_of_ble_eq_true rfl, rfl, Nat.le_of_ble_eq_true rfl⟩
  | 4, _ => exact ⟨cw52, Nat.le_of_ble_eq_true rfl, rfl, Nat.le_of_ble_eq_true rfl⟩
  | 5, _ => exact ⟨cw53, Nat.le_of_ble_eq_true rfl, rfl, Nat.le_of_ble_eq_true rfl⟩
  | 6, _ => exact ⟨cw54, Nat.le_of_ble_eq_true rfl, rfl, Nat.le_of_ble_eq_true rfl⟩
  | 7, _ => exact ⟨cw55, Nat.le_of_ble_eq_true rfl, rfl, Nat.le_of_ble_eq_true rfl⟩
  | 8, _ => exact ⟨cw56, Nat.le_of_ble_eq_true rfl, rfl, Nat.le_of_ble_eq_true rfl⟩
  | 9, _ => exact ⟨cw57, Nat.le_of_ble_eq_true rfl, rfl, Nat.le_of_ble_eq_true rfl⟩
  | 10, _ => exact ⟨cw58, Nat.le_of_ble_eq_true rfl, rfl, Nat.le_of_ble_eq_true rfl⟩
  | 11, _ => exact ⟨cw59, Nat.le_of_ble_eq_true rfl, rfl, Nat.le_of_ble_eq_true rfl⟩
  | 12, _ => exact ⟨cw60, Nat.le_of_ble_eq_true rfl, rfl, Nat.le_of_ble_eq_true rfl⟩
  | 13, _ => exact ⟨cw61, Nat.le_of_ble_eq_true rfl, rfl, Nat.le_of_ble_eq_true rfl⟩
  | 14, _ => exact ⟨cw62, Nat.le_of_ble_eq_true rfl, rfl, Nat.le_of_ble_eq_true rfl⟩
  | 15, _ => exact ⟨cw63, Nat.le_of_ble_eq_true rfl, rfl, Nat.le_of_ble_eq_true rfl⟩
  | n + 16, h => omega
set_option maxRecDepth 20000 in
theorem mok_4 {y : Nat} (h : y < 80) (h0 : 64 ≤ y) : mOk y := by
  obtain ⟨z, rfl⟩ : ∃ z, y = 64 + z := ⟨y - 64, by omega⟩
  match z, h with
  | 0, _ => exact ⟨cw64, Nat.le_of_ble_eq_true rfl, rfl, Nat.le_of_ble_eq_true rfl⟩
  | 1, _ => exact ⟨cw65, Nat.le_of_ble_eq_true rfl, rfl, Nat.le_of_ble_eq_true rfl⟩
  | 2, _ => exact ⟨cw66, Nat.le_of_ble_eq_true rfl, rfl, Nat.le_of_ble_eq_true rfl⟩
  | 3, _ => exact ⟨cw67, Nat.le_of_ble_eq_true rfl, rfl, Nat.le_of_ble_eq_true rfl⟩
  | 4, _ => exact ⟨cw68, Nat.le_of_ble_eq_true rfl, rfl, Nat.le_of_ble_eq_true rfl⟩
  | 5, _ => exact ⟨cw69, Nat.le_of_ble_eq_true rfl, rfl, Nat.le_of_ble_eq_true rfl⟩
  | 6, _ => exact ⟨cw70, Nat.le_of_ble_eq_true rfl, rfl, Nat.le_of_ble_eq_true rfl⟩
  | 7, _ => exact ⟨cw71, Nat.le_of_ble_eq_true rfl, rfl, Nat.le_of_ble_eq_true rfl⟩
  | 8, _ => exact ⟨cw72, Nat.le_of_ble_eq_true rfl, rfl, Nat.le_of_ble_eq_true rfl⟩
  | 9, _ => exact ⟨cw73, Nat.le_of_ble_eq_true rfl, rfl, Nat.le_of_ble_eq_true rfl⟩
  | 10, _ => exact ⟨cw74, Nat.le_of_ble_eq_true rfl, rfl, Nat.le_of_ble_eq_true rfl⟩
  | 11, _ => exact ⟨cw75, Nat.le_of_ble_eq_true rfl, rfl, Nat.le_of_ble_eq_true rfl⟩
  | 12, _ => exact ⟨cw76, Nat.le_of_ble_eq_true rfl, rfl, Nat.le_of_ble_eq_true rfl⟩
  | 13, _ => exact ⟨cw77, Nat.le_of_ble_eq_true rfl, rfl, Nat.le_of_ble_eq_true rfl⟩
  | 14, _ => exact ⟨cw78, Nat.le_of_ble_eq_true rfl, rfl, Nat.le_of_ble_eq_true rfl⟩
  | 15, _ => exact ⟨cw79, Nat.le_of_ble_eq_true rfl, rfl, Nat.le_of_ble_eq_true rfl⟩
  | n + 16, h => omega
set_option maxRecDepth 20000 in
theorem mok_5 {y : Nat} (h : y < 96) (h0 : 80 ≤ y) : mOk y := by
  obtain ⟨z, rfl⟩ : ∃ z, y = 80 + z := ⟨y - 80, by omega⟩
  match z, h with
  | 0, _ => exact ⟨cw80, Nat.le_of_ble_eq_true rfl, rfl, Nat.le_of_ble_eq_true rfl⟩
  | 1, _ => exact ⟨cw81, Nat.le_of_ble_eq_true rfl, rfl, Nat.le_of_ble_eq_true rfl⟩
  | 2, _ => exact ⟨cw82, Nat.le_of_ble_eq_true rfl, rfl, Nat.le_of_ble_eq_true rfl⟩
  | 3, _ => exact ⟨cw83, Nat.le_of_ble_eq_true rfl, rfl, Nat.le_of_ble_eq_true rfl⟩
  | 4, _ => exact ⟨cw84, Nat.le_of_ble_eq_true rfl, rfl, Nat.le_of_ble_eq_true rfl⟩
  | 5, _ => exact ⟨cw85, Nat.le_of_ble_eq_true rfl, rfl, Nat.le_of_ble_eq_true rfl⟩
  | 6, _ => exact ⟨cw86, Nat.le_of_ble_eq_true rfl, rfl, Nat.le_of_ble_eq_true rfl⟩
  | 7, _ => exact ⟨cw87, Nat.le_of_ble_eq_true rfl, rfl, Nat.le_of_ble_eq_true rfl⟩
  | 8, _ => exact ⟨cw88, Nat.le_of_ble_eq_true rfl, rfl, Nat.le_of_ble_eq_true rfl⟩
  | 9, _ => exact ⟨cw89, Nat.le_of_ble_eq_true rfl, rfl, Nat.le_of_ble_eq_true rfl⟩
  | 10, _ => exact ⟨cw90, Nat.le_of_ble_eq_true rfl, rfl, Nat.le_of_ble_eq_true rfl⟩
  | 11, _ => exact ⟨cw91, Nat.le_of_ble_eq_true rfl, rfl, Nat.le_of_ble_eq_true rfl⟩
  | 12, _ => exact ⟨cw92, Nat.le_of_ble_eq_true rfl, rfl, Nat.le_of_ble_eq_true rfl⟩
  | 13, _ => exact ⟨cw93, Nat.le_of_ble_eq_true rfl, rfl, Nat.le_of_ble_eq_true rfl⟩
  | 14, _ => exact ⟨cw94, Nat.le_of_ble_eq_true rfl, rfl, Nat.le_of_ble_eq_true rfl⟩
  | 15, _ => exact ⟨cw95, Nat.le_of_ble_eq_true rfl, rfl, Nat.le_of_ble_eq_true rfl⟩
  | n + 16, h => omega
set_option maxRecDepth 20000 in
theorem mok_6 {y : Nat} (h : y < 112) (h0 : 96 ≤ y) : mOk y := by
  obtain ⟨z, rfl⟩ : ∃ z, y = 96 + z := ⟨y - 96, by omega⟩
  match z, h with
  | 0, _ => exact ⟨cw96, Nat.le_of_ble_eq_true rfl, rfl, Nat.le_of_ble_eq_true rfl⟩
  | 1, _ => exact ⟨cw97, Nat.le_of_ble_eq_true rfl, rfl, Nat.le_of_ble_eq_true rfl⟩
  | 2, _ => exact ⟨cw98, Nat.le_of_ble_eq_true rfl, rfl, Nat.le_of_ble_eq_true rfl⟩
  | 3, _ => exact ⟨cw99, Nat.le_of_ble_eq_true rfl, rfl, Nat.le_of_ble_eq_true rfl⟩
  | 4, _ => exact ⟨cw100, Nat.le_of_ble_eq_true rfl, rfl, Nat.le_of_ble_eq_true rfl⟩
  | 5, _ => exact ⟨cw101, Nat.le_of_ble_eq_true rfl, rfl, Nat.le_of_ble_eq_true rfl⟩
  | 6, _ => exact ⟨cw102, Nat.le_of_ble_eq_true rfl, rfl, Nat.le_of_ble_eq_true rfl⟩
  | 7, _ => exact ⟨cw103, Nat.le_of_ble_eq_true rfl, rfl, Nat.le_of_ble_eq_true rfl⟩
  | 8, _ => exact ⟨cw104, Nat.le_of_ble_eq_true rfl, rfl, Nat.le_of_ble_eq_true rfl⟩
  | 9, _ => exact ⟨cw105, Nat.le_of_ble_eq_true rfl, rfl, Nat.le_of_ble_eq_true rfl⟩
  | 10, _ => exact ⟨cw106, Nat.le_of_ble_eq_true rfl, rfl, Nat.le_of_ble_eq_true rfl⟩
  | 11, _ => exact ⟨cw107, Nat.le_of_ble_eq_true rfl, rfl, Nat.le_of_ble_eq_true rfl⟩
  | 12, _ => exact ⟨cw108, Nat.le_of_ble_eq_true rfl, rfl, Nat.le_of_ble_eq_true rfl⟩
  | 13, _ => exact ⟨cw109, Nat.le_of_ble_eq_true rfl, rfl, Nat.le_of_ble_eq_true rfl⟩
  | 14, _ => exact ⟨cw110, Nat.le_of_ble_eq_true rfl, rfl, Nat.le_of_ble_eq_true rfl⟩
  | 15, _ => exact ⟨cw111, Nat.le_of_ble_eq_true rfl, rfl, Nat.le_of_ble_eq_true rfl⟩
  | n + 16, h => omega
set_option maxRecDepth 20000 in
theorem mok_7 {y : Nat} (h : y < 128) (h0 : 112 ≤ y) : mOk y := by
  obtain ⟨z, rfl⟩ : ∃ z, y = 112 + z := ⟨y - 112, by omega⟩
  match z, h with
  | 0, _ => exact ⟨cw112, Nat.le_of_ble_eq_true rfl, rfl, Nat.le_of_ble_eq_true rfl⟩
  | 1, _ => exact ⟨cw113, Nat.le_of_ble_eq_true rfl, rfl, Nat.le_of_ble_eq_true rfl⟩
  | 2, _ => exact ⟨cw114, Nat.le_of_ble_eq_true rfl, rfl, Nat.le_of_ble_eq_true rfl⟩
  | 3, _ => exact ⟨cw115, Nat.le_of_ble_eq_true rfl, rfl, Nat.le_of_ble_eq_true rfl⟩
  | 4, _ => exact ⟨cw116, Nat.le_of_ble_eq_true rfl, rfl, Nat.le_of_ble_eq_true rfl⟩
  | 5, _ => exact ⟨cw117, Nat.le_of_ble_eq_true rfl, rfl, Nat.le_of_ble_eq_true rfl⟩
  | 6, _ => exact ⟨cw118, Nat.le_of_ble_eq_true rfl, rfl, Nat.le_of_ble_eq_true rfl⟩
  | 7, _ => exact ⟨cw119, Nat.le_of_ble_eq_true rfl, rfl, Nat.le_of_ble_eq_true rfl⟩
  | 8, _ => exact ⟨cw120, Nat.le_of_ble_eq_true rfl, rfl, Nat.le_of_ble_eq_true rfl⟩
  | 9, _ => exact ⟨cw121, Nat.le_of_ble_eq_true rfl, rfl, Nat.le_of_ble_eq_true rfl⟩
  | 10, _ => exact ⟨cw122, Nat.le_of_ble_eq_true rfl, rfl, Nat.le_of_ble_eq_true rfl⟩
  | 11, _ => exact ⟨cw123, Nat.le_of_ble_eq_true rfl, rfl, Nat.le_of_ble_eq_true rfl⟩
  | 12, _ => exact ⟨cw124, Nat.le_of_ble_eq_true rfl, rfl, Nat.le_of_ble_eq_true rfl⟩
  | 13, _ => exact ⟨cw125, Nat.le_of_ble_eq_true rfl, rfl, Nat.le_of_ble_eq_true rfl⟩
  | 14, _ => exact ⟨cw126, Nat.le_of_ble_eq_true rfl, rfl, Nat.le_of_ble_eq_true rfl⟩
  | 15, _ => exact ⟨cw127, Nat.le_of_ble_eq_true rfl, rfl, Nat.le_of_ble_eq_true rfl⟩
  | n + 16, h => omega
set_option maxRecDepth 20000 in
theorem mok_8 {y : Nat} (h : y < 144) (h0 : 128 ≤ y) : mOk y := by
  obtain ⟨z, rfl⟩ : ∃ z, y = 128 + z := ⟨y - 128, by omega⟩
  match z, h with
  | 0, _ => exact ⟨cw128, Nat.le_of_ble_eq_true rfl, rfl, Nat.le_of_ble_eq_true rfl⟩
  | 1, _ => exact ⟨cw129, Nat.le_of_ble_eq_true rfl, rfl, Nat.le_of_ble_eq_true rfl⟩
  | 2, _ => exact ⟨cw130, Nat.le_of_ble_eq_true rfl, rfl, Nat.le_of_ble_eq_true rfl⟩
  | 3, _ => exact ⟨cw131, Nat.le_of_ble_eq_true rfl, rfl, Nat.le_of_ble_eq_true rfl⟩
  | 4, _ => exact ⟨cw132, Nat.le_of_ble_eq_true rfl, rfl, Nat.le_of_ble_eq_true rfl⟩
  | 5, _ => exact ⟨cw133, Nat.le_of_ble_eq_true rfl, rfl, Nat.le_of_ble_eq_true rfl⟩
  | 6, _ => exact ⟨cw134, Nat.le_of_ble_eq_true rfl, rfl, Nat.le_of_ble_eq_true rfl⟩
  | 7, _ => exact ⟨cw135, Nat.le_of_ble_eq_true rfl, rfl, Nat.le_of_ble_eq_true rfl⟩
  | 8, _ => exact ⟨cw136, Nat.le_of_ble_eq_true rfl, rfl, Nat.le_of_ble_eq_true rfl⟩
  | 9, _ => exact ⟨cw137, Nat.le_of_ble_eq_true rfl, rfl, Nat.le_of_ble_eq_true rfl⟩
  | 10, _ => exact ⟨cw138, Nat.le_of_ble_eq_true rfl, rfl, Nat.le_of_ble_eq_true rfl⟩
  | 11, _ => exact ⟨cw139, Nat.le_of_ble_eq_true rfl, rfl, Nat.le_of_ble_eq_true rfl⟩
  | 12, _ => exact ⟨cw140, Nat.le_of_ble_eq_true rfl, rfl, Nat.le_of_ble_eq_true rfl⟩
  | 13, _ => exact ⟨cw141, Nat.le_of_ble_eq_true rfl, rfl, Nat.le_of_ble_eq_true rfl⟩
  | 14, _ => exact ⟨cw142, Nat.le_of_ble_eq_true rfl, rfl, Nat.le_of_ble_eq_true rfl⟩
  | 15, _ => exact ⟨cw143, Nat.le_of_ble_eq_true rfl, rfl, Nat.le_of_ble_eq_true rfl⟩
  | n + 16, h => omega
set_option maxRecDepth 20000 in
theorem mok_9 {y : Nat} (h : y < 160) (h0 : 144 ≤ y) : mOk y := by
  obtain ⟨z, rfl⟩ : ∃ z, y = 144 + z := ⟨y - 144, by omega⟩
  match z, h with
  | 0, _ => exact ⟨cw144, Nat.le_of_ble_eq_true rfl, rfl, Nat.le_of_ble_eq_true rfl⟩
  | 1, _ => exact ⟨cw145, Nat.le_of_ble_eq_true rfl, rfl, Nat.le_of_ble_eq_true rfl⟩
  | 2, _ => exact ⟨cw146, Nat.le_of_ble_eq_true rfl, rfl, Nat.le_of_ble_eq_true rfl⟩
  | 3, _ => exact ⟨cw147, Nat.le_of_ble_eq_true rfl, rfl, Nat.le_of_ble_eq_true rfl⟩
  | 4, _ => exact ⟨cw148, Nat.le_of_ble_eq_true rfl, rfl, Nat.le_of_ble_eq_true rfl⟩
  | 5, _ => exact ⟨cw149, Nat.le_of_ble_eq_true rfl, rfl, Nat.le_of_ble_eq_true rfl⟩
  | 6, _ => exact ⟨cw150, Nat.le_of_ble_eq_true rfl, rfl, Nat.le_of_ble_eq_true rfl⟩
  | 7, _ => exact ⟨cw151, Nat.le_of_ble_eq_true rfl, rfl, Nat.le_of_ble_eq_true rfl⟩
  | 8, _ => exact ⟨cw152, Nat.le_of_ble_eq_true rfl, rfl, Nat.le_of_ble_eq_true rfl⟩
  | 9, _ => exact ⟨cw153, Nat.le_of_ble_eq_true rfl, rfl, Nat.le_of_ble_eq_true rfl⟩
  | 10, _ => exact ⟨cw154, Nat.le_of_ble_eq_true rfl, rfl, Nat.le_of_ble_eq_true rfl⟩
  | 11, _ => exact ⟨cw155, Nat.le_of_ble_eq_true rfl, rfl, Nat.le_of_ble_eq_true rfl⟩
  | 12, _ => exact ⟨cw156, Nat.le_of_ble_eq_true rfl, rfl, Nat.le_of_ble_eq_true rfl⟩
  | 13, _ => exact ⟨cw157, Nat.le_of_ble_eq_true rfl, rfl, Nat.le_of_ble_eq_true rfl⟩
  | 14, _ => exact ⟨cw158, Nat.le_of_ble_eq_true rfl, rfl, Nat.le_of_ble_eq_true rfl⟩
  | 15, _ => exact ⟨cw159, Nat.le_of_ble_eq_true rfl, rfl, Nat.le_of_ble_eq_true rfl⟩
  | n + 16, h => omega
set_option maxRecDepth 20000 in
theorem mok_10 {y : Nat} (h : y < 176) (h0 : 160 ≤ y) : mOk y := by
  obtain ⟨z, rfl⟩ : ∃ z, y = 160 + z := ⟨y - 160, by omega⟩
  match z, h with
  | 0, _ => exact ⟨cw160, Nat.le_of_ble_eq_true rfl, rfl, Nat.le_of_ble_eq_true rfl⟩
  | 1, _ => exact ⟨cw161, Nat.le_of_ble_eq_true rfl, rfl, Nat.le_of_ble_eq_true rfl⟩
  | 2, _ => exact ⟨cw162, Nat.le_of_ble_eq_true rfl, rfl, Nat.le_of_ble_eq_true rfl⟩
  | 3, _ => exact ⟨cw163, Nat.le_of_ble_eq_true rfl, rfl, Nat.le_of_ble_eq_true rfl⟩
  | 4, _ => exact ⟨cw164, Nat.le_of_ble_eq_true rfl, rfl, Nat.le_of_ble_eq_true rfl⟩
  | 5, _ => exact ⟨cw165, Nat.le_of_ble_eq_true rfl, rfl, Nat.le_of_ble_eq_true rfl⟩
  | 6, _ => exact ⟨cw166, Nat.le_of_ble_eq_true rfl, rfl, Nat.le_of_ble_eq_true rfl⟩
  | 7, _ => exact ⟨cw167, Nat.le_of_ble_eq_true rfl, rfl, Nat.le_of_ble_eq_true rfl⟩
  | 8, _ => exact ⟨cw168, Nat.le_of_ble_eq_true rfl, rfl, Nat.le_of_ble_eq_true rfl⟩
  | 9, _ => exact ⟨cw169, Nat.le_of_ble_eq_true rfl, rfl, Nat.le_of_ble_eq_true rfl⟩
  | 10, _ => exact ⟨cw170, Nat.le_of_ble_eq_true rfl, rfl, Nat.le_of_ble_eq_true rfl⟩
  | 11, _ => exact ⟨cw171, Nat.le_of_ble_eq_true rfl, rfl, Nat.le_of_ble_eq_true rfl⟩
  | 12, _ => exact ⟨cw172, Nat.le_of_ble_eq_true rfl, rfl, Nat.le_of_ble_eq_true rfl⟩
  | 13, _ => exact ⟨cw173, Nat.le_of_ble_eq_true rfl, rfl, Nat.le_of_ble_eq_true rfl⟩
  | 14, _ => exact ⟨cw174, Nat.le_of_ble_eq_true rfl, rfl, Nat.le_of_ble_eq_true rfl⟩
  | 15, _ => exact ⟨cw175, Nat.le_of_ble_eq_true rfl, rfl, Nat.le_of_ble_eq_true rfl⟩
  | n + 16, h => omega
set_option maxRecDepth 20000 in
theorem mok_11 {y : Nat} (h : y < 192) (h0 : 176 ≤ y) : mOk y := by
  obtain ⟨z, rfl⟩ : ∃ z, y = 176 + z := ⟨y - 176, by omega⟩
  match z, h with
  | 0, _ => exact ⟨cw176, Nat.le_of_ble_eq_true rfl, rfl, Nat.le_of_ble_eq_true rfl⟩
  | 1, _ => exact ⟨cw177, Nat.le_of_ble_eq_true rfl, rfl, Nat.le_of_ble_eq_true rfl⟩
  | 2, _ => exact ⟨cw178, Nat.le_of_ble_eq_true rfl, rfl, Nat.le_of_ble_eq_true rfl⟩
  | 3, _ => exact ⟨cw179, Nat.le_of_ble_eq_true rfl, rfl, Nat.le_of_ble_eq_true rfl⟩
  | 4, _ => exact ⟨cw180, Nat.le_of_ble_eq_true rfl, rfl, Nat.le_of_ble_eq_true rfl⟩
  | 5, _ => exact ⟨cw181, Nat.le_of_ble_eq_true rfl, rfl, Nat.le_of_ble_eq_true rfl⟩
  | 6, _ => exact ⟨cw182, Nat.le_of_ble_eq_true rfl, rfl, Nat.le_of_ble_eq_true rfl⟩
  | 7, _ => exact ⟨cw183, Nat.le_of_ble_eq_true rfl, rfl, Nat.le_of_ble_eq_true rfl⟩
  | 8, _ => exact ⟨cw184, Nat.le_of_ble_eq_true rfl, rfl, Nat.le_of_ble_eq_true rfl⟩
  | 9, _ => exact ⟨cw185, Nat.le_of_ble_eq_true rfl, rfl, Nat.le_of_ble_eq_true rfl⟩
  | 10, _ => exact ⟨cw186, Nat.le_of_ble_eq_true rfl, rfl, Nat.le_of_ble_eq_true rfl⟩
  | 11, _ => exact ⟨cw187, Nat.le_of_ble_eq_true rfl, rfl, Nat.le_of_ble_eq_true rfl⟩
  | 12, _ => exact ⟨cw188, Nat.le_of_ble_eq_true rfl, rfl, Nat.le_of_ble_eq_true rfl⟩
  | 13, _ => exact ⟨cw189, Nat.le_of_ble_eq_true rfl, rfl, Nat.le_of_ble_eq_true rfl⟩
  | 14, _ => exact ⟨cw190, Nat.le_of_ble_eq_true rfl, rfl, Nat.le_of_ble_eq_true rfl⟩
  | 15, _ => exact ⟨cw191, Nat.le_of_ble_eq_true rfl, rfl, Nat.le_of_ble_eq_true rfl⟩
  | n + 16, h => omega
set_option maxRecDepth 20000 in
theorem mok_12 {y : Nat} (h : y < 208) (h0 : 192 ≤ y) : mOk y := by
  obtain ⟨z, rfl⟩ : ∃ z, y = 192 + z := ⟨y - 192, by omega⟩
  match z, h with
  | 0, _ => exact ⟨cw192, Nat.le_of_ble_eq_true rfl, rfl, Nat.le_of_ble_eq_true rfl⟩
  | 1, _ => exact ⟨cw193, Nat.le_of_ble_eq_true rfl, rfl, Nat.le_of_ble_eq_true rfl⟩
  | 2, _ => exact ⟨cw194, Nat.le_of_ble_eq_true rfl, rfl, Nat.le_of_ble_eq_true rfl⟩
  | 3, _ => exact ⟨cw195, Nat.le_of_ble_eq_true rfl, rfl, Nat.le_of_ble_eq_true rfl⟩
  | 4, _ => exact ⟨cw196, Nat.le_of_ble_eq_true rfl, rfl, Nat.le_of_ble_eq_true rfl⟩
  | 5, _ => exact ⟨cw197, Nat.le_of_ble_eq_true rfl, rfl, Nat.le_of_ble_eq_true rfl⟩
  | 6, _ => exact ⟨cw198, Nat.le_of_ble_eq_true rfl, rfl, Nat.le_of_ble_eq_true rfl⟩
  | 7, _ => exact ⟨cw199, Nat.le_of_ble_eq_true rfl, rfl, Nat.le_of_ble_eq_true rfl⟩
  | 8, _ => exact ⟨cw200, Nat.le_of_ble_eq_true rfl, rfl, Nat.le_of_ble_eq_true rfl⟩
  | 9, _ => exact ⟨cw201, Nat.le_of_ble_eq_true rfl, rfl, Nat.le_of_ble_eq_true rfl⟩
  | 10, _ => exact ⟨cw202, Nat.le_of_ble_eq_true rfl, rfl, Nat.le_of_ble_eq_true rfl⟩
  | 11, _ => exact ⟨cw203, Nat.le_of_ble_eq_true rfl, rfl, Nat.le_of_ble_eq_true rfl⟩
  | 12, _ => exact ⟨cw204, Nat.le_of_ble_eq_true rfl, rfl, Nat.le_of_ble_eq_true rfl⟩
  | 13, _ => exact ⟨cw205, Nat.le_of_ble_eq_true rfl, rfl, Nat.le_of_ble_eq_true rfl⟩
  | 14, _ => exact ⟨cw206, Nat.le_of_ble_eq_true rfl, rfl, Nat.le_of_ble_eq_true rfl⟩
  | 15, _ => exact ⟨cw207, Nat.le_of_ble_eq_true rfl, rfl, Nat.le_of_ble_eq_true rfl⟩
  | n + 16, h => omega
set_option maxRecDepth 20000 in
theorem mok_13 {y : Nat} (h : y < 224) (h0 : 208 ≤ y) : mOk y := by
  obtain ⟨z, rfl⟩ : ∃ z, y = 208 + z := ⟨y - 208, by omega⟩
  match z, h with
  | 0, _ => exact ⟨cw208, Nat.le_of_ble_eq_true rfl, rfl, Nat.le_of_ble_eq_true rfl⟩
  | 1, _ => exact ⟨cw209, Nat.le_of_ble_eq_true rfl, rfl, Nat.le_of_ble_eq_true rfl⟩
  | 2, _ => exact ⟨cw210, Nat.le_of_ble_eq_true rfl, rfl, Nat.le_of_ble_eq_true rfl⟩
  | 3, _ => exact ⟨cw211, Nat.le_of_ble_eq_true rfl, rfl, Nat.le_of_ble_eq_true rfl⟩
  | 4, _ => exact ⟨cw212, Nat.le_of_ble_eq_true rfl, rfl, Nat.le_of_ble_eq_true rfl⟩
  | 5, _ => exact ⟨cw213, Nat.le_of_ble_eq_true rfl, rfl, Nat.le_of_ble_eq_true rfl⟩
  | 6, _ => exact ⟨cw214, Nat.le_of_ble_eq_true rfl, rfl, Nat.le_of_ble_eq_true rfl⟩
  | 7, _ => exact ⟨cw215, Nat.le_of_ble_eq_true rfl, rfl, Nat.le_of_ble_eq_true rfl⟩
  | 8, _ => exact ⟨cw216, Nat.le_of_ble_eq_true rfl, rfl, Nat.le_of_ble_eq_true rfl⟩
  | 9, _ => exact ⟨cw217, Nat.le_of_ble_eq_true rfl, rfl, Nat.le_of_ble_eq_true rfl⟩
  | 10, _ => exact ⟨cw218, Nat.le_of_ble_eq_true rfl, rfl, Nat.le_of_ble_eq_true rfl⟩
  | 11, _ => exact ⟨cw219, Nat.le_of_ble_eq_true rfl, rfl, Nat.le_of_ble_eq_true rfl⟩
  | 12, _ => exact ⟨cw220, Nat.le_of_ble_eq_true rfl, rfl, Nat.le_of_ble_eq_true rfl⟩
  | 13, _ => exact ⟨cw221, Nat.le_of_ble_eq_true rfl, rfl, Nat.le_of_ble_eq_true rfl⟩
  | 14, _ => exact ⟨cw222, Nat.le_of_ble_eq_true rfl, rfl, Nat.le_of_ble_eq_true rfl⟩
  | 15, _ => exact ⟨cw223, Nat.le_of_ble_eq_true rfl, rfl, Nat.le_of_ble_eq_true rfl⟩
  | n + 16, h => omega
set_option maxRecDepth 20000 in
theorem mok_14 {y : Nat} (h : y < 240) (h0 : 224 ≤ y) : mOk y := by
  obtain ⟨z, rfl⟩ : ∃ z, y = 224 + z := ⟨y - 224, by omega⟩
  match z, h with
  | 0, _ => exact ⟨cw224, Nat.le_of_ble_eq_true rfl, rfl, Nat.le_of_ble_eq_true rfl⟩
  | 1, _ => exact ⟨cw225, Nat.le_of_ble_eq_true rfl, rfl, Nat.le_of_ble_eq_true rfl⟩
  | 2, _ => exact ⟨cw226, Nat.le_of_ble_eq_true rfl, rfl, Nat.le_of_ble_eq_true rfl⟩
  | 3, _ => exact ⟨cw227, Nat.le_of_ble_eq_true rfl, rfl, Nat.le_of_ble_eq_true rfl⟩
  | 4, _ => exact ⟨cw228, Nat.le_of_ble_eq_true rfl, rfl, Nat.le_of_ble_eq_true rfl⟩
  | 5, _ => exact ⟨cw229, Nat.le_of_ble_eq_true rfl, rfl, Nat.le_of_ble_eq_true rfl⟩
  | 6, _ => exact ⟨cw230, Nat.le_of_ble_eq_true rfl, rfl, Nat.le_of_ble_eq_true rfl⟩
  | 7, _ => exact ⟨cw231, Nat.le_of_ble_eq_true rfl, rfl, Nat.le_of_ble_eq_true rfl⟩
  | 8, _ => exact ⟨cw232, Nat.le_of_ble_eq_true rfl, rfl, Nat.le_of_ble_eq_true rfl⟩
  | 9, _ => exact ⟨cw233, Nat.le_of_ble_eq_true rfl, rfl, Nat.le_of_ble_eq_true rfl⟩
  | 10, _ => exact ⟨cw234, Nat.le_of_ble_eq_true rfl, rfl, Nat.le_of_ble_eq_true rfl⟩
  | 11, _ => exact ⟨cw235, Nat.le_of_ble_eq_true rfl, rfl, Nat.le_of_ble_eq_true rfl⟩
  | 12, _ => exact ⟨cw236, Nat.le_of_ble_eq_true rfl, rfl, Nat.le_of_ble_eq_true rfl⟩
  | 13, _ => exact ⟨cw237, Nat.le_of_ble_eq_true rfl, rfl, Nat.le_of_ble_eq_true rfl⟩
  | 14, _ => exact ⟨cw238, Nat.le_of_ble_eq_true rfl, rfl, Nat.le_of_ble_eq_true rfl⟩
  | 15, _ => exact ⟨cw239, Nat.le_of_ble_eq_true rfl, rfl, Nat.le_of_ble_eq_true rfl⟩
  | n + 16, h => omega
set_option maxRecDepth 20000 in
theorem mok_15 {y : Nat} (h : y < 256) (h0 : 240 ≤ y) : mOk y := by
  obtain ⟨z, rfl⟩ : ∃ z, y = 240 + z := ⟨y - 240, by omega⟩
  match z, h with
  | 0, _ => exact ⟨cw240, Nat.le_of_ble_eq_true rfl, rfl, Nat.le_of_ble_eq_true rfl⟩
  | 1, _ => exact ⟨cw241, Nat.le_of_ble_eq_true rfl, rfl, Nat.le_of_ble_eq_true rfl⟩
  | 2, _ => exact ⟨cw242, Nat.le_of_ble_eq_true rfl, rfl, Nat.le_of_ble_eq_true rfl⟩
  | 3, _ => exact ⟨cw243, Nat.le_of_ble_eq_true rfl, rfl, Nat.le_of_ble_eq_true rfl⟩
  | 4, _ => exact ⟨cw244, Nat.le_of_ble_eq_true rfl, rfl, Nat.le_of_ble_eq_true rfl⟩
  | 5, _ => exact ⟨cw245, Nat.le_of_ble_eq_true rfl, rfl, Nat.le_of_ble_eq_true rfl⟩
  | 6, _ => exact ⟨cw246, Nat.le_of_ble_eq_true rfl, rfl, Nat.le_of_ble_eq_true rfl⟩
  | 7, _ => exact ⟨cw247, Nat.le_of_ble_eq_true rfl, rfl, Nat.le_of_ble_eq_true rfl⟩
  | 8, _ => exact ⟨cw248, Nat.le_of_ble_eq_true rfl, rfl, Nat.le_of_ble_eq_true rfl⟩
  | 9, _ => exact ⟨cw249, Nat.le_of_ble_eq_true rfl, rfl, Nat.le_of_ble_eq_true rfl⟩
  | 10, _ => exact ⟨cw250, Nat.le_of_ble_eq_true rfl, rfl, Nat.le_of_ble_eq_true rfl⟩
  | 11, _ => exact ⟨cw251, Nat.le_of_ble_eq_true rfl, rfl, Nat.le_of_ble_eq_true rfl⟩
  | 12, _ => exact ⟨cw252, Nat.le_of_ble_eq_true rfl, rfl, Nat.le_of_ble_eq_true rfl⟩
  | 13, _ => exact ⟨cw253, Nat.le_of_ble_eq_true rfl, rfl, Nat.le_of_ble_eq_true rfl⟩
  | 14, _ => exact ⟨cw254, Nat.le_of_ble_eq_true rfl, rfl, Nat.le_of_ble_eq_true rfl⟩
  | 15, _ => exact ⟨cw255, Nat.le_of_ble_eq_true rfl, rfl, Nat.le_of_ble_eq_true rfl⟩
  | n + 16, h => omega
set_option maxRecDepth 20000 in
theorem mok_16 {y : Nat} (h : y < 272) (h0 : 256 ≤ y) : mOk y := by
  obtain ⟨z, rfl⟩ : ∃ z, y = 256 + z := ⟨y - 256, by omega⟩
  match z, h with
  | 0, _ => exact ⟨cw256, Nat.le_of_ble_eq_true rfl, rfl, Nat.le_of_ble_eq_true rfl⟩
  | 1, _ => exact ⟨cw257, Nat.le_of_ble_eq_true rfl, rfl, Nat.le_of_ble_eq_true rfl⟩
  | 2, _ => exact ⟨cw258, Nat.le_of_ble_eq_true rfl, rfl, Nat.le_of_ble_eq_true rfl⟩
  | 3, _ => exact ⟨cw259, Nat.le_of_ble_eq_true rfl, rfl, Nat.le_of_ble_eq_true rfl⟩
  | 4, _ => exact ⟨cw260, Nat.le_of_ble_eq_true rfl, rfl, Nat.le_of_ble_eq_true rfl⟩
  | 5, _ => exact ⟨cw261, Nat.le_of_ble_eq_true rfl, rfl, Nat.le_of_ble_eq_true rfl⟩
  | 6, _ => exact ⟨cw262, Nat.le_of_ble_eq_true rfl, rfl, Nat.le_of_ble_eq_true rfl⟩
  | 7, _ => exact ⟨cw263, Nat.le_of_ble_eq_true rfl, rfl, Nat.le_of_ble_eq_true rfl⟩
  | 8, _ => exact ⟨cw264, Nat.le_of_ble_eq_true rfl, rfl, Nat.le_of_ble_eq_true rfl⟩
  | 9, _ => exact ⟨cw265, Nat.le_of_ble_eq_true rfl, rfl, Nat.le_of_ble_eq_true rfl⟩
  | 10, _ => exact ⟨cw266, Nat.le_of_ble_eq_true rfl, rfl, Nat.le_of_ble_eq_true rfl⟩
  | 11, _ => exact ⟨cw267, Nat.le_of_ble_eq_true rfl, rfl, Nat.le_of_ble_eq_true rfl⟩
  | 12, _ => exact ⟨cw268, Nat.le_of_ble_eq_true rfl, rfl, Nat.le_of_ble_eq_true rfl⟩
  | 13, _ => exact ⟨cw269, Nat.le_of_ble_eq_true rfl, rfl, Nat.le_of_ble_eq_true rfl⟩
  | 14, _ => exact ⟨cw270, Nat.le_of_ble_eq_true rfl, rfl, Nat.le_of_ble_eq_true rfl⟩
  | 15, _ => exact ⟨cw271, Nat.le_of_ble_eq_true rfl, rfl, Nat.le_of_ble_eq_true rfl⟩
  | n + 16, h => omega
set_option maxRecDepth 20000 in
theorem mok_17 {y : Nat} (h : y < 282) (h0 : 272 ≤ y) : mOk y := by
  obtain ⟨z, rfl⟩ : ∃ z, y = 272 + z := ⟨y - 272, by omega⟩
  match z, h with
  | 0, _ => exact ⟨cw272, Nat.le_of_ble_eq_true rfl, rfl, Nat.le_of_ble_eq_true rfl⟩
  | 1, _ => exact ⟨cw273, Nat.le_of_ble_eq_true rfl, rfl, Nat.le_of_ble_eq_true rfl⟩
  | 2, _ => exact ⟨cw274, Nat.le_of_ble_eq_true rfl, rfl, Nat.le_of_ble_eq_true rfl⟩
  | 3, _ => exact ⟨cw275, Nat.le_of_ble_eq_true rfl, rfl, Nat.le_of_ble_eq_true rfl⟩
  | 4, _ => exact ⟨cw276, Nat.le_of_ble_eq_true rfl, rfl, Nat.le_of_ble_eq_true rfl⟩
  | 5, _ => exact ⟨cw277, Nat.le_of_ble_eq_true rfl, rfl, Nat.le_of_ble_eq_true rfl⟩
  | 6, _ => exact ⟨cw278, Nat.le_of_ble_eq_true rfl, rfl, Nat.le_of_ble_eq_true rfl⟩
  | 7, _ => exact ⟨cw279, Nat.le_of_ble_eq_true rfl, rfl, Nat.le_of_ble_eq_true rfl⟩
  | 8, _ => exact ⟨cw280, Nat.le_of_ble_eq_true rfl, rfl, Nat.le_of_ble_eq_true rfl⟩
  | 9, _ => exact ⟨cw281, Nat.le_of_ble_eq_true rfl, rfl, Nat.le_of_ble_eq_true rfl⟩
  | n + 10, h => omega
theorem m_ok {y : Nat} (h : y < 282) : mOk y := by
  by_cases h0 : y < 16
  · exact mok_0 h0 (by omega)
  by_cases h16 : y < 32
  · exact mok_1 h16 (by omega)
  by_cases h32 : y < 48
  · exact mok_2 h32 (by omega)
  by_cases h48 : y < 64
  · exact mok_3 h48 (by omega)
  by_cases h64 : y < 80
  · exact mok_4 h64 (by omega)
  by_cases h80 : y < 96
  · exact mok_5 h80 (by omega)
  by_cases h96 : y < 112
  · exact mok_6 h96 (by omega)
  by_cases h112 : y < 128
  · exact mok_7 h112 (by omega)
  by_cases h128 : y < 144
  · exact mok_8 h128 (by omega)
  by_cases h144 : y < 160
  · exact mok_9 h144 (by omega)
  by_cases h160 : y < 176
  · exact mok_10 h160 (by omega)
  by_cases h176 : y < 192
  · exact mok_11 h176 (by omega)
  by_cases h192 : y < 208
  · exact mok_12 h192 (by omega)
  by_cases h208 : y < 224
  · exact mok_13 h208 (by omega)
  by_cases h224 : y < 240
  · exact mok_14 h224 (by omega)
  by_cases h240 : y < 256
  · exact mok_15 h240 (by omega)
  by_cases h256 : y < 272
  · exact mok_16 h256 (by omega)
  by_cases h272 : y < 282
  · exact mok_17 h272 (by omega)
  exact absurd h h272
