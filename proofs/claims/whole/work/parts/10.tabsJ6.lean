/-! the methods and their tables of linked instructions: written by a program (wip/whole/gen_tabs.py) out of the names -/
def mX0_init : hyM := (yX0_init, cX0_init, 1, none)
def mX0_count : hyM := (yX0_count, cX0_count, 1, (some .int))
def mX0_tell : hyM := (yX0_tell, cX0_tell, 3, (some .int))
def mX0_howManyFit : hyM := (yX0_howManyFit, cX0_howManyFit, 2, (some .int))
def mX0_sureNet : hyM := (yX0_sureNet, cX0_sureNet, 2, (some .int))
def mX0_sureFind : hyM := (yX0_sureFind, cX0_sureFind, 3, (some .int))
def mX0_hasWay : hyM := (yX0_hasWay, cX0_hasWay, 4, (some .boolean))
def mX0_reachable : hyM := (yX0_reachable, cX0_reachable, 7, (some .int))
def mX0_fittedBy : hyM := (yX0_fittedBy, cX0_fittedBy, 4, (some .int))
def mX0_onlyOne : hyM := (yX0_onlyOne, cX0_onlyOne, 1, (some .int))
def mX0_isFind : hyM := (yX0_isFind, cX0_isFind, 2, (some .boolean))
def mX1_init : hyM := (yX1_init, cX1_init, 1, none)
def mX1_rollCount : hyM := (yX1_rollCount, cX1_rollCount, 1, (some .int))
def mX1_cutCount : hyM := (yX1_cutCount, cX1_cutCount, 1, (some .int))
def mX1_addRoll : hyM := (yX1_addRoll, cX1_addRoll, 3, (some .int))
def mX1_addCut : hyM := (yX1_addCut, cX1_addCut, 3, (some .int))
def mX1_dropAll : hyM := (yX1_dropAll, cX1_dropAll, 2, (some .int))
def mX1_leastOpened : hyM := (yX1_leastOpened, cX1_leastOpened, 1, (some .int))
def mX1_rollUnder : hyM := (yX1_rollUnder, cX1_rollUnder, 2, (some .int))
def mX1_lay : hyM := (yX1_lay, cX1_lay, 2, none)
def mX1_measureSets : hyM := (yX1_measureSets, cX1_measureSets, 5, none)
def mX1_layOnLowestRoll : hyM := (yX1_layOnLowestRoll, cX1_layOnLowestRoll, 3, none)
def mX1_leastWith : hyM := (yX1_leastWith, cX1_leastWith, 5, (some .int))
def mX1_usedOf : hyM := (yX1_usedOf, cX1_usedOf, 5, (some .int))
def mX1_packLot : hyM := (yX1_packLot, cX1_packLot, 7, none)
def mX1_packRoll : hyM := (yX1_packRoll, cX1_packRoll, 9, none)
def mX1_joinLot : hyM := (yX1_joinLot, cX1_joinLot, 7, none)
def mX1_cutsToLay : hyM := (yX1_cutsToLay, cX1_cutsToLay, 6, (some .int))
def mX2_init : hyM := (yX2_init, cX2_init, 2, none)
def mX2_count : hyM := (yX2_count, cX2_count, 1, (some .int))
def mX2_clock : hyM := (yX2_clock, cX2_clock, 1, (some .int))
def mX2_huskTotal : hyM := (yX2_huskTotal, cX2_huskTotal, 1, (some .int))
def mX2_setSalt : hyM := (yX2_setSalt, cX2_setSalt, 3, (some .boolean))
def mX2_setRipens : hyM := (yX2_setRipens, cX2_setRipens, 3, (some .boolean))
def mX2_putIn : hyM := (yX2_putIn, cX2_putIn, 5, (some .int))
def mX2_goBy : hyM := (yX2_goBy, cX2_goBy, 3, (some .int))
def mX2_takeOut : hyM := (yX2_takeOut, cX2_takeOut, 2, (some .int))
def mX2_floatOff : hyM := (yX2_floatOff, cX2_floatOff, 4, (some .int))
def mX2_afloatWith : hyM := (yX2_afloatWith, cX2_afloatWith, 6, (some .int))
def mX2_comeBack : hyM := (yX2_comeBack, cX2_comeBack, 2, none)
def mX2_countIn : hyM := (yX2_countIn, cX2_countIn, 4, (some .int))
def mX2_tellOf : hyM := (yX2_tellOf, cX2_tellOf, 3, (some .int))
def mX2_weeksToRipe : hyM := (yX2_weeksToRipe, cX2_weeksToRipe, 3, (some .int))
def mX2_rateAt : hyM := (yX2_rateAt, cX2_rateAt, 2, (some .int))
def mX2_isRipe : hyM := (yX2_isRipe, cX2_isRipe, 2, (some .boolean))
def mX2_isNet : hyM := (yX2_isNet, cX2_isNet, 2, (some .boolean))
def mX2_isPit : hyM := (yX2_isPit, cX2_isPit, 1, (some .boolean))
def mX3_init : hyM := (yX3_init, cX3_init, 1, none)
def mX3_count : hyM := (yX3_count, cX3_count, 1, (some .int))
def mX3_bound : hyM := (yX3_bound, cX3_bound, 2, (some .int))
def mX3_tell : hyM := (yX3_tell, cX3_tell, 5, (some .int))
def mX3_weightFor : hyM := (yX3_weightFor, cX3_weightFor, 3, (some .int))
def mX3_leastWeight : hyM := (yX3_leastWeight, cX3_leastWeight, 5, (some .int))
def mX3_greatestWeight : hyM := (yX3_greatestWeight, cX3_greatestWeight, 5, (some .int))
def mX3_readBy : hyM := (yX3_readBy, cX3_readBy, 2, (some .int))
def mX3_isReadSo : hyM := (yX3_isReadSo, cX3_isReadSo, 3, (some .boolean))
def mX3_weightsBelow : hyM := (yX3_weightsBelow, cX3_weightsBelow, 3, (some .int))
def mX4_init : hyM := (yX4_init, cX4_init, 1, none)
def mX4_count : hyM := (yX4_count, cX4_count, 1, (some .int))
def mX4_take : hyM := (yX4_take, cX4_take, 5, (some .int))
def mX4_setChange : hyM := (yX4_setChange, cX4_setChange, 2, (some .boolean))
def mX4_dropOrders : hyM := (yX4_dropOrders, cX4_dropOrders, 2, (some .int))
def mX4_leastLate : hyM := (yX4_leastLate, cX4_leastLate, 1, (some .int))
def mX4_orderAt : hyM := (yX4_orderAt, cX4_orderAt, 2, (some .int))
def mX4_endAt : hyM := (yX4_endAt, cX4_endAt, 5, (some .int))
def mX4_plan : hyM := (yX4_plan, cX4_plan, 1, none)
def mX4_tryPlace : hyM := (yX4_tryPlace, cX4_tryPlace, 7, none)
def mX4_tryRest : hyM := (yX4_tryRest, cX4_tryRest, 9, none)
def mX4_keepRow : hyM := (yX4_keepRow, cX4_keepRow, 3, none)
def mX4_endOf : hyM := (yX4_endOf, cX4_endOf, 5, (some .int))
def mX5_init : hyM := (yX5_init, cX5_init, 1, none)
def mX5_salt : hyM := (yX5_salt, cX5_salt, 3, (some .boolean))
def mX5_ripens : hyM := (yX5_ripens, cX5_ripens, 3, (some .boolean))
def mX5_net : hyM := (yX5_net, cX5_net, 5, (some .int))
def mX5_weeks : hyM := (yX5_weeks, cX5_weeks, 2, (some .int))
def mX5_pull : hyM := (yX5_pull, cX5_pull, 2, (some .int))
def mX5_flood : hyM := (yX5_flood, cX5_flood, 2, (some .int))
def mX5_find : hyM := (yX5_find, cX5_find, 4, (some .int))
def mX5_found : hyM := (yX5_found, cX5_found, 3, (some .int))
def mX5_netOf : hyM := (yX5_netOf, cX5_netOf, 3, (some .int))
def mX5_order : hyM := (yX5_order, cX5_order, 5, (some .int))
def mX5_change : hyM := (yX5_change, cX5_change, 2, (some .boolean))
def mX5_late : hyM := (yX5_late, cX5_late, 1, (some .int))
def mX5_spun : hyM := (yX5_spun, cX5_spun, 3, (some .int))
def mX5_clear : hyM := (yX5_clear, cX5_clear, 1, (some .int))
def mX5_roll : hyM := (yX5_roll, cX5_roll, 3, (some .int))
def mX5_cut : hyM := (yX5_cut, cX5_cut, 3, (some .int))
def mX5_opened : hyM := (yX5_opened, cX5_opened, 1, (some .int))
def mX5_from : hyM := (yX5_from, cX5_from, 2, (some .int))
def mX5_away : hyM := (yX5_away, cX5_away, 1, (some .int))
def mX5_reading : hyM := (yX5_reading, cX5_reading, 3, (some .int))
def mX5_errs : hyM := (yX5_errs, cX5_errs, 2, (some .int))
def mX5_back : hyM := (yX5_back, cX5_back, 3, (some .int))
def mX5_about : hyM := (yX5_about, cX5_about, 2, (some .int))
def mX5_bringBackTheSure : hyM := (yX5_bringBackTheSure, cX5_bringBackTheSure, 2, none)
def mX5_isMarks : hyM := (yX5_isMarks, cX5_isMarks, 1, (some .boolean))
def mX5_within : hyM := (yX5_within, cX5_within, 3, (some .boolean))
def mX6_init : hyM := (yX6_init, cX6_init, 2, none)
def mX6_in : hyM := (yX6_in, cX6_in, 3, (some .boolean))
def mX6_isNet : hyM := (yX6_isNet, cX6_isNet, 2, (some .boolean))
def mX6_salt : hyM := (yX6_salt, cX6_salt, 3, (some .boolean))
def mX6_ripens : hyM := (yX6_ripens, cX6_ripens, 3, (some .boolean))
def mX6_net : hyM := (yX6_net, cX6_net, 5, (some .int))
def mX6_weeks : hyM := (yX6_weeks, cX6_weeks, 3, (some .int))
def mX6_fits : hyM := (yX6_fits, cX6_fits, 3, (some .boolean))
def mX6_isWay : hyM := (yX6_isWay, cX6_isWay, 7, (some .boolean))
def mX6_knows : hyM := (yX6_knows, cX6_knows, 4, none)
def mX6_findOf : hyM := (yX6_findOf, cX6_findOf, 4, (some .int))
def mX6_stateOf : hyM := (yX6_stateOf, cX6_stateOf, 2, (some .int))
def mX6_isRipe : hyM := (yX6_isRipe, cX6_isRipe, 2, (some .boolean))
def mX6_pull : hyM := (yX6_pull, cX6_pull, 3, (some .int))
def mX6_flood : hyM := (yX6_flood, cX6_flood, 4, (some .int))
def mX6_find : hyM := (yX6_find, cX6_find, 5, (some .int))
def mX6_found : hyM := (yX6_found, cX6_found, 5, (some .int))
def mX6_weeksLeft : hyM := (yX6_weeksLeft, cX6_weeksLeft, 4, (some .int))
def mX6_netOf : hyM := (yX6_netOf, cX6_netOf, 3, (some .int))
def mX6_order : hyM := (yX6_order, cX6_order, 5, (some .int))
def mX6_change : hyM := (yX6_change, cX6_change, 2, (some .boolean))
def mX6_endOf : hyM := (yX6_endOf, cX6_endOf, 7, (some .int))
def mX6_nextRow : hyM := (yX6_nextRow, cX6_nextRow, 5, (some .boolean))
def mX6_swaps : hyM := (yX6_swaps, cX6_swaps, 4, none)
def mX6_spins : hyM := (yX6_spins, cX6_spins, 5, (some .int))
def mX6_late : hyM := (yX6_late, cX6_late, 1, (some .int))
def mX6_spun : hyM := (yX6_spun, cX6_spun, 4, (some .int))
def mX6_clear : hyM := (yX6_clear, cX6_clear, 2, (some .int))
def mX6_roll : hyM := (yX6_roll, cX6_roll, 3, (some .int))
def mX6_cut : hyM := (yX6_cut, cX6_cut, 3, (some .int))
def mX6_cutOf : hyM := (yX6_cutOf, cX6_cutOf, 5, (some .int))
def mX6_openedBy : hyM := (yX6_openedBy, cX6_openedBy, 4, (some .int))
def mX6_mayLie : hyM := (yX6_mayLie, cX6_mayLie, 5, (some .boolean))
def mX6_lays : hyM := (yX6_lays, cX6_lays, 4, (some .int))
def mX6_opened : hyM := (yX6_opened, cX6_opened, 2, (some .int))
def mX6_from : hyM := (yX6_from, cX6_from, 2, (some .int))
def mX6_away : hyM := (yX6_away, cX6_away, 2, (some .int))
def mX6_reads : hyM := (yX6_reads, cX6_reads, 2, (some .int))
def mX6_reading : hyM := (yX6_reading, cX6_reading, 6, (some .int))
def mX6_errs : hyM := (yX6_errs, cX6_errs, 2, (some .int))
def mX6_back : hyM := (yX6_back, cX6_back, 7, (some .int))
def mX6_about : hyM := (yX6_about, cX6_about, 5, (some .int))
def mJ6_numberOfTrailingZeros_0f7a4 : hyM := (yJ6_numberOfTrailingZeros_0f7a4, cJ6_numberOfTrailingZeros_0f7a4, 2, (some .int))
def mJ6_bitCount_0f7a4 : hyM := (yJ6_bitCount_0f7a4, cJ6_bitCount_0f7a4, 1, (some .int))
def mJ9_max_7cf53 : hyM := (yJ9_max_7cf53, cJ9_max_7cf53, 2, (some .int))
def mJ9_min_7cf53 : hyM := (yJ9_min_7cf53, cJ9_min_7cf53, 2, (some .int))
def mL_law : hyM := (yL_law, cL_law, maxLocals, ret)
def tJ6_numberOfTrailingZeros_0f7a4_0 : List (Nat × hyE) := [(0, .iload_n 0, 1, 0, 0, 0, 0, 0, none, []),
  (1, .iconst (-1), 2, 0, 0, 0, 0, (-1), none, []),
  (2, .ixor, 3, 0, 0, 0, 0, 0, none, []),
  (3, .iload_n 0, 4, 0, 0, 0, 0, 0, none, []),
  (4, .iconst 1, 5, 0, 0, 0, 0, 1, none, []),
  (5, .isub, 6, 0, 0, 0, 0, 0, none, []),
  (6, .iand, 7, 0, 0, 0, 0, 0, none, []),
  (7, .istore_n 0, 8, 0, 0, 0, 0, 0, none, []),
  (8, .iload_n 0, 9, 0, 0, 0, 0, 0, none, []),
  (9, .ifCond .gt 8, 12, 17, 0, 0, 0, 0, none, []),
  (12, .iload_n 0, 13, 0, 0, 0, 0, 0, none, []),
  (13, .bipush 32, 15, 0, 0, 0, 0, 32, none, []),
  (15, .iand, 16, 0, 0, 0, 0, 0, none, [])]
theorem oJ6_numberOfTrailingZeros_0f7a4_0 : ∀ q ∈ tJ6_numberOfTrailingZeros_0f7a4_0, hy_ok mJ6_numberOfTrailingZeros_0f7a4 q.1 q.2 = true := by decide +kernel
def tJ6_numberOfTrailingZeros_0f7a4_1 : List (Nat × hyE) := [(16, .ireturn, 17, 0, 0, 0, 0, 0, none, []),
  (17, .iconst 1, 18, 0, 0, 0, 0, 1, none, []),
  (18, .istore_n 1, 19, 1, 0, 0, 0, 0, none, []),
  (19, .iload_n 0, 20, 0, 0, 0, 0, 0, none, []),
  (20, .ldc_w 264, 23, 0, 0, 0, 0, 65536, none, []),
  (23, .if_icmp .le 11, 26, 34, 0, 0, 0, 0, none, []),
  (26, .iinc 1 16, 29, 1, 0, 0, 0, 16, none, []),
  (29, .iload_n 0, 30, 0, 0, 0, 0, 0, none, []),
  (30, .bipush 16, 32, 0, 0, 0, 0, 16, none, [])]
theorem oJ6_numberOfTrailingZeros_0f7a4_1 : ∀ q ∈ tJ6_numberOfTrailingZeros_0f7a4_1, hy_ok mJ6_numberOfTrailingZeros_0f7a4 q.1 q.2 = true := by decide +kernel
def tJ6_numberOfTrailingZeros_0f7a4_2 : List (Nat × hyE) := [(32, .iushr, 33, 0, 0, 0, 0, 0, none, []),
  (33, .istore_n 0, 34, 0, 0, 0, 0, 0, none, []),
  (34, .iload_n 0, 35, 0, 0, 0, 0, 0, none, []),
  (35, .sipush 256, 38, 0, 0, 0, 0, 256, none, []),
  (38, .if_icmp .le 11, 41, 49, 0, 0, 0, 0, none, []),
  (41, .iinc 1 8, 44, 1, 0, 0, 0, 8, none, []),
  (44, .iload_n 0, 45, 0, 0, 0, 0, 0, none, []),
  (45, .bipush 8, 47, 0, 0, 0, 0, 8, none, []),
  (47, .iushr, 48, 0, 0, 0, 0, 0, none, [])]
theorem oJ6_numberOfTrailingZeros_0f7a4_2 : ∀ q ∈ tJ6_numberOfTrailingZeros_0f7a4_2, hy_ok mJ6_numberOfTrailingZeros_0f7a4 q.1 q.2 = true := by decide +kernel
def tJ6_numberOfTrailingZeros_0f7a4_3 : List (Nat × hyE) := [(48, .istore_n 0, 49, 0, 0, 0, 0, 0, none, []),
  (49, .iload_n 0, 50, 0, 0, 0, 0, 0, none, []),
  (50, .bipush 16, 52, 0, 0, 0, 0, 16, none, []),
  (52, .if_icmp .le 10, 55, 62, 0, 0, 0, 0, none, []),
  (55, .iinc 1 4, 58, 1, 0, 0, 0, 4, none, []),
  (58, .iload_n 0, 59, 0, 0, 0, 0, 0, none, []),
  (59, .iconst 4, 60, 0, 0, 0, 0, 4, none, []),
  (60, .iushr, 61, 0, 0, 0, 0, 0, none, []),
  (61, .istore_n 0, 62, 0, 0, 0, 0, 0, none, []),
  (62, .iload_n 0, 63, 0, 0, 0, 0, 0, none, []),
  (63, .iconst 4, 64, 0, 0, 0, 0, 4, none, [])]
theorem oJ6_numberOfTrailingZeros_0f7a4_3 : ∀ q ∈ tJ6_numberOfTrailingZeros_0f7a4_3, hy_ok mJ6_numberOfTrailingZeros_0f7a4 q.1 q.2 = true := by decide +kernel
def tJ6_numberOfTrailingZeros_0f7a4_4 : List (Nat × hyE) := [(64, .if_icmp .le 10, 67, 74, 0, 0, 0, 0, none, []),
  (67, .iinc 1 2, 70, 1, 0, 0, 0, 2, none, []),
  (70, .iload_n 0, 71, 0, 0, 0, 0, 0, none, []),
  (71, .iconst 2, 72, 0, 0, 0, 0, 2, none, []),
  (72, .iushr, 73, 0, 0, 0, 0, 0, none, []),
  (73, .istore_n 0, 74, 0, 0, 0, 0, 0, none, []),
  (74, .iload_n 1, 75, 1, 0, 0, 0, 0, none, []),
  (75, .iload_n 0, 76, 0, 0, 0, 0, 0, none, []),
  (76, .iconst 1, 77, 0, 0, 0, 0, 1, none, []),
  (77, .iushr, 78, 0, 0, 0, 0, 0, none, []),
  (78, .iadd, 79, 0, 0, 0, 0, 0, none, []),
  (79, .ireturn, 80, 0, 0, 0, 0, 0, none, [])]
theorem oJ6_numberOfTrailingZeros_0f7a4_4 : ∀ q ∈ tJ6_numberOfTrailingZeros_0f7a4_4, hy_ok mJ6_numberOfTrailingZeros_0f7a4 q.1 q.2 = true := by decide +kernel
def tJ6_numberOfTrailingZeros_0f7a4 : hyT := [tJ6_numberOfTrailingZeros_0f7a4_0, tJ6_numberOfTrailingZeros_0f7a4_1, tJ6_numberOfTrailingZeros_0f7a4_2, tJ6_numberOfTrailingZeros_0f7a4_3, tJ6_numberOfTrailingZeros_0f7a4_4]
theorem oJ6_numberOfTrailingZeros_0f7a4 : hy_tok mJ6_numberOfTrailingZeros_0f7a4 tJ6_numberOfTrailingZeros_0f7a4 := List.forall_mem_cons.mpr ⟨oJ6_numberOfTrailingZeros_0f7a4_0, List.forall_mem_cons.mpr ⟨oJ6_numberOfTrailingZeros_0f7a4_1, List.forall_mem_cons.mpr ⟨oJ6_numberOfTrailingZeros_0f7a4_2, List.forall_mem_cons.mpr ⟨oJ6_numberOfTrailingZeros_0f7a4_3, List.forall_mem_cons.mpr ⟨oJ6_numberOfTrailingZeros_0f7a4_4, fun _ h => absurd h List.not_mem_nil⟩⟩⟩⟩⟩
def tJ6_bitCount_0f7a4_0 : List (Nat × hyE) := [(0, .iload_n 0, 1, 0, 0, 0, 0, 0, none, []),
  (1, .iload_n 0, 2, 0, 0, 0, 0, 0, none, []),
  (2, .iconst 1, 3, 0, 0, 0, 0, 1, none, []),
  (3, .iushr, 4, 0, 0, 0, 0, 0, none, []),
  (4, .ldc_w 265, 7, 0, 0, 0, 0, 1431655765, none, []),
  (7, .iand, 8, 0, 0, 0, 0, 0, none, []),
  (8, .isub, 9, 0, 0, 0, 0, 0, none, []),
  (9, .istore_n 0, 10, 0, 0, 0, 0, 0, none, []),
  (10, .iload_n 0, 11, 0, 0, 0, 0, 0, none, []),
  (11, .ldc_w 266, 14, 0, 0, 0, 0, 858993459, none, []),
  (14, .iand, 15, 0, 0, 0, 0, 0, none, []),
  (15, .iload_n 0, 16, 0, 0, 0, 0, 0, none, [])]
theorem oJ6_bitCount_0f7a4_0 : ∀ q ∈ tJ6_bitCount_0f7a4_0, hy_ok mJ6_bitCount_0f7a4 q.1 q.2 = true := by decide +kernel
def tJ6_bitCount_0f7a4_1 : List (Nat × hyE) := [(16, .iconst 2, 17, 0, 0, 0, 0, 2, none, []),
  (17, .iushr, 18, 0, 0, 0, 0, 0, none, []),
  (18, .ldc_w 266, 21, 0, 0, 0, 0, 858993459, none, []),
  (21, .iand, 22, 0, 0, 0, 0, 0, none, []),
  (22, .iadd, 23, 0, 0, 0, 0, 0, none, []),
  (23, .istore_n 0, 24, 0, 0, 0, 0, 0, none, []),
  (24, .iload_n 0, 25, 0, 0, 0, 0, 0, none, []),
  (25, .iload_n 0, 26, 0, 0, 0, 0, 0, none, []),
  (26, .iconst 4, 27, 0, 0, 0, 0, 4, none, []),
  (27, .iushr, 28, 0, 0, 0, 0, 0, none, []),
  (28, .iadd, 29, 0, 0, 0, 0, 0, none, []),
  (29, .ldc_w 267, 32, 0, 0, 0, 0, 252645135, none, [])]
theorem oJ6_bitCount_0f7a4_1 : ∀ q ∈ tJ6_bitCount_0f7a4_1, hy_ok mJ6_bitCount_0f7a4 q.1 q.2 = true := by decide +kernel
def tJ6_bitCount_0f7a4_2 : List (Nat × hyE) := [(32, .iand, 33, 0, 0, 0, 0, 0, none, []),
  (33, .istore_n 0, 34, 0, 0, 0, 0, 0, none, []),
  (34, .iload_n 0, 35, 0, 0, 0, 0, 0, none, []),
  (35, .iload_n 0, 36, 0, 0, 0, 0, 0, none, []),
  (36, .bipush 8, 38, 0, 0, 0, 0, 8, none, []),
  (38, .iushr, 39, 0, 0, 0, 0, 0, none, []),
  (39, .iadd, 40, 0, 0, 0, 0, 0, none, []),
  (40, .istore_n 0, 41, 0, 0, 0, 0, 0, none, []),
  (41, .iload_n 0, 42, 0, 0, 0, 0, 0, none, []),
  (42, .iload_n 0, 43, 0, 0, 0, 0, 0, none, []),
  (43, .bipush 16, 45, 0, 0, 0, 0, 16, none, []),
  (45, .iushr, 46, 0, 0, 0, 0, 0, none, []),
  (46, .iadd, 47, 0, 0, 0, 0, 0, none, []),
  (47, .istore_n 0, 48, 0, 0, 0, 0, 0, none, [])]
theorem oJ6_bitCount_0f7a4_2 : ∀ q ∈ tJ6_bitCount_0f7a4_2, hy_ok mJ6_bitCount_0f7a4 q.1 q.2 = true := by decide +kernel
def tJ6_bitCount_0f7a4_3 : List (Nat × hyE) := [(48, .iload_n 0, 49, 0, 0, 0, 0, 0, none, []),
  (49, .bipush 63, 51, 0, 0, 0, 0, 63, none, []),
  (51, .iand, 52, 0, 0, 0, 0, 0, none, []),
  (52, .ireturn, 53, 0, 0, 0, 0, 0, none, [])]
theorem oJ6_bitCount_0f7a4_3 : ∀ q ∈ tJ6_bitCount_0f7a4_3, hy_ok mJ6_bitCount_0f7a4 q.1 q.2 = true := by decide +kernel
def tJ6_bitCount_0f7a4 : hyT := [tJ6_bitCount_0f7a4_0, tJ6_bitCount_0f7a4_1, tJ6_bitCount_0f7a4_2, tJ6_bitCount_0f7a4_3]
theorem oJ6_bitCount_0f7a4 : hy_tok mJ6_bitCount_0f7a4 tJ6_bitCount_0f7a4 := List.forall_mem_cons.mpr ⟨oJ6_bitCount_0f7a4_0, List.forall_mem_cons.mpr ⟨oJ6_bitCount_0f7a4_1, List.forall_mem_cons.mpr ⟨oJ6_bitCount_0f7a4_2, List.forall_mem_cons.mpr ⟨oJ6_bitCount_0f7a4_3, fun _ h => absurd h List.not_mem_nil⟩⟩⟩⟩
def tJ9_max_7cf53_0 : List (Nat × hyE) := [(0, .iload_n 0, 1, 0, 0, 0, 0, 0, none, []),
  (1, .iload_n 1, 2, 1, 0, 0, 0, 0, none, []),
  (2, .if_icmp .lt 7, 5, 9, 0, 0, 0, 0, none, []),
  (5, .iload_n 0, 6, 0, 0, 0, 0, 0, none, []),
  (6, .goto 4, 9, 10, 0, 0, 0, 0, none, []),
  (9, .iload_n 1, 10, 1, 0, 0, 0, 0, none, []),
  (10, .ireturn, 11, 0, 0, 0, 0, 0, none, [])]
theorem oJ9_max_7cf53_0 : ∀ q ∈ tJ9_max_7cf53_0, hy_ok mJ9_max_7cf53 q.1 q.2 = true := by decide +kernel
def tJ9_max_7cf53 : hyT := [tJ9_max_7cf53_0]
theorem oJ9_max_7cf53 : hy_tok mJ9_max_7cf53 tJ9_max_7cf53 := List.forall_mem_cons.mpr ⟨oJ9_max_7cf53_0, fun _ h => absurd h List.not_mem_nil⟩
def tJ9_min_7cf53_0 : List (Nat × hyE) := [(0, .iload_n 0, 1, 0, 0, 0, 0, 0, none, []),
  (1, .iload_n 1, 2, 1, 0, 0, 0, 0, none, []),
  (2, .if_icmp .gt 7, 5, 9, 0, 0, 0, 0, none, []),
  (5, .iload_n 0, 6, 0, 0, 0, 0, 0, none, []),
  (6, .goto 4, 9, 10, 0, 0, 0, 0, none, []),
  (9, .iload_n 1, 10, 1, 0, 0, 0, 0, none, []),
  (10, .ireturn, 11, 0, 0, 0, 0, 0, none, [])]
theorem oJ9_min_7cf53_0 : ∀ q ∈ tJ9_min_7cf53_0, hy_ok mJ9_min_7cf53 q.1 q.2 = true := by decide +kernel
def tJ9_min_7cf53 : hyT := [tJ9_min_7cf53_0]
theorem oJ9_min_7cf53 : hy_tok mJ9_min_7cf53 tJ9_min_7cf53 := List.forall_mem_cons.mpr ⟨oJ9_min_7cf53_0, fun _ h => absurd h List.not_mem_nil⟩
def tX5_within_0 : List (Nat × hyE) := [(0, .iload_n 0, 1, 0, 0, 0, 0, 0, none, []),
  (1, .iload_n 1, 2, 1, 0, 0, 0, 0, none, []),
  (2, .if_icmp .lt 12, 5, 14, 0, 0, 0, 0, none, []),
  (5, .iload_n 0, 6, 0, 0, 0, 0, 0, none, []),
  (6, .iload_n 2, 7, 2, 0, 0, 0, 0, none, []),
  (7, .if_icmp .gt 7, 10, 14, 0, 0, 0, 0, none, []),
  (10, .iconst 1, 11, 0, 0, 0, 0, 1, none, []),
  (11, .goto 4, 14, 15, 0, 0, 0, 0, none, []),
  (14, .iconst 0, 15, 0, 0, 0, 0, 0, none, []),
  (15, .ireturn, 16, 0, 0, 0, 0, 0, none, [])]
theorem oX5_within_0 : ∀ q ∈ tX5_within_0, hy_ok mX5_within q.1 q.2 = true := by decide +kernel
def tX5_within : hyT := [tX5_within_0]
theorem oX5_within : hy_tok mX5_within tX5_within := List.forall_mem_cons.mpr ⟨oX5_within_0, fun _ h => absurd h List.not_mem_nil⟩
def tX6_init_0 : List (Nat × hyE) := [(0, .aload_n 0, 1, 0, 0, 0, 0, 0, none, []),
  (1, .invokespecial 1, 4, 0, 0, 0, 0, 0, none, []),
  (4, .aload_n 0, 5, 0, 0, 0, 0, 0, none, []),
  (5, .bipush 8, 7, 0, 0, 0, 0, 8, none, []),
  (7, .newarray .int, 9, 0, 0, 0, 0, 0, none, []),
  (9, .putfield 7, 12, 6, 1, 2, 0, 0, none, []),
  (12, .aload_n 0, 13, 0, 0, 0, 0, 0, none, []),
  (13, .bipush 10, 15, 0, 0, 0, 0, 10, none, []),
  (15, .newarray .int, 17, 0, 0, 0, 0, 0, none, [])]
theorem oX6_init_0 : ∀ q ∈ tX6_init_0, hy_ok mX6_init q.1 q.2 = true := by decide +kernel
def tX6_init_1 : List (Nat × hyE) := [(17, .putfield 13, 20, 6, 2, 2, 0, 0, none, []),
  (20, .aload_n 0, 21, 0, 0, 0, 0, 0, none, []),
  (21, .bipush 24, 23, 0, 0, 0, 0, 24, none, []),
  (23, .newarray .int, 25, 0, 0, 0, 0, 0, none, []),
  (25, .putfield 16, 28, 6, 4, 2, 0, 0, none, []),
  (28, .aload_n 0, 29, 0, 0, 0, 0, 0, none, []),
  (29, .bipush 24, 31, 0, 0, 0, 0, 24, none, []),
  (31, .newarray .int, 33, 0, 0, 0, 0, 0, none, [])]
theorem oX6_init_1 : ∀ q ∈ tX6_init_1, hy_ok mX6_init q.1 q.2 = true := by decide +kernel
def tX6_init_2 : List (Nat × hyE) := [(33, .putfield 19, 36, 6, 5, 2, 0, 0, none, []),
  (36, .aload_n 0, 37, 0, 0, 0, 0, 0, none, []),
  (37, .bipush 24, 39, 0, 0, 0, 0, 24, none, []),
  (39, .newarray .int, 41, 0, 0, 0, 0, 0, none, []),
  (41, .putfield 22, 44, 6, 6, 2, 0, 0, none, []),
  (44, .aload_n 0, 45, 0, 0, 0, 0, 0, none, []),
  (45, .bipush 24, 47, 0, 0, 0, 0, 24, none, []),
  (47, .newarray .int, 49, 0, 0, 0, 0, 0, none, [])]
theorem oX6_init_2 : ∀ q ∈ tX6_init_2, hy_ok mX6_init q.1 q.2 = true := by decide +kernel
def tX6_init_3 : List (Nat × hyE) := [(49, .putfield 25, 52, 6, 7, 2, 0, 0, none, []),
  (52, .aload_n 0, 53, 0, 0, 0, 0, 0, none, []),
  (53, .bipush 24, 55, 0, 0, 0, 0, 24, none, []),
  (55, .newarray .int, 57, 0, 0, 0, 0, 0, none, []),
  (57, .putfield 28, 60, 6, 8, 2, 0, 0, none, []),
  (60, .aload_n 0, 61, 0, 0, 0, 0, 0, none, []),
  (61, .bipush 24, 63, 0, 0, 0, 0, 24, none, []),
  (63, .newarray .int, 65, 0, 0, 0, 0, 0, none, [])]
theorem oX6_init_3 : ∀ q ∈ tX6_init_3, hy_ok mX6_init q.1 q.2 = true := by decide +kernel
def tX6_init_4 : List (Nat × hyE) := [(65, .putfield 31, 68, 6, 9, 2, 0, 0, none, []),
  (68, .aload_n 0, 69, 0, 0, 0, 0, 0, none, []),
  (69, .bipush 8, 71, 0, 0, 0, 0, 8, none, []),
  (71, .newarray .int, 73, 0, 0, 0, 0, 0, none, []),
  (73, .putfield 34, 76, 6, 11, 2, 0, 0, none, []),
  (76, .aload_n 0, 77, 0, 0, 0, 0, 0, none, []),
  (77, .bipush 8, 79, 0, 0, 0, 0, 8, none, []),
  (79, .newarray .int, 81, 0, 0, 0, 0, 0, none, [])]
theorem oX6_init_4 : ∀ q ∈ tX6_init_4, hy_ok mX6_init q.1 q.2 = true := by decide +kernel
def tX6_init_5 : List (Nat × hyE) := [(81, .putfield 37, 84, 6, 13, 2, 0, 0, none, []),
  (84, .aload_n 0, 85, 0, 0, 0, 0, 0, none, []),
  (85, .bipush 7, 87, 0, 0, 0, 0, 7, none, []),
  (87, .newarray .int, 89, 0, 0, 0, 0, 0, none, []),
  (89, .putfield 40, 92, 6, 16, 2, 0, 0, none, []),
  (92, .aload_n 0, 93, 0, 0, 0, 0, 0, none, []),
  (93, .bipush 7, 95, 0, 0, 0, 0, 7, none, []),
  (95, .newarray .int, 97, 0, 0, 0, 0, 0, none, [])]
theorem oX6_init_5 : ∀ q ∈ tX6_init_5, hy_ok mX6_init q.1 q.2 = true := by decide +kernel
def tX6_init_6 : List (Nat × hyE) := [(97, .putfield 43, 100, 6, 17, 2, 0, 0, none, []),
  (100, .aload_n 0, 101, 0, 0, 0, 0, 0, none, []),
  (101, .bipush 7, 103, 0, 0, 0, 0, 7, none, []),
  (103, .newarray .int, 105, 0, 0, 0, 0, 0, none, []),
  (105, .putfield 46, 108, 6, 18, 2, 0, 0, none, []),
  (108, .aload_n 0, 109, 0, 0, 0, 0, 0, none, []),
  (109, .bipush 7, 111, 0, 0, 0, 0, 7, none, []),
  (111, .newarray .int, 113, 0, 0, 0, 0, 0, none, [])]
theorem oX6_init_6 : ∀ q ∈ tX6_init_6, hy_ok mX6_init q.1 q.2 = true := by decide +kernel
def tX6_init_7 : List (Nat × hyE) := [(113, .putfield 49, 116, 6, 19, 2, 0, 0, none, []),
  (116, .aload_n 0, 117, 0, 0, 0, 0, 0, none, []),
  (117, .iconst 2, 118, 0, 0, 0, 0, 2, none, []),
  (118, .putfield 52, 121, 6, 20, 0, 0, 0, none, []),
  (121, .aload_n 0, 122, 0, 0, 0, 0, 0, none, []),
  (122, .bipush 6, 124, 0, 0, 0, 0, 6, none, []),
  (124, .newarray .int, 126, 0, 0, 0, 0, 0, none, []),
  (126, .putfield 56, 129, 6, 22, 2, 0, 0, none, [])]
theorem oX6_init_7 : ∀ q ∈ tX6_init_7, hy_ok mX6_init q.1 q.2 = true := by decide +kernel
def tX6_init_8 : List (Nat × hyE) := [(129, .aload_n 0, 130, 0, 0, 0, 0, 0, none, []),
  (130, .bipush 6, 132, 0, 0, 0, 0, 6, none, []),
  (132, .newarray .int, 134, 0, 0, 0, 0, 0, none, []),
  (134, .putfield 59, 137, 6, 23, 2, 0, 0, none, []),
  (137, .aload_n 0, 138, 0, 0, 0, 0, 0, none, []),
  (138, .bipush 8, 140, 0, 0, 0, 0, 8, none, []),
  (140, .newarray .int, 142, 0, 0, 0, 0, 0, none, []),
  (142, .putfield 62, 145, 6, 25, 2, 0, 0, none, [])]
theorem oX6_init_8 : ∀ q ∈ tX6_init_8, hy_ok mX6_init q.1 q.2 = true := by decide +kernel
def tX6_init_9 : List (Nat × hyE) := [(145, .aload_n 0, 146, 0, 0, 0, 0, 0, none, []),
  (146, .bipush 8, 148, 0, 0, 0, 0, 8, none, []),
  (148, .newarray .int, 150, 0, 0, 0, 0, 0, none, []),
  (150, .putfield 65, 153, 6, 26, 2, 0, 0, none, []),
  (153, .aload_n 0, 154, 0, 0, 0, 0, 0, none, []),
  (154, .sipush (-200), 157, 0, 0, 0, 0, (-200), none, []),
  (157, .putfield 68, 160, 6, 28, 0, 0, 0, none, [])]
theorem oX6_init_9 : ∀ q ∈ tX6_init_9, hy_ok mX6_init q.1 q.2 = true := by decide +kernel
def tX6_init_10 : List (Nat × hyE) := [(160, .aload_n 0, 161, 0, 0, 0, 0, 0, none, []),
  (161, .sipush 200, 164, 0, 0, 0, 0, 200, none, []),
  (164, .putfield 71, 167, 6, 29, 0, 0, 0, none, []),
  (167, .aload_n 0, 168, 0, 0, 0, 0, 0, none, []),
  (168, .sipush 256, 171, 0, 0, 0, 0, 256, none, []),
  (171, .newarray .boolean, 173, 1, 0, 0, 0, 0, none, []),
  (173, .putfield 74, 176, 6, 30, 2, 0, 0, none, [])]
theorem oX6_init_10 : ∀ q ∈ tX6_init_10, hy_ok mX6_init q.1 q.2 = true := by decide +kernel
def tX6_init_11 : List (Nat × hyE) := [(176, .aload_n 0, 177, 0, 0, 0, 0, 0, none, []),
  (177, .bipush 7, 179, 0, 0, 0, 0, 7, none, []),
  (179, .newarray .int, 181, 0, 0, 0, 0, 0, none, []),
  (181, .putfield 78, 184, 6, 31, 2, 0, 0, none, []),
  (184, .aload_n 0, 185, 0, 0, 0, 0, 0, none, []),
  (185, .bipush 7, 187, 0, 0, 0, 0, 7, none, []),
  (187, .newarray .int, 189, 0, 0, 0, 0, 0, none, []),
  (189, .putfield 81, 192, 6, 32, 2, 0, 0, none, [])]
theorem oX6_init_11 : ∀ q ∈ tX6_init_11, hy_ok mX6_init q.1 q.2 = true := by decide +kernel
def tX6_init_12 : List (Nat × hyE) := [(192, .aload_n 0, 193, 0, 0, 0, 0, 0, none, []),
  (193, .bipush 8, 195, 0, 0, 0, 0, 8, none, []),
  (195, .newarray .int, 197, 0, 0, 0, 0, 0, none, []),
  (197, .putfield 84, 200, 6, 34, 2, 0, 0, none, []),
  (200, .aload_n 0, 201, 0, 0, 0, 0, 0, none, []),
  (201, .bipush 8, 203, 0, 0, 0, 0, 8, none, []),
  (203, .newarray .int, 205, 0, 0, 0, 0, 0, none, []),
  (205, .putfield 87, 208, 6, 35, 2, 0, 0, none, [])]
theorem oX6_init_12 : ∀ q ∈ tX6_init_12, hy_ok mX6_init q.1 q.2 = true := by decide +kernel
def tX6_init_13 : List (Nat × hyE) := [(208, .iconst 0, 209, 0, 0, 0, 0, 0, none, []),
  (209, .istore_n 1, 210, 1, 0, 0, 0, 0, none, []),
  (210, .iload_n 1, 211, 1, 0, 0, 0, 0, none, []),
  (211, .bipush 10, 213, 0, 0, 0, 0, 10, none, []),
  (213, .if_icmp .ge 18, 216, 231, 0, 0, 0, 0, none, []),
  (216, .aload_n 0, 217, 0, 0, 0, 0, 0, none, []),
  (217, .getfield 13, 220, 6, 2, 0, 0, 0, none, []),
  (220, .iload_n 1, 221, 1, 0, 0, 0, 0, none, []),
  (221, .iconst 1, 222, 0, 0, 0, 0, 1, none, []),
  (222, .iload_n 1, 223, 1, 0, 0, 0, 0, none, []),
  (223, .iadd, 224, 0, 0, 0, 0, 0, none, [])]
theorem oX6_init_13 : ∀ q ∈ tX6_init_13, hy_ok mX6_init q.1 q.2 = true := by decide +kernel
def tX6_init_14 : List (Nat × hyE) := [(224, .iastore, 225, 0, 0, 0, 0, 0, none, []),
  (225, .iinc 1 1, 228, 1, 0, 0, 0, 1, none, []),
  (228, .goto (-18), 231, 210, 0, 0, 0, 0, none, []),
  (231, .return_, 232, 0, 0, 0, 0, 0, none, [])]
theorem oX6_init_14 : ∀ q ∈ tX6_init_14, hy_ok mX6_init q.1 q.2 = true := by decide +kernel
def tX6_init : hyT := [tX6_init_0, tX6_init_1, tX6_init_2, tX6_init_3, tX6_init_4, tX6_init_5, tX6_init_6, tX6_init_7, tX6_init_8, tX6_init_9, tX6_init_10, tX6_init_11, tX6_init_12, tX6_init_13, tX6_init_14]
theorem oX6_init : hy_tok mX6_init tX6_init := List.forall_mem_cons.mpr ⟨oX6_init_0, List.forall_mem_cons.mpr ⟨oX6_init_1, List.forall_mem_cons.mpr ⟨oX6_init_2, List.forall_mem_cons.mpr ⟨oX6_init_3, List.forall_mem_cons.mpr ⟨oX6_init_4, List.forall_mem_cons.mpr ⟨oX6_init_5, List.forall_mem_cons.mpr ⟨oX6_init_6, List.forall_mem_cons.mpr ⟨oX6_init_7, List.forall_mem_cons.mpr ⟨oX6_init_8, List.forall_mem_cons.mpr ⟨oX6_init_9, List.forall_mem_cons.mpr ⟨oX6_init_10, List.forall_mem_cons.mpr ⟨oX6_init_11, List.forall_mem_cons.mpr ⟨oX6_init_12, List.forall_mem_cons.mpr ⟨oX6_init_13, List.forall_mem_cons.mpr ⟨oX6_init_14, fun _ h => absurd h List.not_mem_nil⟩⟩⟩⟩⟩⟩⟩⟩⟩⟩⟩⟩⟩⟩⟩
def tX6_in_0 : List (Nat × hyE) := [(0, .iload_n 0, 1, 0, 0, 0, 0, 0, none, []),
  (1, .iload_n 1, 2, 1, 0, 0, 0, 0, none, []),
  (2, .if_icmp .lt 12, 5, 14, 0, 0, 0, 0, none, []),
  (5, .iload_n 0, 6, 0, 0, 0, 0, 0, none, []),
  (6, .iload_n 2, 7, 2, 0, 0, 0, 0, none, []),
  (7, .if_icmp .gt 7, 10, 14, 0, 0, 0, 0, none, []),
  (10, .iconst 1, 11, 0, 0, 0, 0, 1, none, []),
  (11, .goto 4, 14, 15, 0, 0, 0, 0, none, []),
  (14, .iconst 0, 15, 0, 0, 0, 0, 0, none, []),
  (15, .ireturn, 16, 0, 0, 0, 0, 0, none, [])]
theorem oX6_in_0 : ∀ q ∈ tX6_in_0, hy_ok mX6_in q.1 q.2 = true := by decide +kernel
def tX6_in : hyT := [tX6_in_0]
theorem oX6_in : hy_tok mX6_in tX6_in := List.forall_mem_cons.mpr ⟨oX6_in_0, fun _ h => absurd h List.not_mem_nil⟩
def tX6_isNet_0 : List (Nat × hyE) := [(0, .iload_n 1, 1, 1, 0, 0, 0, 0, none, []),
  (1, .iconst 0, 2, 0, 0, 0, 0, 0, none, []),
  (2, .aload_n 0, 3, 0, 0, 0, 0, 0, none, []),
  (3, .getfield 90, 6, 6, 3, 0, 0, 0, none, []),
  (6, .iconst 1, 7, 0, 0, 0, 0, 1, none, []),
  (7, .isub, 8, 0, 0, 0, 0, 0, none, []),
  (8, .invokestatic 93, 11, 2, 3, 0, 0, 0, (some mX6_in), []),
  (11, .ireturn, 12, 0, 0, 0, 0, 0, none, [])]
theorem oX6_isNet_0 : ∀ q ∈ tX6_isNet_0, hy_ok mX6_isNet q.1 q.2 = true := by decide +kernel
def tX6_isNet : hyT := [tX6_isNet_0]
theorem oX6_isNet : hy_tok mX6_isNet tX6_isNet := List.forall_mem_cons.mpr ⟨oX6_isNet_0, fun _ h => absurd h List.not_mem_nil⟩
def tX6_salt_0 : List (Nat × hyE) := [(0, .iload_n 1, 1, 1, 0, 0, 0, 0, none, []),
  (1, .iconst 0, 2, 0, 0, 0, 0, 0, none, []),
  (2, .bipush 7, 4, 0, 0, 0, 0, 7, none, []),
  (4, .invokestatic 93, 7, 2, 3, 0, 0, 0, (some mX6_in), []),
  (7, .ifCond .eq 13, 10, 20, 0, 0, 0, 0, none, []),
  (10, .iload_n 2, 11, 2, 0, 0, 0, 0, none, []),
  (11, .iconst 0, 12, 0, 0, 0, 0, 0, none, []),
  (12, .bipush 9, 14, 0, 0, 0, 0, 9, none, []),
  (14, .invokestatic 93, 17, 2, 3, 0, 0, 0, (some mX6_in), [])]
theorem oX6_salt_0 : ∀ q ∈ tX6_salt_0, hy_ok mX6_salt q.1 q.2 = true := by decide +kernel
def tX6_salt_1 : List (Nat × hyE) := [(17, .ifCond .ne 5, 20, 22, 0, 0, 0, 0, none, []),
  (20, .iconst 0, 21, 0, 0, 0, 0, 0, none, []),
  (21, .ireturn, 22, 0, 0, 0, 0, 0, none, []),
  (22, .aload_n 0, 23, 0, 0, 0, 0, 0, none, []),
  (23, .getfield 7, 26, 6, 1, 0, 0, 0, none, []),
  (26, .iload_n 1, 27, 1, 0, 0, 0, 0, none, []),
  (27, .iload_n 2, 28, 2, 0, 0, 0, 0, none, []),
  (28, .iastore, 29, 0, 0, 0, 0, 0, none, []),
  (29, .iconst 1, 30, 0, 0, 0, 0, 1, none, []),
  (30, .ireturn, 31, 0, 0, 0, 0, 0, none, [])]
theorem oX6_salt_1 : ∀ q ∈ tX6_salt_1, hy_ok mX6_salt q.1 q.2 = true := by decide +kernel
def tX6_salt : hyT := [tX6_salt_0, tX6_salt_1]
theorem oX6_salt : hy_tok mX6_salt tX6_salt := List.forall_mem_cons.mpr ⟨oX6_salt_0, List.forall_mem_cons.mpr ⟨oX6_salt_1, fun _ h => absurd h List.not_mem_nil⟩⟩
def tX6_ripens_0 : List (Nat × hyE) := [(0, .iload_n 1, 1, 1, 0, 0, 0, 0, none, []),
  (1, .iconst 0, 2, 0, 0, 0, 0, 0, none, []),
  (2, .bipush 9, 4, 0, 0, 0, 0, 9, none, []),
  (4, .invokestatic 93, 7, 2, 3, 0, 0, 0, (some mX6_in), []),
  (7, .ifCond .eq 13, 10, 20, 0, 0, 0, 0, none, []),
  (10, .iload_n 2, 11, 2, 0, 0, 0, 0, none, []),
  (11, .iconst 0, 12, 0, 0, 0, 0, 0, none, []),
  (12, .bipush 50, 14, 0, 0, 0, 0, 50, none, []),
  (14, .invokestatic 93, 17, 2, 3, 0, 0, 0, (some mX6_in), [])]
theorem oX6_ripens_0 : ∀ q ∈ tX6_ripens_0, hy_ok mX6_ripens q.1 q.2 = true := by decide +kernel
def tX6_ripens_1 : List (Nat × hyE) := [(17, .ifCond .ne 5, 20, 22, 0, 0, 0, 0, none, []),
  (20, .iconst 0, 21, 0, 0, 0, 0, 0, none, []),
  (21, .ireturn, 22, 0, 0, 0, 0, 0, none, []),
  (22, .aload_n 0, 23, 0, 0, 0, 0, 0, none, []),
  (23, .getfield 13, 26, 6, 2, 0, 0, 0, none, []),
  (26, .iload_n 1, 27, 1, 0, 0, 0, 0, none, []),
  (27, .iload_n 2, 28, 2, 0, 0, 0, 0, none, []),
  (28, .iastore, 29, 0, 0, 0, 0, 0, none, []),
  (29, .iconst 1, 30, 0, 0, 0, 0, 1, none, []),
  (30, .ireturn, 31, 0, 0, 0, 0, 0, none, [])]
theorem oX6_ripens_1 : ∀ q ∈ tX6_ripens_1, hy_ok mX6_ripens q.1 q.2 = true := by decide +kernel
def tX6_ripens : hyT := [tX6_ripens_0, tX6_ripens_1]
theorem oX6_ripens : hy_tok mX6_ripens tX6_ripens := List.forall_mem_cons.mpr ⟨oX6_ripens_0, List.forall_mem_cons.mpr ⟨oX6_ripens_1, fun _ h => absurd h List.not_mem_nil⟩⟩
def tX6_net_0 : List (Nat × hyE) := [(0, .iload_n 1, 1, 1, 0, 0, 0, 0, none, []),
  (1, .iconst 0, 2, 0, 0, 0, 0, 0, none, []),
  (2, .bipush 7, 4, 0, 0, 0, 0, 7, none, []),
  (4, .invokestatic 93, 7, 2, 3, 0, 0, 0, (some mX6_in), []),
  (7, .ifCond .eq 46, 10, 53, 0, 0, 0, 0, none, []),
  (10, .iload_n 2, 11, 2, 0, 0, 0, 0, none, []),
  (11, .iconst 0, 12, 0, 0, 0, 0, 0, none, []),
  (12, .sipush 255, 15, 0, 0, 0, 0, 255, none, []),
  (15, .invokestatic 93, 18, 2, 3, 0, 0, 0, (some mX6_in), [])]
theorem oX6_net_0 : ∀ q ∈ tX6_net_0, hy_ok mX6_net q.1 q.2 = true := by decide +kernel
def tX6_net_1 : List (Nat × hyE) := [(18, .ifCond .eq 35, 21, 53, 0, 0, 0, 0, none, []),
  (21, .iload_n 3, 22, 3, 0, 0, 0, 0, none, []),
  (22, .iconst 1, 23, 0, 0, 0, 0, 1, none, []),
  (23, .sipush 1000, 26, 0, 0, 0, 0, 1000, none, []),
  (26, .invokestatic 93, 29, 2, 3, 0, 0, 0, (some mX6_in), []),
  (29, .ifCond .eq 24, 32, 53, 0, 0, 0, 0, none, [])]
theorem oX6_net_1 : ∀ q ∈ tX6_net_1, hy_ok mX6_net q.1 q.2 = true := by decide +kernel
def tX6_net_2 : List (Nat × hyE) := [(32, .iload 4, 34, 4, 0, 0, 0, 0, none, []),
  (34, .iconst 1, 35, 0, 0, 0, 0, 1, none, []),
  (35, .sipush 2000, 38, 0, 0, 0, 0, 2000, none, []),
  (38, .invokestatic 93, 41, 2, 3, 0, 0, 0, (some mX6_in), []),
  (41, .ifCond .eq 12, 44, 53, 0, 0, 0, 0, none, []),
  (44, .aload_n 0, 45, 0, 0, 0, 0, 0, none, []),
  (45, .getfield 90, 48, 6, 3, 0, 0, 0, none, [])]
theorem oX6_net_2 : ∀ q ∈ tX6_net_2, hy_ok mX6_net q.1 q.2 = true := by decide +kernel
def tX6_net_3 : List (Nat × hyE) := [(48, .bipush 24, 50, 0, 0, 0, 0, 24, none, []),
  (50, .if_icmp .ne 5, 53, 55, 0, 0, 0, 0, none, []),
  (53, .iconst (-1), 54, 0, 0, 0, 0, (-1), none, []),
  (54, .ireturn, 55, 0, 0, 0, 0, 0, none, []),
  (55, .aload_n 0, 56, 0, 0, 0, 0, 0, none, []),
  (56, .getfield 16, 59, 6, 4, 0, 0, 0, none, []),
  (59, .aload_n 0, 60, 0, 0, 0, 0, 0, none, []),
  (60, .getfield 90, 63, 6, 3, 0, 0, 0, none, []),
  (63, .iload_n 1, 64, 1, 0, 0, 0, 0, none, [])]
theorem oX6_net_3 : ∀ q ∈ tX6_net_3, hy_ok mX6_net q.1 q.2 = true := by decide +kernel
def tX6_net_4 : List (Nat × hyE) := [(64, .iastore, 65, 0, 0, 0, 0, 0, none, []),
  (65, .aload_n 0, 66, 0, 0, 0, 0, 0, none, []),
  (66, .getfield 19, 69, 6, 5, 0, 0, 0, none, []),
  (69, .aload_n 0, 70, 0, 0, 0, 0, 0, none, []),
  (70, .getfield 90, 73, 6, 3, 0, 0, 0, none, []),
  (73, .iload_n 2, 74, 2, 0, 0, 0, 0, none, []),
  (74, .iastore, 75, 0, 0, 0, 0, 0, none, []),
  (75, .aload_n 0, 76, 0, 0, 0, 0, 0, none, []),
  (76, .getfield 22, 79, 6, 6, 0, 0, 0, none, []),
  (79, .aload_n 0, 80, 0, 0, 0, 0, 0, none, [])]
theorem oX6_net_4 : ∀ q ∈ tX6_net_4, hy_ok mX6_net q.1 q.2 = true := by decide +kernel
def tX6_net_5 : List (Nat × hyE) := [(80, .getfield 90, 83, 6, 3, 0, 0, 0, none, []),
  (83, .iload_n 3, 84, 3, 0, 0, 0, 0, none, []),
  (84, .iastore, 85, 0, 0, 0, 0, 0, none, []),
  (85, .aload_n 0, 86, 0, 0, 0, 0, 0, none, []),
  (86, .getfield 25, 89, 6, 7, 0, 0, 0, none, []),
  (89, .aload_n 0, 90, 0, 0, 0, 0, 0, none, []),
  (90, .getfield 90, 93, 6, 3, 0, 0, 0, none, []),
  (93, .iload 4, 95, 4, 0, 0, 0, 0, none, []),
  (95, .iastore, 96, 0, 0, 0, 0, 0, none, [])]
theorem oX6_net_5 : ∀ q ∈ tX6_net_5, hy_ok mX6_net q.1 q.2 = true := by decide +kernel
def tX6_net_6 : List (Nat × hyE) := [(96, .aload_n 0, 97, 0, 0, 0, 0, 0, none, []),
  (97, .getfield 28, 100, 6, 8, 0, 0, 0, none, []),
  (100, .aload_n 0, 101, 0, 0, 0, 0, 0, none, []),
  (101, .getfield 90, 104, 6, 3, 0, 0, 0, none, []),
  (104, .iconst 0, 105, 0, 0, 0, 0, 0, none, []),
  (105, .iastore, 106, 0, 0, 0, 0, 0, none, []),
  (106, .aload_n 0, 107, 0, 0, 0, 0, 0, none, []),
  (107, .getfield 31, 110, 6, 9, 0, 0, 0, none, []),
  (110, .aload_n 0, 111, 0, 0, 0, 0, 0, none, []),
  (111, .getfield 90, 114, 6, 3, 0, 0, 0, none, [])]
theorem oX6_net_6 : ∀ q ∈ tX6_net_6, hy_ok mX6_net q.1 q.2 = true := by decide +kernel
def tX6_net_7 : List (Nat × hyE) := [(114, .iconst 0, 115, 0, 0, 0, 0, 0, none, []),
  (115, .iastore, 116, 0, 0, 0, 0, 0, none, []),
  (116, .aload_n 0, 117, 0, 0, 0, 0, 0, none, []),
  (117, .dup, 118, 0, 0, 0, 0, 0, none, []),
  (118, .getfield 90, 121, 6, 3, 0, 0, 0, none, []),
  (121, .iconst 1, 122, 0, 0, 0, 0, 1, none, []),
  (122, .iadd, 123, 0, 0, 0, 0, 0, none, []),
  (123, .putfield 90, 126, 6, 3, 0, 0, 0, none, []),
  (126, .aload_n 0, 127, 0, 0, 0, 0, 0, none, []),
  (127, .getfield 90, 130, 6, 3, 0, 0, 0, none, [])]
theorem oX6_net_7 : ∀ q ∈ tX6_net_7, hy_ok mX6_net q.1 q.2 = true := by decide +kernel
def tX6_net_8 : List (Nat × hyE) := [(130, .iconst 1, 131, 0, 0, 0, 0, 1, none, []),
  (131, .isub, 132, 0, 0, 0, 0, 0, none, []),
  (132, .ireturn, 133, 0, 0, 0, 0, 0, none, [])]
theorem oX6_net_8 : ∀ q ∈ tX6_net_8, hy_ok mX6_net q.1 q.2 = true := by decide +kernel
def tX6_net : hyT := [tX6_net_0, tX6_net_1, tX6_net_2, tX6_net_3, tX6_net_4, tX6_net_5, tX6_net_6, tX6_net_7, tX6_net_8]
theorem oX6_net : hy_tok mX6_net tX6_net := List.forall_mem_cons.mpr ⟨oX6_net_0, List.forall_mem_cons.mpr ⟨oX6_net_1, List.forall_mem_cons.mpr ⟨oX6_net_2, List.forall_mem_cons.mpr ⟨oX6_net_3, List.forall_mem_cons.mpr ⟨oX6_net_4, List.forall_mem_cons.mpr ⟨oX6_net_5, List.forall_mem_cons.mpr ⟨oX6_net_6, List.forall_mem_cons.mpr ⟨oX6_net_7, List.forall_mem_cons.mpr ⟨oX6_net_8, fun _ h => absurd h List.not_mem_nil⟩⟩⟩⟩⟩⟩⟩⟩⟩
def tX6_weeks_0 : List (Nat × hyE) := [(0, .iload_n 1, 1, 1, 0, 0, 0, 0, none, []),
  (1, .iconst 1, 2, 0, 0, 0, 0, 1, none, []),
  (2, .bipush 100, 4, 0, 0, 0, 0, 100, none, []),
  (4, .invokestatic 93, 7, 2, 3, 0, 0, 0, (some mX6_in), []),
  (7, .ifCond .eq 15, 10, 22, 0, 0, 0, 0, none, []),
  (10, .aload_n 0, 11, 0, 0, 0, 0, 0, none, []),
  (11, .getfield 97, 14, 6, 0, 0, 0, 0, none, []),
  (14, .iload_n 1, 15, 1, 0, 0, 0, 0, none, []),
  (15, .iadd, 16, 0, 0, 0, 0, 0, none, [])]
theorem oX6_weeks_0 : ∀ q ∈ tX6_weeks_0, hy_ok mX6_weeks q.1 q.2 = true := by decide +kernel
def tX6_weeks_1 : List (Nat × hyE) := [(16, .sipush 500, 19, 0, 0, 0, 0, 500, none, []),
  (19, .if_icmp .le 5, 22, 24, 0, 0, 0, 0, none, []),
  (22, .iconst (-1), 23, 0, 0, 0, 0, (-1), none, []),
  (23, .ireturn, 24, 0, 0, 0, 0, 0, none, []),
  (24, .iconst 0, 25, 0, 0, 0, 0, 0, none, []),
  (25, .istore_n 2, 26, 2, 0, 0, 0, 0, none, []),
  (26, .iload_n 2, 27, 2, 0, 0, 0, 0, none, []),
  (27, .aload_n 0, 28, 0, 0, 0, 0, 0, none, []),
  (28, .getfield 90, 31, 6, 3, 0, 0, 0, none, []),
  (31, .if_icmp .ge 49, 34, 80, 0, 0, 0, 0, none, [])]
theorem oX6_weeks_1 : ∀ q ∈ tX6_weeks_1, hy_ok mX6_weeks q.1 q.2 = true := by decide +kernel
def tX6_weeks_2 : List (Nat × hyE) := [(34, .aload_n 0, 35, 0, 0, 0, 0, 0, none, []),
  (35, .getfield 28, 38, 6, 8, 0, 0, 0, none, []),
  (38, .iload_n 2, 39, 2, 0, 0, 0, 0, none, []),
  (39, .dup2, 40, 0, 0, 0, 0, 0, none, []),
  (40, .iaload, 41, 0, 0, 0, 0, 0, none, []),
  (41, .aload_n 0, 42, 0, 0, 0, 0, 0, none, []),
  (42, .getfield 31, 45, 6, 9, 0, 0, 0, none, []),
  (45, .iload_n 2, 46, 2, 0, 0, 0, 0, none, []),
  (46, .iaload, 47, 0, 0, 0, 0, 0, none, []),
  (47, .ifCond .ne 24, 50, 71, 0, 0, 0, 0, none, [])]
theorem oX6_weeks_2 : ∀ q ∈ tX6_weeks_2, hy_ok mX6_weeks q.1 q.2 = true := by decide +kernel
def tX6_weeks_3 : List (Nat × hyE) := [(50, .iload_n 1, 51, 1, 0, 0, 0, 0, none, []),
  (51, .aload_n 0, 52, 0, 0, 0, 0, 0, none, []),
  (52, .getfield 13, 55, 6, 2, 0, 0, 0, none, []),
  (55, .aload_n 0, 56, 0, 0, 0, 0, 0, none, []),
  (56, .getfield 7, 59, 6, 1, 0, 0, 0, none, []),
  (59, .aload_n 0, 60, 0, 0, 0, 0, 0, none, []),
  (60, .getfield 16, 63, 6, 4, 0, 0, 0, none, []),
  (63, .iload_n 2, 64, 2, 0, 0, 0, 0, none, [])]
theorem oX6_weeks_3 : ∀ q ∈ tX6_weeks_3, hy_ok mX6_weeks q.1 q.2 = true := by decide +kernel
def tX6_weeks_4 : List (Nat × hyE) := [(64, .iaload, 65, 0, 0, 0, 0, 0, none, []),
  (65, .iaload, 66, 0, 0, 0, 0, 0, none, []),
  (66, .iaload, 67, 0, 0, 0, 0, 0, none, []),
  (67, .imul, 68, 0, 0, 0, 0, 0, none, []),
  (68, .goto 4, 71, 72, 0, 0, 0, 0, none, []),
  (71, .iconst 0, 72, 0, 0, 0, 0, 0, none, []),
  (72, .iadd, 73, 0, 0, 0, 0, 0, none, []),
  (73, .iastore, 74, 0, 0, 0, 0, 0, none, []),
  (74, .iinc 2 1, 77, 2, 0, 0, 0, 1, none, []),
  (77, .goto (-51), 80, 26, 0, 0, 0, 0, none, [])]
theorem oX6_weeks_4 : ∀ q ∈ tX6_weeks_4, hy_ok mX6_weeks q.1 q.2 = true := by decide +kernel
def tX6_weeks_5 : List (Nat × hyE) := [(80, .aload_n 0, 81, 0, 0, 0, 0, 0, none, []),
  (81, .dup, 82, 0, 0, 0, 0, 0, none, []),
  (82, .getfield 97, 85, 6, 0, 0, 0, 0, none, []),
  (85, .iload_n 1, 86, 1, 0, 0, 0, 0, none, []),
  (86, .iadd, 87, 0, 0, 0, 0, 0, none, []),
  (87, .putfield 97, 90, 6, 0, 0, 0, 0, none, []),
  (90, .aload_n 0, 91, 0, 0, 0, 0, 0, none, []),
  (91, .getfield 97, 94, 6, 0, 0, 0, 0, none, []),
  (94, .ireturn, 95, 0, 0, 0, 0, 0, none, [])]
theorem oX6_weeks_5 : ∀ q ∈ tX6_weeks_5, hy_ok mX6_weeks q.1 q.2 = true := by decide +kernel
def tX6_weeks : hyT := [tX6_weeks_0, tX6_weeks_1, tX6_weeks_2, tX6_weeks_3, tX6_weeks_4, tX6_weeks_5]
theorem oX6_weeks : hy_tok mX6_weeks tX6_weeks := List.forall_mem_cons.mpr ⟨oX6_weeks_0, List.forall_mem_cons.mpr ⟨oX6_weeks_1, List.forall_mem_cons.mpr ⟨oX6_weeks_2, List.forall_mem_cons.mpr ⟨oX6_weeks_3, List.forall_mem_cons.mpr ⟨oX6_weeks_4, List.forall_mem_cons.mpr ⟨oX6_weeks_5, fun _ h => absurd h List.not_mem_nil⟩⟩⟩⟩⟩⟩
def tX6_fits_0 : List (Nat × hyE) := [(0, .aload_n 0, 1, 0, 0, 0, 0, 0, none, []),
  (1, .getfield 34, 4, 6, 11, 0, 0, 0, none, []),
  (4, .iload_n 1, 5, 1, 0, 0, 0, 0, none, []),
  (5, .iaload, 6, 0, 0, 0, 0, 0, none, []),
  (6, .iload_n 2, 7, 2, 0, 0, 0, 0, none, []),
  (7, .ishr, 8, 0, 0, 0, 0, 0, none, []),
  (8, .iconst 1, 9, 0, 0, 0, 0, 1, none, []),
  (9, .iand, 10, 0, 0, 0, 0, 0, none, []),
  (10, .iconst 1, 11, 0, 0, 0, 0, 1, none, []),
  (11, .if_icmp .ne 7, 14, 18, 0, 0, 0, 0, none, []),
  (14, .iconst 1, 15, 0, 0, 0, 0, 1, none, []),
  (15, .goto 4, 18, 19, 0, 0, 0, 0, none, [])]
theorem oX6_fits_0 : ∀ q ∈ tX6_fits_0, hy_ok mX6_fits q.1 q.2 = true := by decide +kernel
def tX6_fits_1 : List (Nat × hyE) := [(18, .iconst 0, 19, 0, 0, 0, 0, 0, none, []),
  (19, .ireturn, 20, 0, 0, 0, 0, 0, none, [])]
theorem oX6_fits_1 : ∀ q ∈ tX6_fits_1, hy_ok mX6_fits q.1 q.2 = true := by decide +kernel
def tX6_fits : hyT := [tX6_fits_0, tX6_fits_1]
theorem oX6_fits : hy_tok mX6_fits tX6_fits := List.forall_mem_cons.mpr ⟨oX6_fits_0, List.forall_mem_cons.mpr ⟨oX6_fits_1, fun _ h => absurd h List.not_mem_nil⟩⟩
def tX6_isWay_0 : List (Nat × hyE) := [(0, .iconst 1, 1, 0, 0, 0, 0, 1, none, []),
  (1, .aload_n 0, 2, 0, 0, 0, 0, 0, none, []),
  (2, .getfield 100, 5, 6, 10, 0, 0, 0, none, []),
  (5, .ishl, 6, 0, 0, 0, 0, 0, none, []),
  (6, .iconst 1, 7, 0, 0, 0, 0, 1, none, []),
  (7, .isub, 8, 0, 0, 0, 0, 0, none, []),
  (8, .istore_n 3, 9, 3, 0, 0, 0, 0, none, []),
  (9, .iconst 0, 10, 0, 0, 0, 0, 0, none, []),
  (10, .istore 4, 12, 4, 0, 0, 0, 0, none, []),
  (12, .iload 4, 14, 4, 0, 0, 0, 0, none, []),
  (14, .iload_n 3, 15, 3, 0, 0, 0, 0, none, []),
  (15, .if_icmp .gt 26, 18, 41, 0, 0, 0, 0, none, [])]
theorem oX6_isWay_0 : ∀ q ∈ tX6_isWay_0, hy_ok mX6_isWay q.1 q.2 = true := by decide +kernel
def tX6_isWay_1 : List (Nat × hyE) := [(18, .aload_n 0, 19, 0, 0, 0, 0, 0, none, []),
  (19, .getfield 74, 22, 6, 30, 0, 0, 0, none, []),
  (22, .iload 4, 24, 4, 0, 0, 0, 0, none, []),
  (24, .iload 4, 26, 4, 0, 0, 0, 0, none, []),
  (26, .ifCond .ne 7, 29, 33, 0, 0, 0, 0, none, []),
  (29, .iconst 1, 30, 0, 0, 0, 0, 1, none, []),
  (30, .goto 4, 33, 34, 0, 0, 0, 0, none, [])]
theorem oX6_isWay_1 : ∀ q ∈ tX6_isWay_1, hy_ok mX6_isWay q.1 q.2 = true := by decide +kernel
def tX6_isWay_2 : List (Nat × hyE) := [(33, .iconst 0, 34, 0, 0, 0, 0, 0, none, []),
  (34, .bastore, 35, 0, 0, 0, 0, 0, none, []),
  (35, .iinc 4 1, 38, 4, 0, 0, 0, 1, none, []),
  (38, .goto (-26), 41, 12, 0, 0, 0, 0, none, []),
  (41, .iconst 0, 42, 0, 0, 0, 0, 0, none, []),
  (42, .istore 4, 44, 4, 0, 0, 0, 0, none, []),
  (44, .iload 4, 46, 4, 0, 0, 0, 0, none, []),
  (46, .aload_n 0, 47, 0, 0, 0, 0, 0, none, []),
  (47, .getfield 90, 50, 6, 3, 0, 0, 0, none, [])]
theorem oX6_isWay_2 : ∀ q ∈ tX6_isWay_2, hy_ok mX6_isWay q.1 q.2 = true := by decide +kernel
def tX6_isWay_3 : List (Nat × hyE) := [(50, .if_icmp .ge 97, 53, 147, 0, 0, 0, 0, none, []),
  (53, .iload_n 3, 54, 3, 0, 0, 0, 0, none, []),
  (54, .istore 5, 56, 5, 0, 0, 0, 0, none, []),
  (56, .iload 5, 58, 5, 0, 0, 0, 0, none, []),
  (58, .ifCond .lt 83, 61, 141, 0, 0, 0, 0, none, []),
  (61, .iconst 0, 62, 0, 0, 0, 0, 0, none, []),
  (62, .istore 6, 64, 6, 0, 0, 0, 0, none, [])]
theorem oX6_isWay_3 : ∀ q ∈ tX6_isWay_3, hy_ok mX6_isWay q.1 q.2 = true := by decide +kernel
def tX6_isWay_4 : List (Nat × hyE) := [(64, .iload 6, 66, 6, 0, 0, 0, 0, none, []),
  (66, .aload_n 0, 67, 0, 0, 0, 0, 0, none, []),
  (67, .getfield 100, 70, 6, 10, 0, 0, 0, none, []),
  (70, .if_icmp .ge 65, 73, 135, 0, 0, 0, 0, none, []),
  (73, .aload_n 0, 74, 0, 0, 0, 0, 0, none, []),
  (74, .getfield 74, 77, 6, 30, 0, 0, 0, none, []),
  (77, .iload 5, 79, 5, 0, 0, 0, 0, none, []),
  (79, .baload, 80, 0, 0, 0, 0, 0, none, [])]
theorem oX6_isWay_4 : ∀ q ∈ tX6_isWay_4, hy_ok mX6_isWay q.1 q.2 = true := by decide +kernel
def tX6_isWay_5 : List (Nat × hyE) := [(80, .ifCond .eq 55, 83, 135, 0, 0, 0, 0, none, []),
  (83, .iload 5, 85, 5, 0, 0, 0, 0, none, []),
  (85, .iload 6, 87, 6, 0, 0, 0, 0, none, []),
  (87, .ishr, 88, 0, 0, 0, 0, 0, none, []),
  (88, .iconst 1, 89, 0, 0, 0, 0, 1, none, []),
  (89, .iand, 90, 0, 0, 0, 0, 0, none, []),
  (90, .ifCond .ne 39, 93, 129, 0, 0, 0, 0, none, []),
  (93, .aload_n 0, 94, 0, 0, 0, 0, 0, none, []),
  (94, .iload 6, 96, 6, 0, 0, 0, 0, none, [])]
theorem oX6_isWay_5 : ∀ q ∈ tX6_isWay_5, hy_ok mX6_isWay q.1 q.2 = true := by decide +kernel
def tX6_isWay_6 : List (Nat × hyE) := [(96, .iload 4, 98, 4, 0, 0, 0, 0, none, []),
  (98, .invokevirtual 103, 101, 0, 2, 0, 6, 0, (some mX6_fits), []),
  (101, .ifCond .eq 28, 104, 129, 0, 0, 0, 0, none, []),
  (104, .iload 6, 106, 6, 0, 0, 0, 0, none, []),
  (106, .iload_n 1, 107, 1, 0, 0, 0, 0, none, []),
  (107, .if_icmp .ne 9, 110, 116, 0, 0, 0, 0, none, []),
  (110, .iload 4, 112, 4, 0, 0, 0, 0, none, [])]
theorem oX6_isWay_6 : ∀ q ∈ tX6_isWay_6, hy_ok mX6_isWay q.1 q.2 = true := by decide +kernel
def tX6_isWay_7 : List (Nat × hyE) := [(112, .iload_n 2, 113, 2, 0, 0, 0, 0, none, []),
  (113, .if_icmp .ne 16, 116, 129, 0, 0, 0, 0, none, []),
  (116, .aload_n 0, 117, 0, 0, 0, 0, 0, none, []),
  (117, .getfield 74, 120, 6, 30, 0, 0, 0, none, []),
  (120, .iload 5, 122, 5, 0, 0, 0, 0, none, []),
  (122, .iconst 1, 123, 0, 0, 0, 0, 1, none, []),
  (123, .iload 6, 125, 6, 0, 0, 0, 0, none, []),
  (125, .ishl, 126, 0, 0, 0, 0, 0, none, []),
  (126, .ior, 127, 0, 0, 0, 0, 0, none, []),
  (127, .iconst 1, 128, 0, 0, 0, 0, 1, none, [])]
theorem oX6_isWay_7 : ∀ q ∈ tX6_isWay_7, hy_ok mX6_isWay q.1 q.2 = true := by decide +kernel
def tX6_isWay_8 : List (Nat × hyE) := [(128, .bastore, 129, 0, 0, 0, 0, 0, none, []),
  (129, .iinc 6 1, 132, 6, 0, 0, 0, 1, none, []),
  (132, .goto (-68), 135, 64, 0, 0, 0, 0, none, []),
  (135, .iinc 5 (-1), 138, 5, 0, 0, 0, (-1), none, []),
  (138, .goto (-82), 141, 56, 0, 0, 0, 0, none, []),
  (141, .iinc 4 1, 144, 4, 0, 0, 0, 1, none, [])]
theorem oX6_isWay_8 : ∀ q ∈ tX6_isWay_8, hy_ok mX6_isWay q.1 q.2 = true := by decide +kernel
def tX6_isWay_9 : List (Nat × hyE) := [(144, .goto (-100), 147, 44, 0, 0, 0, 0, none, []),
  (147, .aload_n 0, 148, 0, 0, 0, 0, 0, none, []),
  (148, .getfield 74, 151, 6, 30, 0, 0, 0, none, []),
  (151, .iload_n 3, 152, 3, 0, 0, 0, 0, none, []),
  (152, .baload, 153, 0, 0, 0, 0, 0, none, []),
  (153, .ireturn, 154, 0, 0, 0, 0, 0, none, [])]
theorem oX6_isWay_9 : ∀ q ∈ tX6_isWay_9, hy_ok mX6_isWay q.1 q.2 = true := by decide +kernel
def tX6_isWay : hyT := [tX6_isWay_0, tX6_isWay_1, tX6_isWay_2, tX6_isWay_3, tX6_isWay_4, tX6_isWay_5, tX6_isWay_6, tX6_isWay_7, tX6_isWay_8, tX6_isWay_9]
theorem oX6_isWay : hy_tok mX6_isWay tX6_isWay := List.forall_mem_cons.mpr ⟨oX6_isWay_0, List.forall_mem_cons.mpr ⟨oX6_isWay_1, List.forall_mem_cons.mpr ⟨oX6_isWay_2, List.forall_mem_cons.mpr ⟨oX6_isWay_3, List.forall_mem_cons.mpr ⟨oX6_isWay_4, List.forall_mem_cons.mpr ⟨oX6_isWay_5, List.forall_mem_cons.mpr ⟨oX6_isWay_6, List.forall_mem_cons.mpr ⟨oX6_isWay_7, List.forall_mem_cons.mpr ⟨oX6_isWay_8, List.forall_mem_cons.mpr ⟨oX6_isWay_9, fun _ h => absurd h List.not_mem_nil⟩⟩⟩⟩⟩⟩⟩⟩⟩⟩
def tX6_knows_0 : List (Nat × hyE) := [(0, .aload_n 0, 1, 0, 0, 0, 0, 0, none, []),
  (1, .getfield 107, 4, 6, 12, 0, 0, 0, none, []),
  (4, .ifCond .eq 4, 7, 8, 0, 0, 0, 0, none, []),
  (7, .return_, 8, 0, 0, 0, 0, 0, none, []),
  (8, .aload_n 0, 9, 0, 0, 0, 0, 0, none, []),
  (9, .iconst 1, 10, 0, 0, 0, 0, 1, none, []),
  (10, .putfield 107, 13, 6, 12, 1, 0, 0, none, []),
  (13, .iconst 0, 14, 0, 0, 0, 0, 0, none, []),
  (14, .istore_n 1, 15, 1, 0, 0, 0, 0, none, []),
  (15, .iload_n 1, 16, 1, 0, 0, 0, 0, none, [])]
theorem oX6_knows_0 : ∀ q ∈ tX6_knows_0, hy_ok mX6_knows q.1 q.2 = true := by decide +kernel
def tX6_knows_1 : List (Nat × hyE) := [(16, .aload_n 0, 17, 0, 0, 0, 0, 0, none, []),
  (17, .getfield 100, 20, 6, 10, 0, 0, 0, none, []),
  (20, .if_icmp .ge 88, 23, 108, 0, 0, 0, 0, none, []),
  (23, .iconst 0, 24, 0, 0, 0, 0, 0, none, []),
  (24, .istore_n 2, 25, 2, 0, 0, 0, 0, none, []),
  (25, .aload_n 0, 26, 0, 0, 0, 0, 0, none, []),
  (26, .getfield 37, 29, 6, 13, 0, 0, 0, none, []),
  (29, .iload_n 1, 30, 1, 0, 0, 0, 0, none, []),
  (30, .iconst (-1), 31, 0, 0, 0, 0, (-1), none, []),
  (31, .iastore, 32, 0, 0, 0, 0, 0, none, [])]
theorem oX6_knows_1 : ∀ q ∈ tX6_knows_1, hy_ok mX6_knows q.1 q.2 = true := by decide +kernel
def tX6_knows_2 : List (Nat × hyE) := [(32, .iconst 0, 33, 0, 0, 0, 0, 0, none, []),
  (33, .istore_n 3, 34, 3, 0, 0, 0, 0, none, []),
  (34, .iload_n 3, 35, 3, 0, 0, 0, 0, none, []),
  (35, .aload_n 0, 36, 0, 0, 0, 0, 0, none, []),
  (36, .getfield 90, 39, 6, 3, 0, 0, 0, none, []),
  (39, .if_icmp .ge 42, 42, 81, 0, 0, 0, 0, none, []),
  (42, .iload_n 2, 43, 2, 0, 0, 0, 0, none, []),
  (43, .iconst 2, 44, 0, 0, 0, 0, 2, none, []),
  (44, .if_icmp .ge 37, 47, 81, 0, 0, 0, 0, none, []),
  (47, .aload_n 0, 48, 0, 0, 0, 0, 0, none, [])]
theorem oX6_knows_2 : ∀ q ∈ tX6_knows_2, hy_ok mX6_knows q.1 q.2 = true := by decide +kernel
def tX6_knows_3 : List (Nat × hyE) := [(48, .iload_n 1, 49, 1, 0, 0, 0, 0, none, []),
  (49, .iload_n 3, 50, 3, 0, 0, 0, 0, none, []),
  (50, .invokevirtual 103, 53, 0, 2, 0, 6, 0, (some mX6_fits), []),
  (53, .ifCond .eq 22, 56, 75, 0, 0, 0, 0, none, []),
  (56, .aload_n 0, 57, 0, 0, 0, 0, 0, none, []),
  (57, .iload_n 1, 58, 1, 0, 0, 0, 0, none, []),
  (58, .iload_n 3, 59, 3, 0, 0, 0, 0, none, []),
  (59, .invokevirtual 111, 62, 0, 2, 0, 6, 0, (some mX6_isWay), []),
  (62, .ifCond .eq 13, 65, 75, 0, 0, 0, 0, none, [])]
theorem oX6_knows_3 : ∀ q ∈ tX6_knows_3, hy_ok mX6_knows q.1 q.2 = true := by decide +kernel
def tX6_knows_4 : List (Nat × hyE) := [(65, .iinc 2 1, 68, 2, 0, 0, 0, 1, none, []),
  (68, .aload_n 0, 69, 0, 0, 0, 0, 0, none, []),
  (69, .getfield 37, 72, 6, 13, 0, 0, 0, none, []),
  (72, .iload_n 1, 73, 1, 0, 0, 0, 0, none, []),
  (73, .iload_n 3, 74, 3, 0, 0, 0, 0, none, []),
  (74, .iastore, 75, 0, 0, 0, 0, 0, none, []),
  (75, .iinc 3 1, 78, 3, 0, 0, 0, 1, none, []),
  (78, .goto (-44), 81, 34, 0, 0, 0, 0, none, [])]
theorem oX6_knows_4 : ∀ q ∈ tX6_knows_4, hy_ok mX6_knows q.1 q.2 = true := by decide +kernel
def tX6_knows_5 : List (Nat × hyE) := [(81, .aload_n 0, 82, 0, 0, 0, 0, 0, none, []),
  (82, .getfield 37, 85, 6, 13, 0, 0, 0, none, []),
  (85, .iload_n 1, 86, 1, 0, 0, 0, 0, none, []),
  (86, .iload_n 2, 87, 2, 0, 0, 0, 0, none, []),
  (87, .iconst 1, 88, 0, 0, 0, 0, 1, none, []),
  (88, .if_icmp .ne 12, 91, 100, 0, 0, 0, 0, none, []),
  (91, .aload_n 0, 92, 0, 0, 0, 0, 0, none, []),
  (92, .getfield 37, 95, 6, 13, 0, 0, 0, none, []),
  (95, .iload_n 1, 96, 1, 0, 0, 0, 0, none, [])]
theorem oX6_knows_5 : ∀ q ∈ tX6_knows_5, hy_ok mX6_knows q.1 q.2 = true := by decide +kernel
def tX6_knows_6 : List (Nat × hyE) := [(96, .iaload, 97, 0, 0, 0, 0, 0, none, []),
  (97, .goto 4, 100, 101, 0, 0, 0, 0, none, []),
  (100, .iconst (-1), 101, 0, 0, 0, 0, (-1), none, []),
  (101, .iastore, 102, 0, 0, 0, 0, 0, none, []),
  (102, .iinc 1 1, 105, 1, 0, 0, 0, 1, none, []),
  (105, .goto (-90), 108, 15, 0, 0, 0, 0, none, []),
  (108, .return_, 109, 0, 0, 0, 0, 0, none, [])]
theorem oX6_knows_6 : ∀ q ∈ tX6_knows_6, hy_ok mX6_knows q.1 q.2 = true := by decide +kernel
def tX6_knows : hyT := [tX6_knows_0, tX6_knows_1, tX6_knows_2, tX6_knows_3, tX6_knows_4, tX6_knows_5, tX6_knows_6]
theorem oX6_knows : hy_tok mX6_knows tX6_knows := List.forall_mem_cons.mpr ⟨oX6_knows_0, List.forall_mem_cons.mpr ⟨oX6_knows_1, List.forall_mem_cons.mpr ⟨oX6_knows_2, List.forall_mem_cons.mpr ⟨oX6_knows_3, List.forall_mem_cons.mpr ⟨oX6_knows_4, List.forall_mem_cons.mpr ⟨oX6_knows_5, List.forall_mem_cons.mpr ⟨oX6_knows_6, fun _ h => absurd h List.not_mem_nil⟩⟩⟩⟩⟩⟩⟩
def tX6_findOf_0 : List (Nat × hyE) := [(0, .aload_n 0, 1, 0, 0, 0, 0, 0, none, []),
  (1, .invokevirtual 114, 4, 0, 0, 0, 6, 0, (some mX6_knows), []),
  (4, .iconst (-1), 5, 0, 0, 0, 0, (-1), none, []),
  (5, .istore_n 2, 6, 2, 0, 0, 0, 0, none, []),
  (6, .iconst 0, 7, 0, 0, 0, 0, 0, none, []),
  (7, .istore_n 3, 8, 3, 0, 0, 0, 0, none, []),
  (8, .iload_n 3, 9, 3, 0, 0, 0, 0, none, []),
  (9, .aload_n 0, 10, 0, 0, 0, 0, 0, none, []),
  (10, .getfield 100, 13, 6, 10, 0, 0, 0, none, []),
  (13, .if_icmp .ge 25, 16, 38, 0, 0, 0, 0, none, [])]
theorem oX6_findOf_0 : ∀ q ∈ tX6_findOf_0, hy_ok mX6_findOf q.1 q.2 = true := by decide +kernel
def tX6_findOf_1 : List (Nat × hyE) := [(16, .aload_n 0, 17, 0, 0, 0, 0, 0, none, []),
  (17, .getfield 37, 20, 6, 13, 0, 0, 0, none, []),
  (20, .iload_n 3, 21, 3, 0, 0, 0, 0, none, []),
  (21, .iaload, 22, 0, 0, 0, 0, 0, none, []),
  (22, .iload_n 1, 23, 1, 0, 0, 0, 0, none, []),
  (23, .if_icmp .ne 7, 26, 30, 0, 0, 0, 0, none, []),
  (26, .iload_n 3, 27, 3, 0, 0, 0, 0, none, []),
  (27, .goto 4, 30, 31, 0, 0, 0, 0, none, []),
  (30, .iload_n 2, 31, 2, 0, 0, 0, 0, none, []),
  (31, .istore_n 2, 32, 2, 0, 0, 0, 0, none, [])]
theorem oX6_findOf_1 : ∀ q ∈ tX6_findOf_1, hy_ok mX6_findOf q.1 q.2 = true := by decide +kernel
def tX6_findOf_2 : List (Nat × hyE) := [(32, .iinc 3 1, 35, 3, 0, 0, 0, 1, none, []),
  (35, .goto (-27), 38, 8, 0, 0, 0, 0, none, []),
  (38, .iload_n 2, 39, 2, 0, 0, 0, 0, none, []),
  (39, .ireturn, 40, 0, 0, 0, 0, 0, none, [])]
theorem oX6_findOf_2 : ∀ q ∈ tX6_findOf_2, hy_ok mX6_findOf q.1 q.2 = true := by decide +kernel
def tX6_findOf : hyT := [tX6_findOf_0, tX6_findOf_1, tX6_findOf_2]
theorem oX6_findOf : hy_tok mX6_findOf tX6_findOf := List.forall_mem_cons.mpr ⟨oX6_findOf_0, List.forall_mem_cons.mpr ⟨oX6_findOf_1, List.forall_mem_cons.mpr ⟨oX6_findOf_2, fun _ h => absurd h List.not_mem_nil⟩⟩⟩
def tX6_stateOf_0 : List (Nat × hyE) := [(0, .aload_n 0, 1, 0, 0, 0, 0, 0, none, []),
  (1, .getfield 31, 4, 6, 9, 0, 0, 0, none, []),
  (4, .iload_n 1, 5, 1, 0, 0, 0, 0, none, []),
  (5, .iaload, 6, 0, 0, 0, 0, 0, none, []),
  (6, .iconst 2, 7, 0, 0, 0, 0, 2, none, []),
  (7, .if_icmp .ne 15, 10, 22, 0, 0, 0, 0, none, []),
  (10, .aload_n 0, 11, 0, 0, 0, 0, 0, none, []),
  (11, .iload_n 1, 12, 1, 0, 0, 0, 0, none, []),
  (12, .invokevirtual 117, 15, 0, 1, 0, 6, 0, (some mX6_findOf), []),
  (15, .ifCond .lt 7, 18, 22, 0, 0, 0, 0, none, [])]
theorem oX6_stateOf_0 : ∀ q ∈ tX6_stateOf_0, hy_ok mX6_stateOf q.1 q.2 = true := by decide +kernel
def tX6_stateOf_1 : List (Nat × hyE) := [(18, .iconst 3, 19, 0, 0, 0, 0, 3, none, []),
  (19, .goto 9, 22, 28, 0, 0, 0, 0, none, []),
  (22, .aload_n 0, 23, 0, 0, 0, 0, 0, none, []),
  (23, .getfield 31, 26, 6, 9, 0, 0, 0, none, []),
  (26, .iload_n 1, 27, 1, 0, 0, 0, 0, none, []),
  (27, .iaload, 28, 0, 0, 0, 0, 0, none, []),
  (28, .ireturn, 29, 0, 0, 0, 0, 0, none, [])]
theorem oX6_stateOf_1 : ∀ q ∈ tX6_stateOf_1, hy_ok mX6_stateOf q.1 q.2 = true := by decide +kernel
def tX6_stateOf : hyT := [tX6_stateOf_0, tX6_stateOf_1]
theorem oX6_stateOf : hy_tok mX6_stateOf tX6_stateOf := List.forall_mem_cons.mpr ⟨oX6_stateOf_0, List.forall_mem_cons.mpr ⟨oX6_stateOf_1, fun _ h => absurd h List.not_mem_nil⟩⟩
def tX6_isRipe_0 : List (Nat × hyE) := [(0, .aload_n 0, 1, 0, 0, 0, 0, 0, none, []),
  (1, .getfield 28, 4, 6, 8, 0, 0, 0, none, []),
  (4, .iload_n 1, 5, 1, 0, 0, 0, 0, none, []),
  (5, .iaload, 6, 0, 0, 0, 0, 0, none, []),
  (6, .aload_n 0, 7, 0, 0, 0, 0, 0, none, []),
  (7, .getfield 25, 10, 6, 7, 0, 0, 0, none, []),
  (10, .iload_n 1, 11, 1, 0, 0, 0, 0, none, []),
  (11, .iaload, 12, 0, 0, 0, 0, 0, none, []),
  (12, .if_icmp .lt 7, 15, 19, 0, 0, 0, 0, none, []),
  (15, .iconst 1, 16, 0, 0, 0, 0, 1, none, [])]
theorem oX6_isRipe_0 : ∀ q ∈ tX6_isRipe_0, hy_ok mX6_isRipe q.1 q.2 = true := by decide +kernel
def tX6_isRipe_1 : List (Nat × hyE) := [(16, .goto 4, 19, 20, 0, 0, 0, 0, none, []),
  (19, .iconst 0, 20, 0, 0, 0, 0, 0, none, []),
  (20, .ireturn, 21, 0, 0, 0, 0, 0, none, [])]
theorem oX6_isRipe_1 : ∀ q ∈ tX6_isRipe_1, hy_ok mX6_isRipe q.1 q.2 = true := by decide +kernel
def tX6_isRipe : hyT := [tX6_isRipe_0, tX6_isRipe_1]
theorem oX6_isRipe : hy_tok mX6_isRipe tX6_isRipe := List.forall_mem_cons.mpr ⟨oX6_isRipe_0, List.forall_mem_cons.mpr ⟨oX6_isRipe_1, fun _ h => absurd h List.not_mem_nil⟩⟩
def tX6_pull_0 : List (Nat × hyE) := [(0, .aload_n 0, 1, 0, 0, 0, 0, 0, none, []),
  (1, .iload_n 1, 2, 1, 0, 0, 0, 0, none, []),
  (2, .invokevirtual 121, 5, 0, 1, 0, 6, 0, (some mX6_isNet), []),
  (5, .ifCond .eq 20, 8, 25, 0, 0, 0, 0, none, []),
  (8, .aload_n 0, 9, 0, 0, 0, 0, 0, none, []),
  (9, .iload_n 1, 10, 1, 0, 0, 0, 0, none, []),
  (10, .invokevirtual 125, 13, 0, 1, 0, 6, 0, (some mX6_stateOf), []),
  (13, .ifCond .eq 14, 16, 27, 0, 0, 0, 0, none, [])]
theorem oX6_pull_0 : ∀ q ∈ tX6_pull_0, hy_ok mX6_pull q.1 q.2 = true := by decide +kernel
def tX6_pull_1 : List (Nat × hyE) := [(16, .aload_n 0, 17, 0, 0, 0, 0, 0, none, []),
  (17, .iload_n 1, 18, 1, 0, 0, 0, 0, none, []),
  (18, .invokevirtual 125, 21, 0, 1, 0, 6, 0, (some mX6_stateOf), []),
  (21, .iconst 3, 22, 0, 0, 0, 0, 3, none, []),
  (22, .if_icmp .eq 5, 25, 27, 0, 0, 0, 0, none, []),
  (25, .iconst (-1), 26, 0, 0, 0, 0, (-1), none, []),
  (26, .ireturn, 27, 0, 0, 0, 0, 0, none, []),
  (27, .aload_n 0, 28, 0, 0, 0, 0, 0, none, []),
  (28, .getfield 31, 31, 6, 9, 0, 0, 0, none, []),
  (31, .iload_n 1, 32, 1, 0, 0, 0, 0, none, [])]
theorem oX6_pull_1 : ∀ q ∈ tX6_pull_1, hy_ok mX6_pull q.1 q.2 = true := by decide +kernel
def tX6_pull_2 : List (Nat × hyE) := [(32, .iconst 1, 33, 0, 0, 0, 0, 1, none, []),
  (33, .iastore, 34, 0, 0, 0, 0, 0, none, []),
  (34, .aload_n 0, 35, 0, 0, 0, 0, 0, none, []),
  (35, .iload_n 1, 36, 1, 0, 0, 0, 0, none, []),
  (36, .invokevirtual 128, 39, 0, 1, 0, 6, 0, (some mX6_isRipe), []),
  (39, .ifCond .eq 12, 42, 51, 0, 0, 0, 0, none, []),
  (42, .aload_n 0, 43, 0, 0, 0, 0, 0, none, []),
  (43, .getfield 22, 46, 6, 6, 0, 0, 0, none, []),
  (46, .iload_n 1, 47, 1, 0, 0, 0, 0, none, []),
  (47, .iaload, 48, 0, 0, 0, 0, 0, none, [])]
theorem oX6_pull_2 : ∀ q ∈ tX6_pull_2, hy_ok mX6_pull q.1 q.2 = true := by decide +kernel
def tX6_pull_3 : List (Nat × hyE) := [(48, .goto 4, 51, 52, 0, 0, 0, 0, none, []),
  (51, .iconst 0, 52, 0, 0, 0, 0, 0, none, []),
  (52, .istore_n 2, 53, 2, 0, 0, 0, 0, none, []),
  (53, .aload_n 0, 54, 0, 0, 0, 0, 0, none, []),
  (54, .dup, 55, 0, 0, 0, 0, 0, none, []),
  (55, .getfield 131, 58, 6, 14, 0, 0, 0, none, []),
  (58, .iload_n 2, 59, 2, 0, 0, 0, 0, none, []),
  (59, .iadd, 60, 0, 0, 0, 0, 0, none, []),
  (60, .putfield 131, 63, 6, 14, 0, 0, 0, none, []),
  (63, .iload_n 2, 64, 2, 0, 0, 0, 0, none, [])]
theorem oX6_pull_3 : ∀ q ∈ tX6_pull_3, hy_ok mX6_pull q.1 q.2 = true := by decide +kernel
def tX6_pull_4 : List (Nat × hyE) := [(64, .ireturn, 65, 0, 0, 0, 0, 0, none, [])]
theorem oX6_pull_4 : ∀ q ∈ tX6_pull_4, hy_ok mX6_pull q.1 q.2 = true := by decide +kernel
def tX6_pull : hyT := [tX6_pull_0, tX6_pull_1, tX6_pull_2, tX6_pull_3, tX6_pull_4]
theorem oX6_pull : hy_tok mX6_pull tX6_pull := List.forall_mem_cons.mpr ⟨oX6_pull_0, List.forall_mem_cons.mpr ⟨oX6_pull_1, List.forall_mem_cons.mpr ⟨oX6_pull_2, List.forall_mem_cons.mpr ⟨oX6_pull_3, List.forall_mem_cons.mpr ⟨oX6_pull_4, fun _ h => absurd h List.not_mem_nil⟩⟩⟩⟩⟩
def tX6_flood_0 : List (Nat × hyE) := [(0, .iload_n 1, 1, 1, 0, 0, 0, 0, none, []),
  (1, .iconst 0, 2, 0, 0, 0, 0, 0, none, []),
  (2, .bipush 7, 4, 0, 0, 0, 0, 7, none, []),
  (4, .invokestatic 93, 7, 2, 3, 0, 0, 0, (some mX6_in), []),
  (7, .ifCond .ne 5, 10, 12, 0, 0, 0, 0, none, []),
  (10, .iconst (-1), 11, 0, 0, 0, 0, (-1), none, []),
  (11, .ireturn, 12, 0, 0, 0, 0, 0, none, []),
  (12, .iconst 0, 13, 0, 0, 0, 0, 0, none, []),
  (13, .istore_n 2, 14, 2, 0, 0, 0, 0, none, []),
  (14, .iconst 0, 15, 0, 0, 0, 0, 0, none, []),
  (15, .istore_n 3, 16, 3, 0, 0, 0, 0, none, [])]
theorem oX6_flood_0 : ∀ q ∈ tX6_flood_0, hy_ok mX6_flood q.1 q.2 = true := by decide +kernel
def tX6_flood_1 : List (Nat × hyE) := [(16, .iload_n 3, 17, 3, 0, 0, 0, 0, none, []),
  (17, .aload_n 0, 18, 0, 0, 0, 0, 0, none, []),
  (18, .getfield 90, 21, 6, 3, 0, 0, 0, none, []),
  (21, .if_icmp .ge 38, 24, 59, 0, 0, 0, 0, none, []),
  (24, .aload_n 0, 25, 0, 0, 0, 0, 0, none, []),
  (25, .getfield 31, 28, 6, 9, 0, 0, 0, none, []),
  (28, .iload_n 3, 29, 3, 0, 0, 0, 0, none, []),
  (29, .iaload, 30, 0, 0, 0, 0, 0, none, []),
  (30, .ifCond .ne 23, 33, 53, 0, 0, 0, 0, none, [])]
theorem oX6_flood_1 : ∀ q ∈ tX6_flood_1, hy_ok mX6_flood q.1 q.2 = true := by decide +kernel
def tX6_flood_2 : List (Nat × hyE) := [(33, .aload_n 0, 34, 0, 0, 0, 0, 0, none, []),
  (34, .getfield 16, 37, 6, 4, 0, 0, 0, none, []),
  (37, .iload_n 3, 38, 3, 0, 0, 0, 0, none, []),
  (38, .iaload, 39, 0, 0, 0, 0, 0, none, []),
  (39, .iload_n 1, 40, 1, 0, 0, 0, 0, none, []),
  (40, .if_icmp .ne 13, 43, 53, 0, 0, 0, 0, none, []),
  (43, .aload_n 0, 44, 0, 0, 0, 0, 0, none, []),
  (44, .getfield 31, 47, 6, 9, 0, 0, 0, none, []),
  (47, .iload_n 3, 48, 3, 0, 0, 0, 0, none, [])]
theorem oX6_flood_2 : ∀ q ∈ tX6_flood_2, hy_ok mX6_flood q.1 q.2 = true := by decide +kernel
def tX6_flood_3 : List (Nat × hyE) := [(48, .iconst 2, 49, 0, 0, 0, 0, 2, none, []),
  (49, .iastore, 50, 0, 0, 0, 0, 0, none, []),
  (50, .iinc 2 1, 53, 2, 0, 0, 0, 1, none, []),
  (53, .iinc 3 1, 56, 3, 0, 0, 0, 1, none, []),
  (56, .goto (-40), 59, 16, 0, 0, 0, 0, none, []),
  (59, .iload_n 2, 60, 2, 0, 0, 0, 0, none, []),
  (60, .ireturn, 61, 0, 0, 0, 0, 0, none, [])]
theorem oX6_flood_3 : ∀ q ∈ tX6_flood_3, hy_ok mX6_flood q.1 q.2 = true := by decide +kernel
def tX6_flood : hyT := [tX6_flood_0, tX6_flood_1, tX6_flood_2, tX6_flood_3]
theorem oX6_flood : hy_tok mX6_flood tX6_flood := List.forall_mem_cons.mpr ⟨oX6_flood_0, List.forall_mem_cons.mpr ⟨oX6_flood_1, List.forall_mem_cons.mpr ⟨oX6_flood_2, List.forall_mem_cons.mpr ⟨oX6_flood_3, fun _ h => absurd h List.not_mem_nil⟩⟩⟩⟩
def tX6_find_0 : List (Nat × hyE) := [(0, .iload_n 1, 1, 1, 0, 0, 0, 0, none, []),
  (1, .iconst 0, 2, 0, 0, 0, 0, 0, none, []),
  (2, .sipush 255, 5, 0, 0, 0, 0, 255, none, []),
  (5, .invokestatic 93, 8, 2, 3, 0, 0, 0, (some mX6_in), []),
  (8, .ifCond .eq 29, 11, 37, 0, 0, 0, 0, none, []),
  (11, .iload_n 2, 12, 2, 0, 0, 0, 0, none, []),
  (12, .iconst 0, 13, 0, 0, 0, 0, 0, none, []),
  (13, .sipush 255, 16, 0, 0, 0, 0, 255, none, [])]
theorem oX6_find_0 : ∀ q ∈ tX6_find_0, hy_ok mX6_find q.1 q.2 = true := by decide +kernel
def tX6_find_1 : List (Nat × hyE) := [(16, .invokestatic 93, 19, 2, 3, 0, 0, 0, (some mX6_in), []),
  (19, .ifCond .eq 18, 22, 37, 0, 0, 0, 0, none, []),
  (22, .iload_n 1, 23, 1, 0, 0, 0, 0, none, []),
  (23, .iload_n 2, 24, 2, 0, 0, 0, 0, none, []),
  (24, .iand, 25, 0, 0, 0, 0, 0, none, []),
  (25, .ifCond .ne 12, 28, 37, 0, 0, 0, 0, none, []),
  (28, .aload_n 0, 29, 0, 0, 0, 0, 0, none, []),
  (29, .getfield 100, 32, 6, 10, 0, 0, 0, none, [])]
theorem oX6_find_1 : ∀ q ∈ tX6_find_1, hy_ok mX6_find q.1 q.2 = true := by decide +kernel
def tX6_find_2 : List (Nat × hyE) := [(32, .bipush 8, 34, 0, 0, 0, 0, 8, none, []),
  (34, .if_icmp .ne 5, 37, 39, 0, 0, 0, 0, none, []),
  (37, .iconst (-1), 38, 0, 0, 0, 0, (-1), none, []),
  (38, .ireturn, 39, 0, 0, 0, 0, 0, none, []),
  (39, .iconst 0, 40, 0, 0, 0, 0, 0, none, []),
  (40, .istore_n 3, 41, 3, 0, 0, 0, 0, none, []),
  (41, .iconst 0, 42, 0, 0, 0, 0, 0, none, []),
  (42, .istore 4, 44, 4, 0, 0, 0, 0, none, []),
  (44, .iload 4, 46, 4, 0, 0, 0, 0, none, []),
  (46, .aload_n 0, 47, 0, 0, 0, 0, 0, none, []),
  (47, .getfield 90, 50, 6, 3, 0, 0, 0, none, [])]
theorem oX6_find_2 : ∀ q ∈ tX6_find_2, hy_ok mX6_find q.1 q.2 = true := by decide +kernel
def tX6_find_3 : List (Nat × hyE) := [(50, .if_icmp .ge 55, 53, 105, 0, 0, 0, 0, none, []),
  (53, .iload_n 3, 54, 3, 0, 0, 0, 0, none, []),
  (54, .aload_n 0, 55, 0, 0, 0, 0, 0, none, []),
  (55, .iload 4, 57, 4, 0, 0, 0, 0, none, []),
  (57, .invokevirtual 125, 60, 0, 1, 0, 6, 0, (some mX6_stateOf), []),
  (60, .iconst 2, 61, 0, 0, 0, 0, 2, none, []),
  (61, .if_icmp .ne 35, 64, 96, 0, 0, 0, 0, none, [])]
theorem oX6_find_3 : ∀ q ∈ tX6_find_3, hy_ok mX6_find q.1 q.2 = true := by decide +kernel
def tX6_find_4 : List (Nat × hyE) := [(64, .aload_n 0, 65, 0, 0, 0, 0, 0, none, []),
  (65, .getfield 19, 68, 6, 5, 0, 0, 0, none, []),
  (68, .iload 4, 70, 4, 0, 0, 0, 0, none, []),
  (70, .iaload, 71, 0, 0, 0, 0, 0, none, []),
  (71, .iload_n 1, 72, 1, 0, 0, 0, 0, none, []),
  (72, .iand, 73, 0, 0, 0, 0, 0, none, []),
  (73, .iload_n 1, 74, 1, 0, 0, 0, 0, none, []),
  (74, .if_icmp .ne 22, 77, 96, 0, 0, 0, 0, none, []),
  (77, .aload_n 0, 78, 0, 0, 0, 0, 0, none, []),
  (78, .getfield 19, 81, 6, 5, 0, 0, 0, none, [])]
theorem oX6_find_4 : ∀ q ∈ tX6_find_4, hy_ok mX6_find q.1 q.2 = true := by decide +kernel
def tX6_find_5 : List (Nat × hyE) := [(81, .iload 4, 83, 4, 0, 0, 0, 0, none, []),
  (83, .iaload, 84, 0, 0, 0, 0, 0, none, []),
  (84, .iload_n 2, 85, 2, 0, 0, 0, 0, none, []),
  (85, .iand, 86, 0, 0, 0, 0, 0, none, []),
  (86, .ifCond .ne 10, 89, 96, 0, 0, 0, 0, none, []),
  (89, .iconst 1, 90, 0, 0, 0, 0, 1, none, []),
  (90, .iload 4, 92, 4, 0, 0, 0, 0, none, []),
  (92, .ishl, 93, 0, 0, 0, 0, 0, none, []),
  (93, .goto 4, 96, 97, 0, 0, 0, 0, none, [])]
theorem oX6_find_5 : ∀ q ∈ tX6_find_5, hy_ok mX6_find q.1 q.2 = true := by decide +kernel
def tX6_find_6 : List (Nat × hyE) := [(96, .iconst 0, 97, 0, 0, 0, 0, 0, none, []),
  (97, .iadd, 98, 0, 0, 0, 0, 0, none, []),
  (98, .istore_n 3, 99, 3, 0, 0, 0, 0, none, []),
  (99, .iinc 4 1, 102, 4, 0, 0, 0, 1, none, []),
  (102, .goto (-58), 105, 44, 0, 0, 0, 0, none, []),
  (105, .aload_n 0, 106, 0, 0, 0, 0, 0, none, []),
  (106, .getfield 34, 109, 6, 11, 0, 0, 0, none, []),
  (109, .aload_n 0, 110, 0, 0, 0, 0, 0, none, []),
  (110, .getfield 100, 113, 6, 10, 0, 0, 0, none, [])]
theorem oX6_find_6 : ∀ q ∈ tX6_find_6, hy_ok mX6_find q.1 q.2 = true := by decide +kernel
def tX6_find_7 : List (Nat × hyE) := [(113, .iload_n 3, 114, 3, 0, 0, 0, 0, none, []),
  (114, .iastore, 115, 0, 0, 0, 0, 0, none, []),
  (115, .aload_n 0, 116, 0, 0, 0, 0, 0, none, []),
  (116, .dup, 117, 0, 0, 0, 0, 0, none, []),
  (117, .getfield 100, 120, 6, 10, 0, 0, 0, none, []),
  (120, .iconst 1, 121, 0, 0, 0, 0, 1, none, []),
  (121, .iadd, 122, 0, 0, 0, 0, 0, none, []),
  (122, .putfield 100, 125, 6, 10, 0, 0, 0, none, []),
  (125, .aload_n 0, 126, 0, 0, 0, 0, 0, none, []),
  (126, .iconst (-1), 127, 0, 0, 0, 0, (-1), none, []),
  (127, .iconst (-1), 128, 0, 0, 0, 0, (-1), none, [])]
theorem oX6_find_7 : ∀ q ∈ tX6_find_7, hy_ok mX6_find q.1 q.2 = true := by decide +kernel
def tX6_find_8 : List (Nat × hyE) := [(128, .invokevirtual 111, 131, 0, 2, 0, 6, 0, (some mX6_isWay), []),
  (131, .ifCond .ne 15, 134, 146, 0, 0, 0, 0, none, []),
  (134, .aload_n 0, 135, 0, 0, 0, 0, 0, none, []),
  (135, .dup, 136, 0, 0, 0, 0, 0, none, []),
  (136, .getfield 100, 139, 6, 10, 0, 0, 0, none, []),
  (139, .iconst 1, 140, 0, 0, 0, 0, 1, none, []),
  (140, .isub, 141, 0, 0, 0, 0, 0, none, []),
  (141, .putfield 100, 144, 6, 10, 0, 0, 0, none, [])]
theorem oX6_find_8 : ∀ q ∈ tX6_find_8, hy_ok mX6_find q.1 q.2 = true := by decide +kernel
def tX6_find_9 : List (Nat × hyE) := [(144, .iconst (-1), 145, 0, 0, 0, 0, (-1), none, []),
  (145, .ireturn, 146, 0, 0, 0, 0, 0, none, []),
  (146, .aload_n 0, 147, 0, 0, 0, 0, 0, none, []),
  (147, .iconst 0, 148, 0, 0, 0, 0, 0, none, []),
  (148, .putfield 107, 151, 6, 12, 1, 0, 0, none, []),
  (151, .aload_n 0, 152, 0, 0, 0, 0, 0, none, []),
  (152, .getfield 100, 155, 6, 10, 0, 0, 0, none, []),
  (155, .iconst 1, 156, 0, 0, 0, 0, 1, none, []),
  (156, .isub, 157, 0, 0, 0, 0, 0, none, []),
  (157, .ireturn, 158, 0, 0, 0, 0, 0, none, [])]
theorem oX6_find_9 : ∀ q ∈ tX6_find_9, hy_ok mX6_find q.1 q.2 = true := by decide +kernel
def tX6_find : hyT := [tX6_find_0, tX6_find_1, tX6_find_2, tX6_find_3, tX6_find_4, tX6_find_5, tX6_find_6, tX6_find_7, tX6_find_8, tX6_find_9]
theorem oX6_find : hy_tok mX6_find tX6_find := List.forall_mem_cons.mpr ⟨oX6_find_0, List.forall_mem_cons.mpr ⟨oX6_find_1, List.forall_mem_cons.mpr ⟨oX6_find_2, List.forall_mem_cons.mpr ⟨oX6_find_3, List.forall_mem_cons.mpr ⟨oX6_find_4, List.forall_mem_cons.mpr ⟨oX6_find_5, List.forall_mem_cons.mpr ⟨oX6_find_6, List.forall_mem_cons.mpr ⟨oX6_find_7, List.forall_mem_cons.mpr ⟨oX6_find_8, List.forall_mem_cons.mpr ⟨oX6_find_9, fun _ h => absurd h List.not_mem_nil⟩⟩⟩⟩⟩⟩⟩⟩⟩⟩
def tX6_found_0 : List (Nat × hyE) := [(0, .iload_n 1, 1, 1, 0, 0, 0, 0, none, []),
  (1, .iconst 0, 2, 0, 0, 0, 0, 0, none, []),
  (2, .aload_n 0, 3, 0, 0, 0, 0, 0, none, []),
  (3, .getfield 100, 6, 6, 10, 0, 0, 0, none, []),
  (6, .iconst 1, 7, 0, 0, 0, 0, 1, none, []),
  (7, .isub, 8, 0, 0, 0, 0, 0, none, []),
  (8, .invokestatic 93, 11, 2, 3, 0, 0, 0, (some mX6_in), []),
  (11, .ifCond .ne 5, 14, 16, 0, 0, 0, 0, none, []),
  (14, .iconst (-1), 15, 0, 0, 0, 0, (-1), none, []),
  (15, .ireturn, 16, 0, 0, 0, 0, 0, none, [])]
theorem oX6_found_0 : ∀ q ∈ tX6_found_0, hy_ok mX6_found q.1 q.2 = true := by decide +kernel
def tX6_found_1 : List (Nat × hyE) := [(16, .iconst 0, 17, 0, 0, 0, 0, 0, none, []),
  (17, .istore_n 3, 18, 3, 0, 0, 0, 0, none, []),
  (18, .iconst 0, 19, 0, 0, 0, 0, 0, none, []),
  (19, .istore 4, 21, 4, 0, 0, 0, 0, none, []),
  (21, .iload 4, 23, 4, 0, 0, 0, 0, none, []),
  (23, .aload_n 0, 24, 0, 0, 0, 0, 0, none, []),
  (24, .getfield 90, 27, 6, 3, 0, 0, 0, none, []),
  (27, .if_icmp .ge 27, 30, 54, 0, 0, 0, 0, none, []),
  (30, .iload_n 3, 31, 3, 0, 0, 0, 0, none, []),
  (31, .aload_n 0, 32, 0, 0, 0, 0, 0, none, [])]
theorem oX6_found_1 : ∀ q ∈ tX6_found_1, hy_ok mX6_found q.1 q.2 = true := by decide +kernel
def tX6_found_2 : List (Nat × hyE) := [(32, .iload_n 1, 33, 1, 0, 0, 0, 0, none, []),
  (33, .iload 4, 35, 4, 0, 0, 0, 0, none, []),
  (35, .invokevirtual 103, 38, 0, 2, 0, 6, 0, (some mX6_fits), []),
  (38, .ifCond .eq 7, 41, 45, 0, 0, 0, 0, none, []),
  (41, .iconst 1, 42, 0, 0, 0, 0, 1, none, []),
  (42, .goto 4, 45, 46, 0, 0, 0, 0, none, []),
  (45, .iconst 0, 46, 0, 0, 0, 0, 0, none, []),
  (46, .iadd, 47, 0, 0, 0, 0, 0, none, []),
  (47, .istore_n 3, 48, 3, 0, 0, 0, 0, none, [])]
theorem oX6_found_2 : ∀ q ∈ tX6_found_2, hy_ok mX6_found q.1 q.2 = true := by decide +kernel
def tX6_found_3 : List (Nat × hyE) := [(48, .iinc 4 1, 51, 4, 0, 0, 0, 1, none, []),
  (51, .goto (-30), 54, 21, 0, 0, 0, 0, none, []),
  (54, .aload_n 0, 55, 0, 0, 0, 0, 0, none, []),
  (55, .invokevirtual 114, 58, 0, 0, 0, 6, 0, (some mX6_knows), []),
  (58, .iload_n 2, 59, 2, 0, 0, 0, 0, none, []),
  (59, .ifCond .ne 7, 62, 66, 0, 0, 0, 0, none, []),
  (62, .iload_n 3, 63, 3, 0, 0, 0, 0, none, []),
  (63, .goto 18, 66, 81, 0, 0, 0, 0, none, [])]
theorem oX6_found_3 : ∀ q ∈ tX6_found_3, hy_ok mX6_found q.1 q.2 = true := by decide +kernel
def tX6_found_4 : List (Nat × hyE) := [(66, .iload_n 2, 67, 2, 0, 0, 0, 0, none, []),
  (67, .iconst 1, 68, 0, 0, 0, 0, 1, none, []),
  (68, .if_icmp .ne 12, 71, 80, 0, 0, 0, 0, none, []),
  (71, .aload_n 0, 72, 0, 0, 0, 0, 0, none, []),
  (72, .getfield 37, 75, 6, 13, 0, 0, 0, none, []),
  (75, .iload_n 1, 76, 1, 0, 0, 0, 0, none, []),
  (76, .iaload, 77, 0, 0, 0, 0, 0, none, []),
  (77, .goto 4, 80, 81, 0, 0, 0, 0, none, [])]
theorem oX6_found_4 : ∀ q ∈ tX6_found_4, hy_ok mX6_found q.1 q.2 = true := by decide +kernel
def tX6_found_5 : List (Nat × hyE) := [(80, .iconst (-1), 81, 0, 0, 0, 0, (-1), none, []),
  (81, .ireturn, 82, 0, 0, 0, 0, 0, none, [])]
theorem oX6_found_5 : ∀ q ∈ tX6_found_5, hy_ok mX6_found q.1 q.2 = true := by decide +kernel
def tX6_found : hyT := [tX6_found_0, tX6_found_1, tX6_found_2, tX6_found_3, tX6_found_4, tX6_found_5]
theorem oX6_found : hy_tok mX6_found tX6_found := List.forall_mem_cons.mpr ⟨oX6_found_0, List.forall_mem_cons.mpr ⟨oX6_found_1, List.forall_mem_cons.mpr ⟨oX6_found_2, List.forall_mem_cons.mpr ⟨oX6_found_3, List.forall_mem_cons.mpr ⟨oX6_found_4, List.forall_mem_cons.mpr ⟨oX6_found_5, fun _ h => absurd h List.not_mem_nil⟩⟩⟩⟩⟩⟩
def tX6_weeksLeft_0 : List (Nat × hyE) := [(0, .aload_n 0, 1, 0, 0, 0, 0, 0, none, []),
  (1, .getfield 13, 4, 6, 2, 0, 0, 0, none, []),
  (4, .aload_n 0, 5, 0, 0, 0, 0, 0, none, []),
  (5, .getfield 7, 8, 6, 1, 0, 0, 0, none, []),
  (8, .aload_n 0, 9, 0, 0, 0, 0, 0, none, []),
  (9, .getfield 16, 12, 6, 4, 0, 0, 0, none, []),
  (12, .iload_n 1, 13, 1, 0, 0, 0, 0, none, []),
  (13, .iaload, 14, 0, 0, 0, 0, 0, none, []),
  (14, .iaload, 15, 0, 0, 0, 0, 0, none, []),
  (15, .iaload, 16, 0, 0, 0, 0, 0, none, [])]
theorem oX6_weeksLeft_0 : ∀ q ∈ tX6_weeksLeft_0, hy_ok mX6_weeksLeft q.1 q.2 = true := by decide +kernel
def tX6_weeksLeft_1 : List (Nat × hyE) := [(16, .istore_n 2, 17, 2, 0, 0, 0, 0, none, []),
  (17, .aload_n 0, 18, 0, 0, 0, 0, 0, none, []),
  (18, .getfield 25, 21, 6, 7, 0, 0, 0, none, []),
  (21, .iload_n 1, 22, 1, 0, 0, 0, 0, none, []),
  (22, .iaload, 23, 0, 0, 0, 0, 0, none, []),
  (23, .aload_n 0, 24, 0, 0, 0, 0, 0, none, []),
  (24, .getfield 28, 27, 6, 8, 0, 0, 0, none, []),
  (27, .iload_n 1, 28, 1, 0, 0, 0, 0, none, []),
  (28, .iaload, 29, 0, 0, 0, 0, 0, none, []),
  (29, .isub, 30, 0, 0, 0, 0, 0, none, []),
  (30, .istore_n 3, 31, 3, 0, 0, 0, 0, none, []),
  (31, .aload_n 0, 32, 0, 0, 0, 0, 0, none, [])]
theorem oX6_weeksLeft_1 : ∀ q ∈ tX6_weeksLeft_1, hy_ok mX6_weeksLeft q.1 q.2 = true := by decide +kernel
def tX6_weeksLeft_2 : List (Nat × hyE) := [(32, .getfield 31, 35, 6, 9, 0, 0, 0, none, []),
  (35, .iload_n 1, 36, 1, 0, 0, 0, 0, none, []),
  (36, .iaload, 37, 0, 0, 0, 0, 0, none, []),
  (37, .ifCond .ne 11, 40, 48, 0, 0, 0, 0, none, []),
  (40, .iload_n 3, 41, 3, 0, 0, 0, 0, none, []),
  (41, .ifCond .le 11, 44, 52, 0, 0, 0, 0, none, []),
  (44, .iload_n 2, 45, 2, 0, 0, 0, 0, none, []),
  (45, .ifCond .ne 7, 48, 52, 0, 0, 0, 0, none, [])]
theorem oX6_weeksLeft_2 : ∀ q ∈ tX6_weeksLeft_2, hy_ok mX6_weeksLeft q.1 q.2 = true := by decide +kernel
def tX6_weeksLeft_3 : List (Nat × hyE) := [(48, .iconst (-1), 49, 0, 0, 0, 0, (-1), none, []),
  (49, .goto 18, 52, 67, 0, 0, 0, 0, none, []),
  (52, .iload_n 3, 53, 3, 0, 0, 0, 0, none, []),
  (53, .ifCond .gt 7, 56, 60, 0, 0, 0, 0, none, []),
  (56, .iconst 0, 57, 0, 0, 0, 0, 0, none, []),
  (57, .goto 10, 60, 67, 0, 0, 0, 0, none, []),
  (60, .iload_n 3, 61, 3, 0, 0, 0, 0, none, []),
  (61, .iload_n 2, 62, 2, 0, 0, 0, 0, none, []),
  (62, .iadd, 63, 0, 0, 0, 0, 0, none, []),
  (63, .iconst 1, 64, 0, 0, 0, 0, 1, none, [])]
theorem oX6_weeksLeft_3 : ∀ q ∈ tX6_weeksLeft_3, hy_ok mX6_weeksLeft q.1 q.2 = true := by decide +kernel
def tX6_weeksLeft_4 : List (Nat × hyE) := [(64, .isub, 65, 0, 0, 0, 0, 0, none, []),
  (65, .iload_n 2, 66, 2, 0, 0, 0, 0, none, []),
  (66, .idiv, 67, 0, 0, 0, 0, 0, none, []),
  (67, .ireturn, 68, 0, 0, 0, 0, 0, none, [])]
theorem oX6_weeksLeft_4 : ∀ q ∈ tX6_weeksLeft_4, hy_ok mX6_weeksLeft q.1 q.2 = true := by decide +kernel
def tX6_weeksLeft : hyT := [tX6_weeksLeft_0, tX6_weeksLeft_1, tX6_weeksLeft_2, tX6_weeksLeft_3, tX6_weeksLeft_4]
theorem oX6_weeksLeft : hy_tok mX6_weeksLeft tX6_weeksLeft := List.forall_mem_cons.mpr ⟨oX6_weeksLeft_0, List.forall_mem_cons.mpr ⟨oX6_weeksLeft_1, List.forall_mem_cons.mpr ⟨oX6_weeksLeft_2, List.forall_mem_cons.mpr ⟨oX6_weeksLeft_3, List.forall_mem_cons.mpr ⟨oX6_weeksLeft_4, fun _ h => absurd h List.not_mem_nil⟩⟩⟩⟩⟩
def tX6_netOf_0 : List (Nat × hyE) := [(0, .aload_n 0, 1, 0, 0, 0, 0, 0, none, []),
  (1, .iload_n 1, 2, 1, 0, 0, 0, 0, none, []),
  (2, .invokevirtual 121, 5, 0, 1, 0, 6, 0, (some mX6_isNet), []),
  (5, .ifCond .ne 5, 8, 10, 0, 0, 0, 0, none, []),
  (8, .iconst (-1), 9, 0, 0, 0, 0, (-1), none, []),
  (9, .ireturn, 10, 0, 0, 0, 0, 0, none, []),
  (10, .iload_n 2, 11, 2, 0, 0, 0, 0, none, []),
  (11, .tableswitch 105 0 7 #[45, 52, 59, 73, 79, 86, 93, 99], 56, 116, 0, 45, 0, 0, none, [(0, 56), (1, 63), (2, 70), (3, 84), (4, 90), (5, 97), (6, 104), (7, 110)])]
theorem oX6_netOf_0 : ∀ q ∈ tX6_netOf_0, hy_ok mX6_netOf q.1 q.2 = true := by decide +kernel
def tX6_netOf_1 : List (Nat × hyE) := []
theorem oX6_netOf_1 : ∀ q ∈ tX6_netOf_1, hy_ok mX6_netOf q.1 q.2 = true := by decide +kernel
def tX6_netOf_2 : List (Nat × hyE) := []
theorem oX6_netOf_2 : ∀ q ∈ tX6_netOf_2, hy_ok mX6_netOf q.1 q.2 = true := by decide +kernel
def tX6_netOf_3 : List (Nat × hyE) := [(56, .aload_n 0, 57, 0, 0, 0, 0, 0, none, []),
  (57, .getfield 16, 60, 6, 4, 0, 0, 0, none, []),
  (60, .iload_n 1, 61, 1, 0, 0, 0, 0, none, []),
  (61, .iaload, 62, 0, 0, 0, 0, 0, none, []),
  (62, .ireturn, 63, 0, 0, 0, 0, 0, none, []),
  (63, .aload_n 0, 64, 0, 0, 0, 0, 0, none, [])]
theorem oX6_netOf_3 : ∀ q ∈ tX6_netOf_3, hy_ok mX6_netOf q.1 q.2 = true := by decide +kernel
def tX6_netOf_4 : List (Nat × hyE) := [(64, .getfield 28, 67, 6, 8, 0, 0, 0, none, []),
  (67, .iload_n 1, 68, 1, 0, 0, 0, 0, none, []),
  (68, .iaload, 69, 0, 0, 0, 0, 0, none, []),
  (69, .ireturn, 70, 0, 0, 0, 0, 0, none, []),
  (70, .aload_n 0, 71, 0, 0, 0, 0, 0, none, []),
  (71, .iload_n 1, 72, 1, 0, 0, 0, 0, none, []),
  (72, .invokevirtual 128, 75, 0, 1, 0, 6, 0, (some mX6_isRipe), []),
  (75, .ifCond .eq 7, 78, 82, 0, 0, 0, 0, none, []),
  (78, .iconst 1, 79, 0, 0, 0, 0, 1, none, []),
  (79, .goto 4, 82, 83, 0, 0, 0, 0, none, [])]
theorem oX6_netOf_4 : ∀ q ∈ tX6_netOf_4, hy_ok mX6_netOf q.1 q.2 = true := by decide +kernel
def tX6_netOf_5 : List (Nat × hyE) := [(82, .iconst 0, 83, 0, 0, 0, 0, 0, none, []),
  (83, .ireturn, 84, 0, 0, 0, 0, 0, none, []),
  (84, .aload_n 0, 85, 0, 0, 0, 0, 0, none, []),
  (85, .iload_n 1, 86, 1, 0, 0, 0, 0, none, []),
  (86, .invokevirtual 125, 89, 0, 1, 0, 6, 0, (some mX6_stateOf), []),
  (89, .ireturn, 90, 0, 0, 0, 0, 0, none, []),
  (90, .aload_n 0, 91, 0, 0, 0, 0, 0, none, []),
  (91, .getfield 19, 94, 6, 5, 0, 0, 0, none, []),
  (94, .iload_n 1, 95, 1, 0, 0, 0, 0, none, []),
  (95, .iaload, 96, 0, 0, 0, 0, 0, none, [])]
theorem oX6_netOf_5 : ∀ q ∈ tX6_netOf_5, hy_ok mX6_netOf q.1 q.2 = true := by decide +kernel
def tX6_netOf_6 : List (Nat × hyE) := [(96, .ireturn, 97, 0, 0, 0, 0, 0, none, []),
  (97, .aload_n 0, 98, 0, 0, 0, 0, 0, none, []),
  (98, .getfield 22, 101, 6, 6, 0, 0, 0, none, []),
  (101, .iload_n 1, 102, 1, 0, 0, 0, 0, none, []),
  (102, .iaload, 103, 0, 0, 0, 0, 0, none, []),
  (103, .ireturn, 104, 0, 0, 0, 0, 0, none, []),
  (104, .aload_n 0, 105, 0, 0, 0, 0, 0, none, []),
  (105, .iload_n 1, 106, 1, 0, 0, 0, 0, none, []),
  (106, .invokevirtual 117, 109, 0, 1, 0, 6, 0, (some mX6_findOf), []),
  (109, .ireturn, 110, 0, 0, 0, 0, 0, none, []),
  (110, .aload_n 0, 111, 0, 0, 0, 0, 0, none, []),
  (111, .iload_n 1, 112, 1, 0, 0, 0, 0, none, [])]
theorem oX6_netOf_6 : ∀ q ∈ tX6_netOf_6, hy_ok mX6_netOf q.1 q.2 = true := by decide +kernel
def tX6_netOf_7 : List (Nat × hyE) := [(112, .invokevirtual 134, 115, 0, 1, 0, 6, 0, (some mX6_weeksLeft), []),
  (115, .ireturn, 116, 0, 0, 0, 0, 0, none, []),
  (116, .iconst (-1), 117, 0, 0, 0, 0, (-1), none, []),
  (117, .ireturn, 118, 0, 0, 0, 0, 0, none, [])]
theorem oX6_netOf_7 : ∀ q ∈ tX6_netOf_7, hy_ok mX6_netOf q.1 q.2 = true := by decide +kernel
def tX6_netOf : hyT := [tX6_netOf_0, tX6_netOf_1, tX6_netOf_2, tX6_netOf_3, tX6_netOf_4, tX6_netOf_5, tX6_netOf_6, tX6_netOf_7]
theorem oX6_netOf : hy_tok mX6_netOf tX6_netOf := List.forall_mem_cons.mpr ⟨oX6_netOf_0, List.forall_mem_cons.mpr ⟨oX6_netOf_1, List.forall_mem_cons.mpr ⟨oX6_netOf_2, List.forall_mem_cons.mpr ⟨oX6_netOf_3, List.forall_mem_cons.mpr ⟨oX6_netOf_4, List.forall_mem_cons.mpr ⟨oX6_netOf_5, List.forall_mem_cons.mpr ⟨oX6_netOf_6, List.forall_mem_cons.mpr ⟨oX6_netOf_7, fun _ h => absurd h List.not_mem_nil⟩⟩⟩⟩⟩⟩⟩⟩
def tX6_order_0 : List (Nat × hyE) := [(0, .iload_n 1, 1, 1, 0, 0, 0, 0, none, []),
  (1, .iconst 0, 2, 0, 0, 0, 0, 0, none, []),
  (2, .iconst 3, 3, 0, 0, 0, 0, 3, none, []),
  (3, .invokestatic 93, 6, 2, 3, 0, 0, 0, (some mX6_in), []),
  (6, .ifCond .eq 44, 9, 50, 0, 0, 0, 0, none, []),
  (9, .iload_n 2, 10, 2, 0, 0, 0, 0, none, []),
  (10, .iconst 1, 11, 0, 0, 0, 0, 1, none, []),
  (11, .bipush 100, 13, 0, 0, 0, 0, 100, none, []),
  (13, .invokestatic 93, 16, 2, 3, 0, 0, 0, (some mX6_in), [])]
theorem oX6_order_0 : ∀ q ∈ tX6_order_0, hy_ok mX6_order q.1 q.2 = true := by decide +kernel
def tX6_order_1 : List (Nat × hyE) := [(16, .ifCond .eq 34, 19, 50, 0, 0, 0, 0, none, []),
  (19, .iload_n 3, 20, 3, 0, 0, 0, 0, none, []),
  (20, .iconst 0, 21, 0, 0, 0, 0, 0, none, []),
  (21, .sipush 1000, 24, 0, 0, 0, 0, 1000, none, []),
  (24, .invokestatic 93, 27, 2, 3, 0, 0, 0, (some mX6_in), []),
  (27, .ifCond .eq 23, 30, 50, 0, 0, 0, 0, none, []),
  (30, .iload 4, 32, 4, 0, 0, 0, 0, none, [])]
theorem oX6_order_1 : ∀ q ∈ tX6_order_1, hy_ok mX6_order q.1 q.2 = true := by decide +kernel
def tX6_order_2 : List (Nat × hyE) := [(32, .iconst 1, 33, 0, 0, 0, 0, 1, none, []),
  (33, .bipush 9, 35, 0, 0, 0, 0, 9, none, []),
  (35, .invokestatic 93, 38, 2, 3, 0, 0, 0, (some mX6_in), []),
  (38, .ifCond .eq 12, 41, 50, 0, 0, 0, 0, none, []),
  (41, .aload_n 0, 42, 0, 0, 0, 0, 0, none, []),
  (42, .getfield 137, 45, 6, 15, 0, 0, 0, none, []),
  (45, .bipush 7, 47, 0, 0, 0, 0, 7, none, []),
  (47, .if_icmp .ne 5, 50, 52, 0, 0, 0, 0, none, [])]
theorem oX6_order_2 : ∀ q ∈ tX6_order_2, hy_ok mX6_order q.1 q.2 = true := by decide +kernel
def tX6_order_3 : List (Nat × hyE) := [(50, .iconst (-1), 51, 0, 0, 0, 0, (-1), none, []),
  (51, .ireturn, 52, 0, 0, 0, 0, 0, none, []),
  (52, .aload_n 0, 53, 0, 0, 0, 0, 0, none, []),
  (53, .getfield 40, 56, 6, 16, 0, 0, 0, none, []),
  (56, .aload_n 0, 57, 0, 0, 0, 0, 0, none, []),
  (57, .getfield 137, 60, 6, 15, 0, 0, 0, none, []),
  (60, .iload_n 1, 61, 1, 0, 0, 0, 0, none, []),
  (61, .iastore, 62, 0, 0, 0, 0, 0, none, []),
  (62, .aload_n 0, 63, 0, 0, 0, 0, 0, none, []),
  (63, .getfield 43, 66, 6, 17, 0, 0, 0, none, [])]
theorem oX6_order_3 : ∀ q ∈ tX6_order_3, hy_ok mX6_order q.1 q.2 = true := by decide +kernel
def tX6_order_4 : List (Nat × hyE) := [(66, .aload_n 0, 67, 0, 0, 0, 0, 0, none, []),
  (67, .getfield 137, 70, 6, 15, 0, 0, 0, none, []),
  (70, .iload_n 2, 71, 2, 0, 0, 0, 0, none, []),
  (71, .iastore, 72, 0, 0, 0, 0, 0, none, []),
  (72, .aload_n 0, 73, 0, 0, 0, 0, 0, none, []),
  (73, .getfield 46, 76, 6, 18, 0, 0, 0, none, []),
  (76, .aload_n 0, 77, 0, 0, 0, 0, 0, none, []),
  (77, .getfield 137, 80, 6, 15, 0, 0, 0, none, [])]
theorem oX6_order_4 : ∀ q ∈ tX6_order_4, hy_ok mX6_order q.1 q.2 = true := by decide +kernel
def tX6_order_5 : List (Nat × hyE) := [(80, .iload_n 3, 81, 3, 0, 0, 0, 0, none, []),
  (81, .iastore, 82, 0, 0, 0, 0, 0, none, []),
  (82, .aload_n 0, 83, 0, 0, 0, 0, 0, none, []),
  (83, .getfield 49, 86, 6, 19, 0, 0, 0, none, []),
  (86, .aload_n 0, 87, 0, 0, 0, 0, 0, none, []),
  (87, .getfield 137, 90, 6, 15, 0, 0, 0, none, []),
  (90, .iload 4, 92, 4, 0, 0, 0, 0, none, []),
  (92, .iastore, 93, 0, 0, 0, 0, 0, none, []),
  (93, .aload_n 0, 94, 0, 0, 0, 0, 0, none, []),
  (94, .dup, 95, 0, 0, 0, 0, 0, none, []),
  (95, .getfield 137, 98, 6, 15, 0, 0, 0, none, [])]
theorem oX6_order_5 : ∀ q ∈ tX6_order_5, hy_ok mX6_order q.1 q.2 = true := by decide +kernel
def tX6_order_6 : List (Nat × hyE) := [(98, .iconst 1, 99, 0, 0, 0, 0, 1, none, []),
  (99, .iadd, 100, 0, 0, 0, 0, 0, none, []),
  (100, .putfield 137, 103, 6, 15, 0, 0, 0, none, []),
  (103, .aload_n 0, 104, 0, 0, 0, 0, 0, none, []),
  (104, .getfield 137, 107, 6, 15, 0, 0, 0, none, []),
  (107, .iconst 1, 108, 0, 0, 0, 0, 1, none, []),
  (108, .isub, 109, 0, 0, 0, 0, 0, none, []),
  (109, .ireturn, 110, 0, 0, 0, 0, 0, none, [])]
theorem oX6_order_6 : ∀ q ∈ tX6_order_6, hy_ok mX6_order q.1 q.2 = true := by decide +kernel
def tX6_order : hyT := [tX6_order_0, tX6_order_1, tX6_order_2, tX6_order_3, tX6_order_4, tX6_order_5, tX6_order_6]
theorem oX6_order : hy_tok mX6_order tX6_order := List.forall_mem_cons.mpr ⟨oX6_order_0, List.forall_mem_cons.mpr ⟨oX6_order_1, List.forall_mem_cons.mpr ⟨oX6_order_2, List.forall_mem_cons.mpr ⟨oX6_order_3, List.forall_mem_cons.mpr ⟨oX6_order_4, List.forall_mem_cons.mpr ⟨oX6_order_5, List.forall_mem_cons.mpr ⟨oX6_order_6, fun _ h => absurd h List.not_mem_nil⟩⟩⟩⟩⟩⟩⟩
def tX6_change_0 : List (Nat × hyE) := [(0, .iload_n 1, 1, 1, 0, 0, 0, 0, none, []),
  (1, .iconst 0, 2, 0, 0, 0, 0, 0, none, []),
  (2, .bipush 50, 4, 0, 0, 0, 0, 50, none, []),
  (4, .invokestatic 93, 7, 2, 3, 0, 0, 0, (some mX6_in), []),
  (7, .ifCond .ne 5, 10, 12, 0, 0, 0, 0, none, []),
  (10, .iconst 0, 11, 0, 0, 0, 0, 0, none, []),
  (11, .ireturn, 12, 0, 0, 0, 0, 0, none, []),
  (12, .aload_n 0, 13, 0, 0, 0, 0, 0, none, []),
  (13, .iload_n 1, 14, 1, 0, 0, 0, 0, none, []),
  (14, .putfield 52, 17, 6, 20, 0, 0, 0, none, [])]
theorem oX6_change_0 : ∀ q ∈ tX6_change_0, hy_ok mX6_change q.1 q.2 = true := by decide +kernel
def tX6_change_1 : List (Nat × hyE) := [(17, .iconst 1, 18, 0, 0, 0, 0, 1, none, []),
  (18, .ireturn, 19, 0, 0, 0, 0, 0, none, [])]
theorem oX6_change_1 : ∀ q ∈ tX6_change_1, hy_ok mX6_change q.1 q.2 = true := by decide +kernel
def tX6_change : hyT := [tX6_change_0, tX6_change_1]
theorem oX6_change : hy_tok mX6_change tX6_change := List.forall_mem_cons.mpr ⟨oX6_change_0, List.forall_mem_cons.mpr ⟨oX6_change_1, fun _ h => absurd h List.not_mem_nil⟩⟩
def tX6_endOf_0 : List (Nat × hyE) := [(0, .iconst 0, 1, 0, 0, 0, 0, 0, none, []),
  (1, .istore_n 3, 2, 3, 0, 0, 0, 0, none, []),
  (2, .iconst 0, 3, 0, 0, 0, 0, 0, none, []),
  (3, .istore 4, 5, 4, 0, 0, 0, 0, none, []),
  (5, .aload_n 0, 6, 0, 0, 0, 0, 0, none, []),
  (6, .iconst 0, 7, 0, 0, 0, 0, 0, none, []),
  (7, .putfield 140, 10, 6, 33, 0, 0, 0, none, []),
  (10, .iconst 0, 11, 0, 0, 0, 0, 0, none, []),
  (11, .istore 5, 13, 5, 0, 0, 0, 0, none, []),
  (13, .iload 5, 15, 5, 0, 0, 0, 0, none, []),
  (15, .iload_n 1, 16, 1, 0, 0, 0, 0, none, [])]
theorem oX6_endOf_0 : ∀ q ∈ tX6_endOf_0, hy_ok mX6_endOf q.1 q.2 = true := by decide +kernel
def tX6_endOf_1 : List (Nat × hyE) := [(16, .if_icmp .gt 113, 19, 129, 0, 0, 0, 0, none, []),
  (19, .iload_n 2, 20, 2, 0, 0, 0, 0, none, []),
  (20, .ifCond .eq 13, 23, 33, 0, 0, 0, 0, none, []),
  (23, .aload_n 0, 24, 0, 0, 0, 0, 0, none, []),
  (24, .getfield 81, 27, 6, 32, 0, 0, 0, none, []),
  (27, .iload 5, 29, 5, 0, 0, 0, 0, none, []),
  (29, .iaload, 30, 0, 0, 0, 0, 0, none, []),
  (30, .goto 10, 33, 40, 0, 0, 0, 0, none, [])]
theorem oX6_endOf_1 : ∀ q ∈ tX6_endOf_1, hy_ok mX6_endOf q.1 q.2 = true := by decide +kernel
def tX6_endOf_2 : List (Nat × hyE) := [(33, .aload_n 0, 34, 0, 0, 0, 0, 0, none, []),
  (34, .getfield 78, 37, 6, 31, 0, 0, 0, none, []),
  (37, .iload 5, 39, 5, 0, 0, 0, 0, none, []),
  (39, .iaload, 40, 0, 0, 0, 0, 0, none, []),
  (40, .istore 6, 42, 6, 0, 0, 0, 0, none, []),
  (42, .iload_n 3, 43, 3, 0, 0, 0, 0, none, []),
  (43, .aload_n 0, 44, 0, 0, 0, 0, 0, none, []),
  (44, .getfield 40, 47, 6, 16, 0, 0, 0, none, []),
  (47, .iload 6, 49, 6, 0, 0, 0, 0, none, [])]
theorem oX6_endOf_2 : ∀ q ∈ tX6_endOf_2, hy_ok mX6_endOf q.1 q.2 = true := by decide +kernel
def tX6_endOf_3 : List (Nat × hyE) := [(49, .iaload, 50, 0, 0, 0, 0, 0, none, []),
  (50, .iload 4, 52, 4, 0, 0, 0, 0, none, []),
  (52, .if_icmp .eq 10, 55, 62, 0, 0, 0, 0, none, []),
  (55, .aload_n 0, 56, 0, 0, 0, 0, 0, none, []),
  (56, .getfield 52, 59, 6, 20, 0, 0, 0, none, []),
  (59, .goto 4, 62, 63, 0, 0, 0, 0, none, []),
  (62, .iconst 0, 63, 0, 0, 0, 0, 0, none, []),
  (63, .aload_n 0, 64, 0, 0, 0, 0, 0, none, [])]
theorem oX6_endOf_3 : ∀ q ∈ tX6_endOf_3, hy_ok mX6_endOf q.1 q.2 = true := by decide +kernel
def tX6_endOf_4 : List (Nat × hyE) := [(64, .getfield 43, 67, 6, 17, 0, 0, 0, none, []),
  (67, .iload 6, 69, 6, 0, 0, 0, 0, none, []),
  (69, .iaload, 70, 0, 0, 0, 0, 0, none, []),
  (70, .iadd, 71, 0, 0, 0, 0, 0, none, []),
  (71, .iadd, 72, 0, 0, 0, 0, 0, none, []),
  (72, .istore_n 3, 73, 3, 0, 0, 0, 0, none, []),
  (73, .aload_n 0, 74, 0, 0, 0, 0, 0, none, []),
  (74, .getfield 40, 77, 6, 16, 0, 0, 0, none, []),
  (77, .iload 6, 79, 6, 0, 0, 0, 0, none, []),
  (79, .iaload, 80, 0, 0, 0, 0, 0, none, [])]
theorem oX6_endOf_4 : ∀ q ∈ tX6_endOf_4, hy_ok mX6_endOf q.1 q.2 = true := by decide +kernel
def tX6_endOf_5 : List (Nat × hyE) := [(80, .istore 4, 82, 4, 0, 0, 0, 0, none, []),
  (82, .aload_n 0, 83, 0, 0, 0, 0, 0, none, []),
  (83, .dup, 84, 0, 0, 0, 0, 0, none, []),
  (84, .getfield 140, 87, 6, 33, 0, 0, 0, none, []),
  (87, .iload_n 3, 88, 3, 0, 0, 0, 0, none, []),
  (88, .aload_n 0, 89, 0, 0, 0, 0, 0, none, []),
  (89, .getfield 46, 92, 6, 18, 0, 0, 0, none, []),
  (92, .iload 6, 94, 6, 0, 0, 0, 0, none, []),
  (94, .iaload, 95, 0, 0, 0, 0, 0, none, []),
  (95, .if_icmp .le 23, 98, 118, 0, 0, 0, 0, none, [])]
theorem oX6_endOf_5 : ∀ q ∈ tX6_endOf_5, hy_ok mX6_endOf q.1 q.2 = true := by decide +kernel
def tX6_endOf_6 : List (Nat × hyE) := [(98, .iload_n 3, 99, 3, 0, 0, 0, 0, none, []),
  (99, .aload_n 0, 100, 0, 0, 0, 0, 0, none, []),
  (100, .getfield 46, 103, 6, 18, 0, 0, 0, none, []),
  (103, .iload 6, 105, 6, 0, 0, 0, 0, none, []),
  (105, .iaload, 106, 0, 0, 0, 0, 0, none, []),
  (106, .isub, 107, 0, 0, 0, 0, 0, none, []),
  (107, .aload_n 0, 108, 0, 0, 0, 0, 0, none, []),
  (108, .getfield 49, 111, 6, 19, 0, 0, 0, none, []),
  (111, .iload 6, 113, 6, 0, 0, 0, 0, none, [])]
theorem oX6_endOf_6 : ∀ q ∈ tX6_endOf_6, hy_ok mX6_endOf q.1 q.2 = true := by decide +kernel
def tX6_endOf_7 : List (Nat × hyE) := [(113, .iaload, 114, 0, 0, 0, 0, 0, none, []),
  (114, .imul, 115, 0, 0, 0, 0, 0, none, []),
  (115, .goto 4, 118, 119, 0, 0, 0, 0, none, []),
  (118, .iconst 0, 119, 0, 0, 0, 0, 0, none, []),
  (119, .iadd, 120, 0, 0, 0, 0, 0, none, []),
  (120, .putfield 140, 123, 6, 33, 0, 0, 0, none, []),
  (123, .iinc 5 1, 126, 5, 0, 0, 0, 1, none, []),
  (126, .goto (-113), 129, 13, 0, 0, 0, 0, none, [])]
theorem oX6_endOf_7 : ∀ q ∈ tX6_endOf_7, hy_ok mX6_endOf q.1 q.2 = true := by decide +kernel
def tX6_endOf_8 : List (Nat × hyE) := [(129, .iload_n 3, 130, 3, 0, 0, 0, 0, none, []),
  (130, .ireturn, 131, 0, 0, 0, 0, 0, none, [])]
theorem oX6_endOf_8 : ∀ q ∈ tX6_endOf_8, hy_ok mX6_endOf q.1 q.2 = true := by decide +kernel
def tX6_endOf : hyT := [tX6_endOf_0, tX6_endOf_1, tX6_endOf_2, tX6_endOf_3, tX6_endOf_4, tX6_endOf_5, tX6_endOf_6, tX6_endOf_7, tX6_endOf_8]
theorem oX6_endOf : hy_tok mX6_endOf tX6_endOf := List.forall_mem_cons.mpr ⟨oX6_endOf_0, List.forall_mem_cons.mpr ⟨oX6_endOf_1, List.forall_mem_cons.mpr ⟨oX6_endOf_2, List.forall_mem_cons.mpr ⟨oX6_endOf_3, List.forall_mem_cons.mpr ⟨oX6_endOf_4, List.forall_mem_cons.mpr ⟨oX6_endOf_5, List.forall_mem_cons.mpr ⟨oX6_endOf_6, List.forall_mem_cons.mpr ⟨oX6_endOf_7, List.forall_mem_cons.mpr ⟨oX6_endOf_8, fun _ h => absurd h List.not_mem_nil⟩⟩⟩⟩⟩⟩⟩⟩⟩
def tX6_nextRow_0 : List (Nat × hyE) := [(0, .aload_n 0, 1, 0, 0, 0, 0, 0, none, []),
  (1, .getfield 137, 4, 6, 15, 0, 0, 0, none, []),
  (4, .iconst 2, 5, 0, 0, 0, 0, 2, none, []),
  (5, .isub, 6, 0, 0, 0, 0, 0, none, []),
  (6, .istore_n 1, 7, 1, 0, 0, 0, 0, none, []),
  (7, .iload_n 1, 8, 1, 0, 0, 0, 0, none, []),
  (8, .ifCond .lt 26, 11, 34, 0, 0, 0, 0, none, []),
  (11, .aload_n 0, 12, 0, 0, 0, 0, 0, none, []),
  (12, .getfield 78, 15, 6, 31, 0, 0, 0, none, []),
  (15, .iload_n 1, 16, 1, 0, 0, 0, 0, none, [])]
theorem oX6_nextRow_0 : ∀ q ∈ tX6_nextRow_0, hy_ok mX6_nextRow q.1 q.2 = true := by decide +kernel
def tX6_nextRow_1 : List (Nat × hyE) := [(16, .iaload, 17, 0, 0, 0, 0, 0, none, []),
  (17, .aload_n 0, 18, 0, 0, 0, 0, 0, none, []),
  (18, .getfield 78, 21, 6, 31, 0, 0, 0, none, []),
  (21, .iload_n 1, 22, 1, 0, 0, 0, 0, none, []),
  (22, .iconst 1, 23, 0, 0, 0, 0, 1, none, []),
  (23, .iadd, 24, 0, 0, 0, 0, 0, none, []),
  (24, .iaload, 25, 0, 0, 0, 0, 0, none, []),
  (25, .if_icmp .le 9, 28, 34, 0, 0, 0, 0, none, []),
  (28, .iinc 1 (-1), 31, 1, 0, 0, 0, (-1), none, []),
  (31, .goto (-24), 34, 7, 0, 0, 0, 0, none, [])]
theorem oX6_nextRow_1 : ∀ q ∈ tX6_nextRow_1, hy_ok mX6_nextRow q.1 q.2 = true := by decide +kernel
def tX6_nextRow_2 : List (Nat × hyE) := [(34, .iload_n 1, 35, 1, 0, 0, 0, 0, none, []),
  (35, .ifCond .ge 5, 38, 40, 0, 0, 0, 0, none, []),
  (38, .iconst 0, 39, 0, 0, 0, 0, 0, none, []),
  (39, .ireturn, 40, 0, 0, 0, 0, 0, none, []),
  (40, .aload_n 0, 41, 0, 0, 0, 0, 0, none, []),
  (41, .getfield 137, 44, 6, 15, 0, 0, 0, none, []),
  (44, .iconst 1, 45, 0, 0, 0, 0, 1, none, []),
  (45, .isub, 46, 0, 0, 0, 0, 0, none, []),
  (46, .istore_n 2, 47, 2, 0, 0, 0, 0, none, []),
  (47, .aload_n 0, 48, 0, 0, 0, 0, 0, none, [])]
theorem oX6_nextRow_2 : ∀ q ∈ tX6_nextRow_2, hy_ok mX6_nextRow q.1 q.2 = true := by decide +kernel
def tX6_nextRow_3 : List (Nat × hyE) := [(48, .getfield 78, 51, 6, 31, 0, 0, 0, none, []),
  (51, .iload_n 2, 52, 2, 0, 0, 0, 0, none, []),
  (52, .iaload, 53, 0, 0, 0, 0, 0, none, []),
  (53, .aload_n 0, 54, 0, 0, 0, 0, 0, none, []),
  (54, .getfield 78, 57, 6, 31, 0, 0, 0, none, []),
  (57, .iload_n 1, 58, 1, 0, 0, 0, 0, none, []),
  (58, .iaload, 59, 0, 0, 0, 0, 0, none, []),
  (59, .if_icmp .ge 9, 62, 68, 0, 0, 0, 0, none, []),
  (62, .iinc 2 (-1), 65, 2, 0, 0, 0, (-1), none, [])]
theorem oX6_nextRow_3 : ∀ q ∈ tX6_nextRow_3, hy_ok mX6_nextRow q.1 q.2 = true := by decide +kernel
def tX6_nextRow_4 : List (Nat × hyE) := [(65, .goto (-18), 68, 47, 0, 0, 0, 0, none, []),
  (68, .aload_n 0, 69, 0, 0, 0, 0, 0, none, []),
  (69, .iload_n 1, 70, 1, 0, 0, 0, 0, none, []),
  (70, .iload_n 2, 71, 2, 0, 0, 0, 0, none, []),
  (71, .invokevirtual 143, 74, 0, 2, 0, 6, 0, (some mX6_swaps), []),
  (74, .aload_n 0, 75, 0, 0, 0, 0, 0, none, []),
  (75, .getfield 137, 78, 6, 15, 0, 0, 0, none, []),
  (78, .iconst 1, 79, 0, 0, 0, 0, 1, none, []),
  (79, .isub, 80, 0, 0, 0, 0, 0, none, [])]
theorem oX6_nextRow_4 : ∀ q ∈ tX6_nextRow_4, hy_ok mX6_nextRow q.1 q.2 = true := by decide +kernel
def tX6_nextRow_5 : List (Nat × hyE) := [(80, .istore_n 3, 81, 3, 0, 0, 0, 0, none, []),
  (81, .iload_n 1, 82, 1, 0, 0, 0, 0, none, []),
  (82, .iconst 1, 83, 0, 0, 0, 0, 1, none, []),
  (83, .iadd, 84, 0, 0, 0, 0, 0, none, []),
  (84, .istore 4, 86, 4, 0, 0, 0, 0, none, []),
  (86, .iload 4, 88, 4, 0, 0, 0, 0, none, []),
  (88, .iload_n 3, 89, 3, 0, 0, 0, 0, none, []),
  (89, .if_icmp .ge 19, 92, 108, 0, 0, 0, 0, none, []),
  (92, .aload_n 0, 93, 0, 0, 0, 0, 0, none, []),
  (93, .iload 4, 95, 4, 0, 0, 0, 0, none, []),
  (95, .iload_n 3, 96, 3, 0, 0, 0, 0, none, [])]
theorem oX6_nextRow_5 : ∀ q ∈ tX6_nextRow_5, hy_ok mX6_nextRow q.1 q.2 = true := by decide +kernel
def tX6_nextRow_6 : List (Nat × hyE) := [(96, .invokevirtual 143, 99, 0, 2, 0, 6, 0, (some mX6_swaps), []),
  (99, .iinc 3 (-1), 102, 3, 0, 0, 0, (-1), none, []),
  (102, .iinc 4 1, 105, 4, 0, 0, 0, 1, none, []),
  (105, .goto (-19), 108, 86, 0, 0, 0, 0, none, []),
  (108, .iconst 1, 109, 0, 0, 0, 0, 1, none, []),
  (109, .ireturn, 110, 0, 0, 0, 0, 0, none, [])]
theorem oX6_nextRow_6 : ∀ q ∈ tX6_nextRow_6, hy_ok mX6_nextRow q.1 q.2 = true := by decide +kernel
def tX6_nextRow : hyT := [tX6_nextRow_0, tX6_nextRow_1, tX6_nextRow_2, tX6_nextRow_3, tX6_nextRow_4, tX6_nextRow_5, tX6_nextRow_6]
theorem oX6_nextRow : hy_tok mX6_nextRow tX6_nextRow := List.forall_mem_cons.mpr ⟨oX6_nextRow_0, List.forall_mem_cons.mpr ⟨oX6_nextRow_1, List.forall_mem_cons.mpr ⟨oX6_nextRow_2, List.forall_mem_cons.mpr ⟨oX6_nextRow_3, List.forall_mem_cons.mpr ⟨oX6_nextRow_4, List.forall_mem_cons.mpr ⟨oX6_nextRow_5, List.forall_mem_cons.mpr ⟨oX6_nextRow_6, fun _ h => absurd h List.not_mem_nil⟩⟩⟩⟩⟩⟩⟩
def tX6_swaps_0 : List (Nat × hyE) := [(0, .aload_n 0, 1, 0, 0, 0, 0, 0, none, []),
  (1, .getfield 78, 4, 6, 31, 0, 0, 0, none, []),
  (4, .iload_n 1, 5, 1, 0, 0, 0, 0, none, []),
  (5, .iaload, 6, 0, 0, 0, 0, 0, none, []),
  (6, .istore_n 3, 7, 3, 0, 0, 0, 0, none, []),
  (7, .aload_n 0, 8, 0, 0, 0, 0, 0, none, []),
  (8, .getfield 78, 11, 6, 31, 0, 0, 0, none, []),
  (11, .iload_n 1, 12, 1, 0, 0, 0, 0, none, []),
  (12, .aload_n 0, 13, 0, 0, 0, 0, 0, none, []),
  (13, .getfield 78, 16, 6, 31, 0, 0, 0, none, [])]
theorem oX6_swaps_0 : ∀ q ∈ tX6_swaps_0, hy_ok mX6_swaps q.1 q.2 = true := by decide +kernel
def tX6_swaps_1 : List (Nat × hyE) := [(16, .iload_n 2, 17, 2, 0, 0, 0, 0, none, []),
  (17, .iaload, 18, 0, 0, 0, 0, 0, none, []),
  (18, .iastore, 19, 0, 0, 0, 0, 0, none, []),
  (19, .aload_n 0, 20, 0, 0, 0, 0, 0, none, []),
  (20, .getfield 78, 23, 6, 31, 0, 0, 0, none, []),
  (23, .iload_n 2, 24, 2, 0, 0, 0, 0, none, []),
  (24, .iload_n 3, 25, 3, 0, 0, 0, 0, none, []),
  (25, .iastore, 26, 0, 0, 0, 0, 0, none, []),
  (26, .return_, 27, 0, 0, 0, 0, 0, none, [])]
theorem oX6_swaps_1 : ∀ q ∈ tX6_swaps_1, hy_ok mX6_swaps q.1 q.2 = true := by decide +kernel
def tX6_swaps : hyT := [tX6_swaps_0, tX6_swaps_1]
theorem oX6_swaps : hy_tok mX6_swaps tX6_swaps := List.forall_mem_cons.mpr ⟨oX6_swaps_0, List.forall_mem_cons.mpr ⟨oX6_swaps_1, fun _ h => absurd h List.not_mem_nil⟩⟩
def tX6_spins_0 : List (Nat × hyE) := [(0, .iconst 0, 1, 0, 0, 0, 0, 0, none, []),
  (1, .istore_n 1, 2, 1, 0, 0, 0, 0, none, []),
  (2, .iload_n 1, 3, 1, 0, 0, 0, 0, none, []),
  (3, .aload_n 0, 4, 0, 0, 0, 0, 0, none, []),
  (4, .getfield 137, 7, 6, 15, 0, 0, 0, none, []),
  (7, .if_icmp .ge 16, 10, 23, 0, 0, 0, 0, none, []),
  (10, .aload_n 0, 11, 0, 0, 0, 0, 0, none, []),
  (11, .getfield 78, 14, 6, 31, 0, 0, 0, none, []),
  (14, .iload_n 1, 15, 1, 0, 0, 0, 0, none, []),
  (15, .iload_n 1, 16, 1, 0, 0, 0, 0, none, [])]
theorem oX6_spins_0 : ∀ q ∈ tX6_spins_0, hy_ok mX6_spins q.1 q.2 = true := by decide +kernel
def tX6_spins_1 : List (Nat × hyE) := [(16, .iastore, 17, 0, 0, 0, 0, 0, none, []),
  (17, .iinc 1 1, 20, 1, 0, 0, 0, 1, none, []),
  (20, .goto (-18), 23, 2, 0, 0, 0, 0, none, []),
  (23, .ldc 147, 25, 0, 0, 0, 0, 1000000000, none, []),
  (25, .istore_n 1, 26, 1, 0, 0, 0, 0, none, []),
  (26, .iconst 1, 27, 0, 0, 0, 0, 1, none, []),
  (27, .istore_n 2, 28, 2, 0, 0, 0, 0, none, []),
  (28, .iload_n 2, 29, 2, 0, 0, 0, 0, none, []),
  (29, .ifCond .eq 68, 32, 97, 0, 0, 0, 0, none, [])]
theorem oX6_spins_1 : ∀ q ∈ tX6_spins_1, hy_ok mX6_spins q.1 q.2 = true := by decide +kernel
def tX6_spins_2 : List (Nat × hyE) := [(32, .aload_n 0, 33, 0, 0, 0, 0, 0, none, []),
  (33, .aload_n 0, 34, 0, 0, 0, 0, 0, none, []),
  (34, .getfield 137, 37, 6, 15, 0, 0, 0, none, []),
  (37, .iconst 1, 38, 0, 0, 0, 0, 1, none, []),
  (38, .isub, 39, 0, 0, 0, 0, 0, none, []),
  (39, .iconst 0, 40, 0, 0, 0, 0, 0, none, []),
  (40, .invokevirtual 148, 43, 0, 2, 0, 6, 0, (some mX6_endOf), []),
  (43, .istore_n 3, 44, 3, 0, 0, 0, 0, none, []),
  (44, .aload_n 0, 45, 0, 0, 0, 0, 0, none, []),
  (45, .getfield 140, 48, 6, 33, 0, 0, 0, none, [])]
theorem oX6_spins_2 : ∀ q ∈ tX6_spins_2, hy_ok mX6_spins q.1 q.2 = true := by decide +kernel
def tX6_spins_3 : List (Nat × hyE) := [(48, .iload_n 1, 49, 1, 0, 0, 0, 0, none, []),
  (49, .if_icmp .ge 40, 52, 89, 0, 0, 0, 0, none, []),
  (52, .aload_n 0, 53, 0, 0, 0, 0, 0, none, []),
  (53, .getfield 140, 56, 6, 33, 0, 0, 0, none, []),
  (56, .istore_n 1, 57, 1, 0, 0, 0, 0, none, []),
  (57, .iconst 0, 58, 0, 0, 0, 0, 0, none, []),
  (58, .istore 4, 60, 4, 0, 0, 0, 0, none, []),
  (60, .iload 4, 62, 4, 0, 0, 0, 0, none, []),
  (62, .aload_n 0, 63, 0, 0, 0, 0, 0, none, []),
  (63, .getfield 137, 66, 6, 15, 0, 0, 0, none, [])]
theorem oX6_spins_3 : ∀ q ∈ tX6_spins_3, hy_ok mX6_spins q.1 q.2 = true := by decide +kernel
def tX6_spins_4 : List (Nat × hyE) := [(66, .if_icmp .ge 23, 69, 89, 0, 0, 0, 0, none, []),
  (69, .aload_n 0, 70, 0, 0, 0, 0, 0, none, []),
  (70, .getfield 81, 73, 6, 32, 0, 0, 0, none, []),
  (73, .iload 4, 75, 4, 0, 0, 0, 0, none, []),
  (75, .aload_n 0, 76, 0, 0, 0, 0, 0, none, []),
  (76, .getfield 78, 79, 6, 31, 0, 0, 0, none, []),
  (79, .iload 4, 81, 4, 0, 0, 0, 0, none, [])]
theorem oX6_spins_4 : ∀ q ∈ tX6_spins_4, hy_ok mX6_spins q.1 q.2 = true := by decide +kernel
def tX6_spins_5 : List (Nat × hyE) := [(81, .iaload, 82, 0, 0, 0, 0, 0, none, []),
  (82, .iastore, 83, 0, 0, 0, 0, 0, none, []),
  (83, .iinc 4 1, 86, 4, 0, 0, 0, 1, none, []),
  (86, .goto (-26), 89, 60, 0, 0, 0, 0, none, []),
  (89, .aload_n 0, 90, 0, 0, 0, 0, 0, none, []),
  (90, .invokevirtual 152, 93, 0, 0, 0, 6, 0, (some mX6_nextRow), []),
  (93, .istore_n 2, 94, 2, 0, 0, 0, 0, none, []),
  (94, .goto (-66), 97, 28, 0, 0, 0, 0, none, [])]
theorem oX6_spins_5 : ∀ q ∈ tX6_spins_5, hy_ok mX6_spins q.1 q.2 = true := by decide +kernel
def tX6_spins_6 : List (Nat × hyE) := [(97, .iload_n 1, 98, 1, 0, 0, 0, 0, none, []),
  (98, .ireturn, 99, 0, 0, 0, 0, 0, none, [])]
theorem oX6_spins_6 : ∀ q ∈ tX6_spins_6, hy_ok mX6_spins q.1 q.2 = true := by decide +kernel
def tX6_spins : hyT := [tX6_spins_0, tX6_spins_1, tX6_spins_2, tX6_spins_3, tX6_spins_4, tX6_spins_5, tX6_spins_6]
theorem oX6_spins : hy_tok mX6_spins tX6_spins := List.forall_mem_cons.mpr ⟨oX6_spins_0, List.forall_mem_cons.mpr ⟨oX6_spins_1, List.forall_mem_cons.mpr ⟨oX6_spins_2, List.forall_mem_cons.mpr ⟨oX6_spins_3, List.forall_mem_cons.mpr ⟨oX6_spins_4, List.forall_mem_cons.mpr ⟨oX6_spins_5, List.forall_mem_cons.mpr ⟨oX6_spins_6, fun _ h => absurd h List.not_mem_nil⟩⟩⟩⟩⟩⟩⟩
def tX6_late_0 : List (Nat × hyE) := [(0, .aload_n 0, 1, 0, 0, 0, 0, 0, none, []),
  (1, .invokevirtual 156, 4, 0, 0, 0, 6, 0, (some mX6_spins), []),
  (4, .ireturn, 5, 0, 0, 0, 0, 0, none, [])]
theorem oX6_late_0 : ∀ q ∈ tX6_late_0, hy_ok mX6_late q.1 q.2 = true := by decide +kernel
def tX6_late : hyT := [tX6_late_0]
theorem oX6_late : hy_tok mX6_late tX6_late := List.forall_mem_cons.mpr ⟨oX6_late_0, fun _ h => absurd h List.not_mem_nil⟩
def tX6_spun_0 : List (Nat × hyE) := [(0, .iload_n 1, 1, 1, 0, 0, 0, 0, none, []),
  (1, .iconst 0, 2, 0, 0, 0, 0, 0, none, []),
  (2, .aload_n 0, 3, 0, 0, 0, 0, 0, none, []),
  (3, .getfield 137, 6, 6, 15, 0, 0, 0, none, []),
  (6, .iconst 1, 7, 0, 0, 0, 0, 1, none, []),
  (7, .isub, 8, 0, 0, 0, 0, 0, none, []),
  (8, .invokestatic 93, 11, 2, 3, 0, 0, 0, (some mX6_in), []),
  (11, .ifCond .eq 12, 14, 23, 0, 0, 0, 0, none, []),
  (14, .iload_n 2, 15, 2, 0, 0, 0, 0, none, []),
  (15, .iconst 0, 16, 0, 0, 0, 0, 0, none, [])]
theorem oX6_spun_0 : ∀ q ∈ tX6_spun_0, hy_ok mX6_spun q.1 q.2 = true := by decide +kernel
def tX6_spun_1 : List (Nat × hyE) := [(16, .iconst 1, 17, 0, 0, 0, 0, 1, none, []),
  (17, .invokestatic 93, 20, 2, 3, 0, 0, 0, (some mX6_in), []),
  (20, .ifCond .ne 5, 23, 25, 0, 0, 0, 0, none, []),
  (23, .iconst (-1), 24, 0, 0, 0, 0, (-1), none, []),
  (24, .ireturn, 25, 0, 0, 0, 0, 0, none, []),
  (25, .aload_n 0, 26, 0, 0, 0, 0, 0, none, []),
  (26, .invokevirtual 156, 29, 0, 0, 0, 6, 0, (some mX6_spins), []),
  (29, .istore_n 3, 30, 3, 0, 0, 0, 0, none, []),
  (30, .iload_n 2, 31, 2, 0, 0, 0, 0, none, []),
  (31, .ifCond .ne 12, 34, 43, 0, 0, 0, 0, none, [])]
theorem oX6_spun_1 : ∀ q ∈ tX6_spun_1, hy_ok mX6_spun q.1 q.2 = true := by decide +kernel
def tX6_spun_2 : List (Nat × hyE) := [(34, .aload_n 0, 35, 0, 0, 0, 0, 0, none, []),
  (35, .getfield 81, 38, 6, 32, 0, 0, 0, none, []),
  (38, .iload_n 1, 39, 1, 0, 0, 0, 0, none, []),
  (39, .iaload, 40, 0, 0, 0, 0, 0, none, []),
  (40, .goto 9, 43, 49, 0, 0, 0, 0, none, []),
  (43, .aload_n 0, 44, 0, 0, 0, 0, 0, none, []),
  (44, .iload_n 1, 45, 1, 0, 0, 0, 0, none, []),
  (45, .iconst 1, 46, 0, 0, 0, 0, 1, none, []),
  (46, .invokevirtual 148, 49, 0, 2, 0, 6, 0, (some mX6_endOf), [])]
theorem oX6_spun_2 : ∀ q ∈ tX6_spun_2, hy_ok mX6_spun q.1 q.2 = true := by decide +kernel
def tX6_spun_3 : List (Nat × hyE) := [(49, .ireturn, 50, 0, 0, 0, 0, 0, none, [])]
theorem oX6_spun_3 : ∀ q ∈ tX6_spun_3, hy_ok mX6_spun q.1 q.2 = true := by decide +kernel
def tX6_spun : hyT := [tX6_spun_0, tX6_spun_1, tX6_spun_2, tX6_spun_3]
theorem oX6_spun : hy_tok mX6_spun tX6_spun := List.forall_mem_cons.mpr ⟨oX6_spun_0, List.forall_mem_cons.mpr ⟨oX6_spun_1, List.forall_mem_cons.mpr ⟨oX6_spun_2, List.forall_mem_cons.mpr ⟨oX6_spun_3, fun _ h => absurd h List.not_mem_nil⟩⟩⟩⟩
def tX6_clear_0 : List (Nat × hyE) := [(0, .aload_n 0, 1, 0, 0, 0, 0, 0, none, []),
  (1, .getfield 137, 4, 6, 15, 0, 0, 0, none, []),
  (4, .istore_n 1, 5, 1, 0, 0, 0, 0, none, []),
  (5, .aload_n 0, 6, 0, 0, 0, 0, 0, none, []),
  (6, .iconst 0, 7, 0, 0, 0, 0, 0, none, []),
  (7, .putfield 137, 10, 6, 15, 0, 0, 0, none, []),
  (10, .iload_n 1, 11, 1, 0, 0, 0, 0, none, []),
  (11, .ireturn, 12, 0, 0, 0, 0, 0, none, [])]
theorem oX6_clear_0 : ∀ q ∈ tX6_clear_0, hy_ok mX6_clear q.1 q.2 = true := by decide +kernel
def tX6_clear : hyT := [tX6_clear_0]
theorem oX6_clear : hy_tok mX6_clear tX6_clear := List.forall_mem_cons.mpr ⟨oX6_clear_0, fun _ h => absurd h List.not_mem_nil⟩
def tX6_roll_0 : List (Nat × hyE) := [(0, .iload_n 1, 1, 1, 0, 0, 0, 0, none, []),
  (1, .iconst 1, 2, 0, 0, 0, 0, 1, none, []),
  (2, .sipush 1000, 5, 0, 0, 0, 0, 1000, none, []),
  (5, .invokestatic 93, 8, 2, 3, 0, 0, 0, (some mX6_in), []),
  (8, .ifCond .eq 21, 11, 29, 0, 0, 0, 0, none, []),
  (11, .iload_n 2, 12, 2, 0, 0, 0, 0, none, []),
  (12, .iconst 0, 13, 0, 0, 0, 0, 0, none, []),
  (13, .iconst 2, 14, 0, 0, 0, 0, 2, none, []),
  (14, .invokestatic 93, 17, 2, 3, 0, 0, 0, (some mX6_in), [])]
theorem oX6_roll_0 : ∀ q ∈ tX6_roll_0, hy_ok mX6_roll q.1 q.2 = true := by decide +kernel
def tX6_roll_1 : List (Nat × hyE) := [(17, .ifCond .eq 12, 20, 29, 0, 0, 0, 0, none, []),
  (20, .aload_n 0, 21, 0, 0, 0, 0, 0, none, []),
  (21, .getfield 160, 24, 6, 21, 0, 0, 0, none, []),
  (24, .bipush 6, 26, 0, 0, 0, 0, 6, none, []),
  (26, .if_icmp .ne 5, 29, 31, 0, 0, 0, 0, none, []),
  (29, .iconst (-1), 30, 0, 0, 0, 0, (-1), none, []),
  (30, .ireturn, 31, 0, 0, 0, 0, 0, none, []),
  (31, .aload_n 0, 32, 0, 0, 0, 0, 0, none, [])]
theorem oX6_roll_1 : ∀ q ∈ tX6_roll_1, hy_ok mX6_roll q.1 q.2 = true := by decide +kernel
def tX6_roll_2 : List (Nat × hyE) := [(32, .getfield 56, 35, 6, 22, 0, 0, 0, none, []),
  (35, .aload_n 0, 36, 0, 0, 0, 0, 0, none, []),
  (36, .getfield 160, 39, 6, 21, 0, 0, 0, none, []),
  (39, .iload_n 1, 40, 1, 0, 0, 0, 0, none, []),
  (40, .iastore, 41, 0, 0, 0, 0, 0, none, []),
  (41, .aload_n 0, 42, 0, 0, 0, 0, 0, none, []),
  (42, .getfield 59, 45, 6, 23, 0, 0, 0, none, []),
  (45, .aload_n 0, 46, 0, 0, 0, 0, 0, none, []),
  (46, .getfield 160, 49, 6, 21, 0, 0, 0, none, [])]
theorem oX6_roll_2 : ∀ q ∈ tX6_roll_2, hy_ok mX6_roll q.1 q.2 = true := by decide +kernel
def tX6_roll_3 : List (Nat × hyE) := [(49, .iload_n 2, 50, 2, 0, 0, 0, 0, none, []),
  (50, .iastore, 51, 0, 0, 0, 0, 0, none, []),
  (51, .aload_n 0, 52, 0, 0, 0, 0, 0, none, []),
  (52, .dup, 53, 0, 0, 0, 0, 0, none, []),
  (53, .getfield 160, 56, 6, 21, 0, 0, 0, none, []),
  (56, .iconst 1, 57, 0, 0, 0, 0, 1, none, []),
  (57, .iadd, 58, 0, 0, 0, 0, 0, none, []),
  (58, .putfield 160, 61, 6, 21, 0, 0, 0, none, []),
  (61, .aload_n 0, 62, 0, 0, 0, 0, 0, none, []),
  (62, .getfield 160, 65, 6, 21, 0, 0, 0, none, [])]
theorem oX6_roll_3 : ∀ q ∈ tX6_roll_3, hy_ok mX6_roll q.1 q.2 = true := by decide +kernel
def tX6_roll_4 : List (Nat × hyE) := [(65, .iconst 1, 66, 0, 0, 0, 0, 1, none, []),
  (66, .isub, 67, 0, 0, 0, 0, 0, none, []),
  (67, .ireturn, 68, 0, 0, 0, 0, 0, none, [])]
theorem oX6_roll_4 : ∀ q ∈ tX6_roll_4, hy_ok mX6_roll q.1 q.2 = true := by decide +kernel
def tX6_roll : hyT := [tX6_roll_0, tX6_roll_1, tX6_roll_2, tX6_roll_3, tX6_roll_4]
theorem oX6_roll : hy_tok mX6_roll tX6_roll := List.forall_mem_cons.mpr ⟨oX6_roll_0, List.forall_mem_cons.mpr ⟨oX6_roll_1, List.forall_mem_cons.mpr ⟨oX6_roll_2, List.forall_mem_cons.mpr ⟨oX6_roll_3, List.forall_mem_cons.mpr ⟨oX6_roll_4, fun _ h => absurd h List.not_mem_nil⟩⟩⟩⟩⟩
def tX6_cut_0 : List (Nat × hyE) := [(0, .iload_n 1, 1, 1, 0, 0, 0, 0, none, []),
  (1, .iconst 1, 2, 0, 0, 0, 0, 1, none, []),
  (2, .sipush 500, 5, 0, 0, 0, 0, 500, none, []),
  (5, .invokestatic 93, 8, 2, 3, 0, 0, 0, (some mX6_in), []),
  (8, .ifCond .eq 21, 11, 29, 0, 0, 0, 0, none, []),
  (11, .iload_n 2, 12, 2, 0, 0, 0, 0, none, []),
  (12, .iconst 0, 13, 0, 0, 0, 0, 0, none, []),
  (13, .iconst 3, 14, 0, 0, 0, 0, 3, none, []),
  (14, .invokestatic 93, 17, 2, 3, 0, 0, 0, (some mX6_in), [])]
theorem oX6_cut_0 : ∀ q ∈ tX6_cut_0, hy_ok mX6_cut q.1 q.2 = true := by decide +kernel
def tX6_cut_1 : List (Nat × hyE) := [(17, .ifCond .eq 12, 20, 29, 0, 0, 0, 0, none, []),
  (20, .aload_n 0, 21, 0, 0, 0, 0, 0, none, []),
  (21, .getfield 163, 24, 6, 24, 0, 0, 0, none, []),
  (24, .bipush 8, 26, 0, 0, 0, 0, 8, none, []),
  (26, .if_icmp .ne 5, 29, 31, 0, 0, 0, 0, none, []),
  (29, .iconst (-1), 30, 0, 0, 0, 0, (-1), none, []),
  (30, .ireturn, 31, 0, 0, 0, 0, 0, none, []),
  (31, .aload_n 0, 32, 0, 0, 0, 0, 0, none, [])]
theorem oX6_cut_1 : ∀ q ∈ tX6_cut_1, hy_ok mX6_cut q.1 q.2 = true := by decide +kernel
def tX6_cut_2 : List (Nat × hyE) := [(32, .getfield 62, 35, 6, 25, 0, 0, 0, none, []),
  (35, .aload_n 0, 36, 0, 0, 0, 0, 0, none, []),
  (36, .getfield 163, 39, 6, 24, 0, 0, 0, none, []),
  (39, .iload_n 1, 40, 1, 0, 0, 0, 0, none, []),
  (40, .iastore, 41, 0, 0, 0, 0, 0, none, []),
  (41, .aload_n 0, 42, 0, 0, 0, 0, 0, none, []),
  (42, .getfield 65, 45, 6, 26, 0, 0, 0, none, []),
  (45, .aload_n 0, 46, 0, 0, 0, 0, 0, none, []),
  (46, .getfield 163, 49, 6, 24, 0, 0, 0, none, [])]
theorem oX6_cut_2 : ∀ q ∈ tX6_cut_2, hy_ok mX6_cut q.1 q.2 = true := by decide +kernel
def tX6_cut_3 : List (Nat × hyE) := [(49, .iload_n 2, 50, 2, 0, 0, 0, 0, none, []),
  (50, .iastore, 51, 0, 0, 0, 0, 0, none, []),
  (51, .aload_n 0, 52, 0, 0, 0, 0, 0, none, []),
  (52, .dup, 53, 0, 0, 0, 0, 0, none, []),
  (53, .getfield 163, 56, 6, 24, 0, 0, 0, none, []),
  (56, .iconst 1, 57, 0, 0, 0, 0, 1, none, []),
  (57, .iadd, 58, 0, 0, 0, 0, 0, none, []),
  (58, .putfield 163, 61, 6, 24, 0, 0, 0, none, []),
  (61, .aload_n 0, 62, 0, 0, 0, 0, 0, none, []),
  (62, .getfield 163, 65, 6, 24, 0, 0, 0, none, [])]
theorem oX6_cut_3 : ∀ q ∈ tX6_cut_3, hy_ok mX6_cut q.1 q.2 = true := by decide +kernel
def tX6_cut_4 : List (Nat × hyE) := [(65, .iconst 1, 66, 0, 0, 0, 0, 1, none, []),
  (66, .isub, 67, 0, 0, 0, 0, 0, none, []),
  (67, .ireturn, 68, 0, 0, 0, 0, 0, none, [])]
theorem oX6_cut_4 : ∀ q ∈ tX6_cut_4, hy_ok mX6_cut q.1 q.2 = true := by decide +kernel
def tX6_cut : hyT := [tX6_cut_0, tX6_cut_1, tX6_cut_2, tX6_cut_3, tX6_cut_4]
theorem oX6_cut : hy_tok mX6_cut tX6_cut := List.forall_mem_cons.mpr ⟨oX6_cut_0, List.forall_mem_cons.mpr ⟨oX6_cut_1, List.forall_mem_cons.mpr ⟨oX6_cut_2, List.forall_mem_cons.mpr ⟨oX6_cut_3, List.forall_mem_cons.mpr ⟨oX6_cut_4, fun _ h => absurd h List.not_mem_nil⟩⟩⟩⟩⟩
def tX6_cutOf_0 : List (Nat × hyE) := [(0, .iconst 0, 1, 0, 0, 0, 0, 0, none, []),
  (1, .istore_n 3, 2, 3, 0, 0, 0, 0, none, []),
  (2, .iconst 0, 3, 0, 0, 0, 0, 0, none, []),
  (3, .istore 4, 5, 4, 0, 0, 0, 0, none, []),
  (5, .iload 4, 7, 4, 0, 0, 0, 0, none, []),
  (7, .iload_n 2, 8, 2, 0, 0, 0, 0, none, []),
  (8, .if_icmp .ge 34, 11, 42, 0, 0, 0, 0, none, []),
  (11, .iload_n 3, 12, 3, 0, 0, 0, 0, none, []),
  (12, .aload_n 0, 13, 0, 0, 0, 0, 0, none, []),
  (13, .getfield 84, 16, 6, 34, 0, 0, 0, none, [])]
theorem oX6_cutOf_0 : ∀ q ∈ tX6_cutOf_0, hy_ok mX6_cutOf q.1 q.2 = true := by decide +kernel
def tX6_cutOf_1 : List (Nat × hyE) := [(16, .iload 4, 18, 4, 0, 0, 0, 0, none, []),
  (18, .iaload, 19, 0, 0, 0, 0, 0, none, []),
  (19, .iload_n 1, 20, 1, 0, 0, 0, 0, none, []),
  (20, .if_icmp .ne 13, 23, 33, 0, 0, 0, 0, none, []),
  (23, .aload_n 0, 24, 0, 0, 0, 0, 0, none, []),
  (24, .getfield 62, 27, 6, 25, 0, 0, 0, none, []),
  (27, .iload 4, 29, 4, 0, 0, 0, 0, none, []),
  (29, .iaload, 30, 0, 0, 0, 0, 0, none, []),
  (30, .goto 4, 33, 34, 0, 0, 0, 0, none, [])]
theorem oX6_cutOf_1 : ∀ q ∈ tX6_cutOf_1, hy_ok mX6_cutOf q.1 q.2 = true := by decide +kernel
def tX6_cutOf_2 : List (Nat × hyE) := [(33, .iconst 0, 34, 0, 0, 0, 0, 0, none, []),
  (34, .iadd, 35, 0, 0, 0, 0, 0, none, []),
  (35, .istore_n 3, 36, 3, 0, 0, 0, 0, none, []),
  (36, .iinc 4 1, 39, 4, 0, 0, 0, 1, none, []),
  (39, .goto (-34), 42, 5, 0, 0, 0, 0, none, []),
  (42, .iload_n 3, 43, 3, 0, 0, 0, 0, none, []),
  (43, .ireturn, 44, 0, 0, 0, 0, 0, none, [])]
theorem oX6_cutOf_2 : ∀ q ∈ tX6_cutOf_2, hy_ok mX6_cutOf q.1 q.2 = true := by decide +kernel
def tX6_cutOf : hyT := [tX6_cutOf_0, tX6_cutOf_1, tX6_cutOf_2]
theorem oX6_cutOf : hy_tok mX6_cutOf tX6_cutOf := List.forall_mem_cons.mpr ⟨oX6_cutOf_0, List.forall_mem_cons.mpr ⟨oX6_cutOf_1, List.forall_mem_cons.mpr ⟨oX6_cutOf_2, fun _ h => absurd h List.not_mem_nil⟩⟩⟩
def tX6_openedBy_0 : List (Nat × hyE) := [(0, .iconst 0, 1, 0, 0, 0, 0, 0, none, []),
  (1, .istore_n 2, 2, 2, 0, 0, 0, 0, none, []),
  (2, .iconst 0, 3, 0, 0, 0, 0, 0, none, []),
  (3, .istore_n 3, 4, 3, 0, 0, 0, 0, none, []),
  (4, .iload_n 3, 5, 3, 0, 0, 0, 0, none, []),
  (5, .aload_n 0, 6, 0, 0, 0, 0, 0, none, []),
  (6, .getfield 160, 9, 6, 21, 0, 0, 0, none, []),
  (9, .if_icmp .ge 31, 12, 40, 0, 0, 0, 0, none, []),
  (12, .iload_n 2, 13, 2, 0, 0, 0, 0, none, []),
  (13, .aload_n 0, 14, 0, 0, 0, 0, 0, none, []),
  (14, .iload_n 3, 15, 3, 0, 0, 0, 0, none, []),
  (15, .iload_n 1, 16, 1, 0, 0, 0, 0, none, [])]
theorem oX6_openedBy_0 : ∀ q ∈ tX6_openedBy_0, hy_ok mX6_openedBy q.1 q.2 = true := by decide +kernel
def tX6_openedBy_1 : List (Nat × hyE) := [(16, .invokevirtual 166, 19, 0, 2, 0, 6, 0, (some mX6_cutOf), []),
  (19, .ifCond .le 12, 22, 31, 0, 0, 0, 0, none, []),
  (22, .aload_n 0, 23, 0, 0, 0, 0, 0, none, []),
  (23, .getfield 56, 26, 6, 22, 0, 0, 0, none, []),
  (26, .iload_n 3, 27, 3, 0, 0, 0, 0, none, []),
  (27, .iaload, 28, 0, 0, 0, 0, 0, none, []),
  (28, .goto 4, 31, 32, 0, 0, 0, 0, none, []),
  (31, .iconst 0, 32, 0, 0, 0, 0, 0, none, [])]
theorem oX6_openedBy_1 : ∀ q ∈ tX6_openedBy_1, hy_ok mX6_openedBy q.1 q.2 = true := by decide +kernel
def tX6_openedBy_2 : List (Nat × hyE) := [(32, .iadd, 33, 0, 0, 0, 0, 0, none, []),
  (33, .istore_n 2, 34, 2, 0, 0, 0, 0, none, []),
  (34, .iinc 3 1, 37, 3, 0, 0, 0, 1, none, []),
  (37, .goto (-33), 40, 4, 0, 0, 0, 0, none, []),
  (40, .iload_n 2, 41, 2, 0, 0, 0, 0, none, []),
  (41, .ireturn, 42, 0, 0, 0, 0, 0, none, [])]
theorem oX6_openedBy_2 : ∀ q ∈ tX6_openedBy_2, hy_ok mX6_openedBy q.1 q.2 = true := by decide +kernel
def tX6_openedBy : hyT := [tX6_openedBy_0, tX6_openedBy_1, tX6_openedBy_2]
theorem oX6_openedBy : hy_tok mX6_openedBy tX6_openedBy := List.forall_mem_cons.mpr ⟨oX6_openedBy_0, List.forall_mem_cons.mpr ⟨oX6_openedBy_1, List.forall_mem_cons.mpr ⟨oX6_openedBy_2, fun _ h => absurd h List.not_mem_nil⟩⟩⟩
def tX6_mayLie_0 : List (Nat × hyE) := [(0, .iload_n 1, 1, 1, 0, 0, 0, 0, none, []),
  (1, .iconst 1, 2, 0, 0, 0, 0, 1, none, []),
  (2, .isub, 3, 0, 0, 0, 0, 0, none, []),
  (3, .istore_n 2, 4, 2, 0, 0, 0, 0, none, []),
  (4, .aload_n 0, 5, 0, 0, 0, 0, 0, none, []),
  (5, .aload_n 0, 6, 0, 0, 0, 0, 0, none, []),
  (6, .getfield 84, 9, 6, 34, 0, 0, 0, none, []),
  (9, .iload_n 2, 10, 2, 0, 0, 0, 0, none, []),
  (10, .iaload, 11, 0, 0, 0, 0, 0, none, []),
  (11, .iload_n 1, 12, 1, 0, 0, 0, 0, none, []),
  (12, .invokevirtual 166, 15, 0, 2, 0, 6, 0, (some mX6_cutOf), []),
  (15, .aload_n 0, 16, 0, 0, 0, 0, 0, none, [])]
theorem oX6_mayLie_0 : ∀ q ∈ tX6_mayLie_0, hy_ok mX6_mayLie q.1 q.2 = true := by decide +kernel
def tX6_mayLie_1 : List (Nat × hyE) := [(16, .getfield 56, 19, 6, 22, 0, 0, 0, none, []),
  (19, .aload_n 0, 20, 0, 0, 0, 0, 0, none, []),
  (20, .getfield 84, 23, 6, 34, 0, 0, 0, none, []),
  (23, .iload_n 2, 24, 2, 0, 0, 0, 0, none, []),
  (24, .iaload, 25, 0, 0, 0, 0, 0, none, []),
  (25, .iaload, 26, 0, 0, 0, 0, 0, none, []),
  (26, .if_icmp .gt 7, 29, 33, 0, 0, 0, 0, none, []),
  (29, .iconst 1, 30, 0, 0, 0, 0, 1, none, []),
  (30, .goto 4, 33, 34, 0, 0, 0, 0, none, [])]
theorem oX6_mayLie_1 : ∀ q ∈ tX6_mayLie_1, hy_ok mX6_mayLie q.1 q.2 = true := by decide +kernel
def tX6_mayLie_2 : List (Nat × hyE) := [(33, .iconst 0, 34, 0, 0, 0, 0, 0, none, []),
  (34, .istore_n 3, 35, 3, 0, 0, 0, 0, none, []),
  (35, .iconst 0, 36, 0, 0, 0, 0, 0, none, []),
  (36, .istore 4, 38, 4, 0, 0, 0, 0, none, []),
  (38, .iload 4, 40, 4, 0, 0, 0, 0, none, []),
  (40, .iload_n 2, 41, 2, 0, 0, 0, 0, none, []),
  (41, .if_icmp .ge 61, 44, 102, 0, 0, 0, 0, none, []),
  (44, .iload_n 3, 45, 3, 0, 0, 0, 0, none, []),
  (45, .ifCond .eq 49, 48, 94, 0, 0, 0, 0, none, [])]
theorem oX6_mayLie_2 : ∀ q ∈ tX6_mayLie_2, hy_ok mX6_mayLie q.1 q.2 = true := by decide +kernel
def tX6_mayLie_3 : List (Nat × hyE) := [(48, .aload_n 0, 49, 0, 0, 0, 0, 0, none, []),
  (49, .getfield 65, 52, 6, 26, 0, 0, 0, none, []),
  (52, .iload 4, 54, 4, 0, 0, 0, 0, none, []),
  (54, .iaload, 55, 0, 0, 0, 0, 0, none, []),
  (55, .aload_n 0, 56, 0, 0, 0, 0, 0, none, []),
  (56, .getfield 65, 59, 6, 26, 0, 0, 0, none, []),
  (59, .iload_n 2, 60, 2, 0, 0, 0, 0, none, []),
  (60, .iaload, 61, 0, 0, 0, 0, 0, none, []),
  (61, .if_icmp .ne 29, 64, 90, 0, 0, 0, 0, none, [])]
theorem oX6_mayLie_3 : ∀ q ∈ tX6_mayLie_3, hy_ok mX6_mayLie q.1 q.2 = true := by decide +kernel
def tX6_mayLie_4 : List (Nat × hyE) := [(64, .aload_n 0, 65, 0, 0, 0, 0, 0, none, []),
  (65, .getfield 59, 68, 6, 23, 0, 0, 0, none, []),
  (68, .aload_n 0, 69, 0, 0, 0, 0, 0, none, []),
  (69, .getfield 84, 72, 6, 34, 0, 0, 0, none, []),
  (72, .iload 4, 74, 4, 0, 0, 0, 0, none, []),
  (74, .iaload, 75, 0, 0, 0, 0, 0, none, []),
  (75, .iaload, 76, 0, 0, 0, 0, 0, none, []),
  (76, .aload_n 0, 77, 0, 0, 0, 0, 0, none, []),
  (77, .getfield 59, 80, 6, 23, 0, 0, 0, none, [])]
theorem oX6_mayLie_4 : ∀ q ∈ tX6_mayLie_4, hy_ok mX6_mayLie q.1 q.2 = true := by decide +kernel
def tX6_mayLie_5 : List (Nat × hyE) := [(80, .aload_n 0, 81, 0, 0, 0, 0, 0, none, []),
  (81, .getfield 84, 84, 6, 34, 0, 0, 0, none, []),
  (84, .iload_n 2, 85, 2, 0, 0, 0, 0, none, []),
  (85, .iaload, 86, 0, 0, 0, 0, 0, none, []),
  (86, .iaload, 87, 0, 0, 0, 0, 0, none, []),
  (87, .if_icmp .ne 7, 90, 94, 0, 0, 0, 0, none, []),
  (90, .iconst 1, 91, 0, 0, 0, 0, 1, none, []),
  (91, .goto 4, 94, 95, 0, 0, 0, 0, none, []),
  (94, .iconst 0, 95, 0, 0, 0, 0, 0, none, []),
  (95, .istore_n 3, 96, 3, 0, 0, 0, 0, none, [])]
theorem oX6_mayLie_5 : ∀ q ∈ tX6_mayLie_5, hy_ok mX6_mayLie q.1 q.2 = true := by decide +kernel
def tX6_mayLie_6 : List (Nat × hyE) := [(96, .iinc 4 1, 99, 4, 0, 0, 0, 1, none, []),
  (99, .goto (-61), 102, 38, 0, 0, 0, 0, none, []),
  (102, .iload_n 3, 103, 3, 0, 0, 0, 0, none, []),
  (103, .ireturn, 104, 0, 0, 0, 0, 0, none, [])]
theorem oX6_mayLie_6 : ∀ q ∈ tX6_mayLie_6, hy_ok mX6_mayLie q.1 q.2 = true := by decide +kernel
def tX6_mayLie : hyT := [tX6_mayLie_0, tX6_mayLie_1, tX6_mayLie_2, tX6_mayLie_3, tX6_mayLie_4, tX6_mayLie_5, tX6_mayLie_6]
theorem oX6_mayLie : hy_tok mX6_mayLie tX6_mayLie := List.forall_mem_cons.mpr ⟨oX6_mayLie_0, List.forall_mem_cons.mpr ⟨oX6_mayLie_1, List.forall_mem_cons.mpr ⟨oX6_mayLie_2, List.forall_mem_cons.mpr ⟨oX6_mayLie_3, List.forall_mem_cons.mpr ⟨oX6_mayLie_4, List.forall_mem_cons.mpr ⟨oX6_mayLie_5, List.forall_mem_cons.mpr ⟨oX6_mayLie_6, fun _ h => absurd h List.not_mem_nil⟩⟩⟩⟩⟩⟩⟩
def tX6_lays_0 : List (Nat × hyE) := [(0, .ldc 147, 2, 0, 0, 0, 0, 1000000000, none, []),
  (2, .istore_n 1, 3, 1, 0, 0, 0, 0, none, []),
  (3, .iconst 0, 4, 0, 0, 0, 0, 0, none, []),
  (4, .istore_n 2, 5, 2, 0, 0, 0, 0, none, []),
  (5, .iconst 0, 6, 0, 0, 0, 0, 0, none, []),
  (6, .istore_n 3, 7, 3, 0, 0, 0, 0, none, []),
  (7, .iload_n 3, 8, 3, 0, 0, 0, 0, none, []),
  (8, .bipush 8, 10, 0, 0, 0, 0, 8, none, []),
  (10, .if_icmp .ge 16, 13, 26, 0, 0, 0, 0, none, []),
  (13, .aload_n 0, 14, 0, 0, 0, 0, 0, none, []),
  (14, .getfield 84, 17, 6, 34, 0, 0, 0, none, [])]
theorem oX6_lays_0 : ∀ q ∈ tX6_lays_0, hy_ok mX6_lays q.1 q.2 = true := by decide +kernel
def tX6_lays_1 : List (Nat × hyE) := [(17, .iload_n 3, 18, 3, 0, 0, 0, 0, none, []),
  (18, .iconst (-1), 19, 0, 0, 0, 0, (-1), none, []),
  (19, .iastore, 20, 0, 0, 0, 0, 0, none, []),
  (20, .iinc 3 1, 23, 3, 0, 0, 0, 1, none, []),
  (23, .goto (-16), 26, 7, 0, 0, 0, 0, none, []),
  (26, .iload_n 2, 27, 2, 0, 0, 0, 0, none, []),
  (27, .ifCond .lt 143, 30, 170, 0, 0, 0, 0, none, []),
  (30, .iload_n 2, 31, 2, 0, 0, 0, 0, none, []),
  (31, .aload_n 0, 32, 0, 0, 0, 0, 0, none, [])]
theorem oX6_lays_1 : ∀ q ∈ tX6_lays_1, hy_ok mX6_lays q.1 q.2 = true := by decide +kernel
def tX6_lays_2 : List (Nat × hyE) := [(32, .getfield 163, 35, 6, 24, 0, 0, 0, none, []),
  (35, .if_icmp .ne 46, 38, 81, 0, 0, 0, 0, none, []),
  (38, .aload_n 0, 39, 0, 0, 0, 0, 0, none, []),
  (39, .aload_n 0, 40, 0, 0, 0, 0, 0, none, []),
  (40, .getfield 163, 43, 6, 24, 0, 0, 0, none, []),
  (43, .invokevirtual 170, 46, 0, 1, 0, 6, 0, (some mX6_openedBy), []),
  (46, .istore_n 1, 47, 1, 0, 0, 0, 0, none, []),
  (47, .iconst 0, 48, 0, 0, 0, 0, 0, none, [])]
theorem oX6_lays_2 : ∀ q ∈ tX6_lays_2, hy_ok mX6_lays q.1 q.2 = true := by decide +kernel
def tX6_lays_3 : List (Nat × hyE) := [(48, .istore_n 3, 49, 3, 0, 0, 0, 0, none, []),
  (49, .iload_n 3, 50, 3, 0, 0, 0, 0, none, []),
  (50, .aload_n 0, 51, 0, 0, 0, 0, 0, none, []),
  (51, .getfield 163, 54, 6, 24, 0, 0, 0, none, []),
  (54, .if_icmp .ge 21, 57, 75, 0, 0, 0, 0, none, []),
  (57, .aload_n 0, 58, 0, 0, 0, 0, 0, none, []),
  (58, .getfield 87, 61, 6, 35, 0, 0, 0, none, []),
  (61, .iload_n 3, 62, 3, 0, 0, 0, 0, none, []),
  (62, .aload_n 0, 63, 0, 0, 0, 0, 0, none, []),
  (63, .getfield 84, 66, 6, 34, 0, 0, 0, none, [])]
theorem oX6_lays_3 : ∀ q ∈ tX6_lays_3, hy_ok mX6_lays q.1 q.2 = true := by decide +kernel
def tX6_lays_4 : List (Nat × hyE) := [(66, .iload_n 3, 67, 3, 0, 0, 0, 0, none, []),
  (67, .iaload, 68, 0, 0, 0, 0, 0, none, []),
  (68, .iastore, 69, 0, 0, 0, 0, 0, none, []),
  (69, .iinc 3 1, 72, 3, 0, 0, 0, 1, none, []),
  (72, .goto (-23), 75, 49, 0, 0, 0, 0, none, []),
  (75, .iinc 2 (-1), 78, 2, 0, 0, 0, (-1), none, []),
  (78, .goto (-52), 81, 26, 0, 0, 0, 0, none, [])]
theorem oX6_lays_4 : ∀ q ∈ tX6_lays_4, hy_ok mX6_lays q.1 q.2 = true := by decide +kernel
def tX6_lays_5 : List (Nat × hyE) := [(81, .aload_n 0, 82, 0, 0, 0, 0, 0, none, []),
  (82, .getfield 84, 85, 6, 34, 0, 0, 0, none, []),
  (85, .iload_n 2, 86, 2, 0, 0, 0, 0, none, []),
  (86, .dup2, 87, 0, 0, 0, 0, 0, none, []),
  (87, .iaload, 88, 0, 0, 0, 0, 0, none, []),
  (88, .iconst 1, 89, 0, 0, 0, 0, 1, none, []),
  (89, .iadd, 90, 0, 0, 0, 0, 0, none, []),
  (90, .iastore, 91, 0, 0, 0, 0, 0, none, []),
  (91, .aload_n 0, 92, 0, 0, 0, 0, 0, none, []),
  (92, .getfield 84, 95, 6, 34, 0, 0, 0, none, []),
  (95, .iload_n 2, 96, 2, 0, 0, 0, 0, none, [])]
theorem oX6_lays_5 : ∀ q ∈ tX6_lays_5, hy_ok mX6_lays q.1 q.2 = true := by decide +kernel
def tX6_lays_6 : List (Nat × hyE) := [(96, .iaload, 97, 0, 0, 0, 0, 0, none, []),
  (97, .aload_n 0, 98, 0, 0, 0, 0, 0, none, []),
  (98, .getfield 160, 101, 6, 21, 0, 0, 0, none, []),
  (101, .if_icmp .ge 37, 104, 138, 0, 0, 0, 0, none, []),
  (104, .aload_n 0, 105, 0, 0, 0, 0, 0, none, []),
  (105, .iload_n 2, 106, 2, 0, 0, 0, 0, none, []),
  (106, .iconst 1, 107, 0, 0, 0, 0, 1, none, []),
  (107, .iadd, 108, 0, 0, 0, 0, 0, none, []),
  (108, .invokevirtual 173, 111, 0, 1, 0, 6, 0, (some mX6_mayLie), []),
  (111, .ifCond .eq 14, 114, 125, 0, 0, 0, 0, none, [])]
theorem oX6_lays_6 : ∀ q ∈ tX6_lays_6, hy_ok mX6_lays q.1 q.2 = true := by decide +kernel
def tX6_lays_7 : List (Nat × hyE) := [(114, .aload_n 0, 115, 0, 0, 0, 0, 0, none, []),
  (115, .iload_n 2, 116, 2, 0, 0, 0, 0, none, []),
  (116, .iconst 1, 117, 0, 0, 0, 0, 1, none, []),
  (117, .iadd, 118, 0, 0, 0, 0, 0, none, []),
  (118, .invokevirtual 170, 121, 0, 1, 0, 6, 0, (some mX6_openedBy), []),
  (121, .iload_n 1, 122, 1, 0, 0, 0, 0, none, []),
  (122, .if_icmp .lt 16, 125, 138, 0, 0, 0, 0, none, []),
  (125, .aload_n 0, 126, 0, 0, 0, 0, 0, none, []),
  (126, .getfield 84, 129, 6, 34, 0, 0, 0, none, [])]
theorem oX6_lays_7 : ∀ q ∈ tX6_lays_7, hy_ok mX6_lays q.1 q.2 = true := by decide +kernel
def tX6_lays_8 : List (Nat × hyE) := [(129, .iload_n 2, 130, 2, 0, 0, 0, 0, none, []),
  (130, .dup2, 131, 0, 0, 0, 0, 0, none, []),
  (131, .iaload, 132, 0, 0, 0, 0, 0, none, []),
  (132, .iconst 1, 133, 0, 0, 0, 0, 1, none, []),
  (133, .iadd, 134, 0, 0, 0, 0, 0, none, []),
  (134, .iastore, 135, 0, 0, 0, 0, 0, none, []),
  (135, .goto (-44), 138, 91, 0, 0, 0, 0, none, []),
  (138, .aload_n 0, 139, 0, 0, 0, 0, 0, none, []),
  (139, .getfield 84, 142, 6, 34, 0, 0, 0, none, []),
  (142, .iload_n 2, 143, 2, 0, 0, 0, 0, none, []),
  (143, .iaload, 144, 0, 0, 0, 0, 0, none, [])]
theorem oX6_lays_8 : ∀ q ∈ tX6_lays_8, hy_ok mX6_lays q.1 q.2 = true := by decide +kernel
def tX6_lays_9 : List (Nat × hyE) := [(144, .aload_n 0, 145, 0, 0, 0, 0, 0, none, []),
  (145, .getfield 160, 148, 6, 21, 0, 0, 0, none, []),
  (148, .if_icmp .lt 16, 151, 164, 0, 0, 0, 0, none, []),
  (151, .aload_n 0, 152, 0, 0, 0, 0, 0, none, []),
  (152, .getfield 84, 155, 6, 34, 0, 0, 0, none, []),
  (155, .iload_n 2, 156, 2, 0, 0, 0, 0, none, []),
  (156, .iconst (-1), 157, 0, 0, 0, 0, (-1), none, []),
  (157, .iastore, 158, 0, 0, 0, 0, 0, none, []),
  (158, .iinc 2 (-1), 161, 2, 0, 0, 0, (-1), none, [])]
theorem oX6_lays_9 : ∀ q ∈ tX6_lays_9, hy_ok mX6_lays q.1 q.2 = true := by decide +kernel
def tX6_lays_10 : List (Nat × hyE) := [(161, .goto (-135), 164, 26, 0, 0, 0, 0, none, []),
  (164, .iinc 2 1, 167, 2, 0, 0, 0, 1, none, []),
  (167, .goto (-141), 170, 26, 0, 0, 0, 0, none, []),
  (170, .iload_n 1, 171, 1, 0, 0, 0, 0, none, []),
  (171, .ireturn, 172, 0, 0, 0, 0, 0, none, [])]
theorem oX6_lays_10 : ∀ q ∈ tX6_lays_10, hy_ok mX6_lays q.1 q.2 = true := by decide +kernel
def tX6_lays : hyT := [tX6_lays_0, tX6_lays_1, tX6_lays_2, tX6_lays_3, tX6_lays_4, tX6_lays_5, tX6_lays_6, tX6_lays_7, tX6_lays_8, tX6_lays_9, tX6_lays_10]
theorem oX6_lays : hy_tok mX6_lays tX6_lays := List.forall_mem_cons.mpr ⟨oX6_lays_0, List.forall_mem_cons.mpr ⟨oX6_lays_1, List.forall_mem_cons.mpr ⟨oX6_lays_2, List.forall_mem_cons.mpr ⟨oX6_lays_3, List.forall_mem_cons.mpr ⟨oX6_lays_4, List.forall_mem_cons.mpr ⟨oX6_lays_5, List.forall_mem_cons.mpr ⟨oX6_lays_6, List.forall_mem_cons.mpr ⟨oX6_lays_7, List.forall_mem_cons.mpr ⟨oX6_lays_8, List.forall_mem_cons.mpr ⟨oX6_lays_9, List.forall_mem_cons.mpr ⟨oX6_lays_10, fun _ h => absurd h List.not_mem_nil⟩⟩⟩⟩⟩⟩⟩⟩⟩⟩⟩
def tX6_opened_0 : List (Nat × hyE) := [(0, .aload_n 0, 1, 0, 0, 0, 0, 0, none, []),
  (1, .invokevirtual 176, 4, 0, 0, 0, 6, 0, (some mX6_lays), []),
  (4, .istore_n 1, 5, 1, 0, 0, 0, 0, none, []),
  (5, .iload_n 1, 6, 1, 0, 0, 0, 0, none, []),
  (6, .ldc 147, 8, 0, 0, 0, 0, 1000000000, none, []),
  (8, .if_icmp .ne 7, 11, 15, 0, 0, 0, 0, none, []),
  (11, .iconst (-1), 12, 0, 0, 0, 0, (-1), none, []),
  (12, .goto 4, 15, 16, 0, 0, 0, 0, none, []),
  (15, .iload_n 1, 16, 1, 0, 0, 0, 0, none, [])]
theorem oX6_opened_0 : ∀ q ∈ tX6_opened_0, hy_ok mX6_opened q.1 q.2 = true := by decide +kernel
def tX6_opened_1 : List (Nat × hyE) := [(16, .ireturn, 17, 0, 0, 0, 0, 0, none, [])]
theorem oX6_opened_1 : ∀ q ∈ tX6_opened_1, hy_ok mX6_opened q.1 q.2 = true := by decide +kernel
def tX6_opened : hyT := [tX6_opened_0, tX6_opened_1]
theorem oX6_opened : hy_tok mX6_opened tX6_opened := List.forall_mem_cons.mpr ⟨oX6_opened_0, List.forall_mem_cons.mpr ⟨oX6_opened_1, fun _ h => absurd h List.not_mem_nil⟩⟩
def tX6_from_0 : List (Nat × hyE) := [(0, .iload_n 1, 1, 1, 0, 0, 0, 0, none, []),
  (1, .iconst 0, 2, 0, 0, 0, 0, 0, none, []),
  (2, .aload_n 0, 3, 0, 0, 0, 0, 0, none, []),
  (3, .getfield 163, 6, 6, 24, 0, 0, 0, none, []),
  (6, .iconst 1, 7, 0, 0, 0, 0, 1, none, []),
  (7, .isub, 8, 0, 0, 0, 0, 0, none, []),
  (8, .invokestatic 93, 11, 2, 3, 0, 0, 0, (some mX6_in), []),
  (11, .ifCond .eq 12, 14, 23, 0, 0, 0, 0, none, []),
  (14, .aload_n 0, 15, 0, 0, 0, 0, 0, none, []),
  (15, .invokevirtual 176, 18, 0, 0, 0, 6, 0, (some mX6_lays), [])]
theorem oX6_from_0 : ∀ q ∈ tX6_from_0, hy_ok mX6_from q.1 q.2 = true := by decide +kernel
def tX6_from_1 : List (Nat × hyE) := [(18, .ldc 147, 20, 0, 0, 0, 0, 1000000000, none, []),
  (20, .if_icmp .ne 7, 23, 27, 0, 0, 0, 0, none, []),
  (23, .iconst (-1), 24, 0, 0, 0, 0, (-1), none, []),
  (24, .goto 9, 27, 33, 0, 0, 0, 0, none, []),
  (27, .aload_n 0, 28, 0, 0, 0, 0, 0, none, []),
  (28, .getfield 87, 31, 6, 35, 0, 0, 0, none, []),
  (31, .iload_n 1, 32, 1, 0, 0, 0, 0, none, [])]
theorem oX6_from_1 : ∀ q ∈ tX6_from_1, hy_ok mX6_from q.1 q.2 = true := by decide +kernel
def tX6_from_2 : List (Nat × hyE) := [(32, .iaload, 33, 0, 0, 0, 0, 0, none, []),
  (33, .ireturn, 34, 0, 0, 0, 0, 0, none, [])]
theorem oX6_from_2 : ∀ q ∈ tX6_from_2, hy_ok mX6_from q.1 q.2 = true := by decide +kernel
def tX6_from : hyT := [tX6_from_0, tX6_from_1, tX6_from_2]
theorem oX6_from : hy_tok mX6_from tX6_from := List.forall_mem_cons.mpr ⟨oX6_from_0, List.forall_mem_cons.mpr ⟨oX6_from_1, List.forall_mem_cons.mpr ⟨oX6_from_2, fun _ h => absurd h List.not_mem_nil⟩⟩⟩
def tX6_away_0 : List (Nat × hyE) := [(0, .aload_n 0, 1, 0, 0, 0, 0, 0, none, []),
  (1, .getfield 163, 4, 6, 24, 0, 0, 0, none, []),
  (4, .istore_n 1, 5, 1, 0, 0, 0, 0, none, []),
  (5, .aload_n 0, 6, 0, 0, 0, 0, 0, none, []),
  (6, .iconst 0, 7, 0, 0, 0, 0, 0, none, []),
  (7, .putfield 163, 10, 6, 24, 0, 0, 0, none, []),
  (10, .aload_n 0, 11, 0, 0, 0, 0, 0, none, []),
  (11, .iconst 0, 12, 0, 0, 0, 0, 0, none, []),
  (12, .putfield 160, 15, 6, 21, 0, 0, 0, none, []),
  (15, .iload_n 1, 16, 1, 0, 0, 0, 0, none, [])]
theorem oX6_away_0 : ∀ q ∈ tX6_away_0, hy_ok mX6_away q.1 q.2 = true := by decide +kernel
def tX6_away_1 : List (Nat × hyE) := [(16, .ireturn, 17, 0, 0, 0, 0, 0, none, [])]
theorem oX6_away_1 : ∀ q ∈ tX6_away_1, hy_ok mX6_away q.1 q.2 = true := by decide +kernel
def tX6_away : hyT := [tX6_away_0, tX6_away_1]
theorem oX6_away : hy_tok mX6_away tX6_away := List.forall_mem_cons.mpr ⟨oX6_away_0, List.forall_mem_cons.mpr ⟨oX6_away_1, fun _ h => absurd h List.not_mem_nil⟩⟩
def tX6_reads_0 : List (Nat × hyE) := [(0, .iload_n 0, 1, 0, 0, 0, 0, 0, none, []),
  (1, .sipush 1000, 4, 0, 0, 0, 0, 1000, none, []),
  (4, .iload_n 1, 5, 1, 0, 0, 0, 0, none, []),
  (5, .iadd, 6, 0, 0, 0, 0, 0, none, []),
  (6, .imul, 7, 0, 0, 0, 0, 0, none, []),
  (7, .sipush 1000, 10, 0, 0, 0, 0, 1000, none, []),
  (10, .idiv, 11, 0, 0, 0, 0, 0, none, []),
  (11, .ireturn, 12, 0, 0, 0, 0, 0, none, [])]
theorem oX6_reads_0 : ∀ q ∈ tX6_reads_0, hy_ok mX6_reads q.1 q.2 = true := by decide +kernel
def tX6_reads : hyT := [tX6_reads_0]
theorem oX6_reads : hy_tok mX6_reads tX6_reads := List.forall_mem_cons.mpr ⟨oX6_reads_0, fun _ h => absurd h List.not_mem_nil⟩
def tX6_reading_0 : List (Nat × hyE) := [(0, .iload_n 1, 1, 1, 0, 0, 0, 0, none, []),
  (1, .iconst 1, 2, 0, 0, 0, 0, 1, none, []),
  (2, .sipush 10000, 5, 0, 0, 0, 0, 10000, none, []),
  (5, .invokestatic 93, 8, 2, 3, 0, 0, 0, (some mX6_in), []),
  (8, .ifCond .eq 23, 11, 31, 0, 0, 0, 0, none, []),
  (11, .iload_n 2, 12, 2, 0, 0, 0, 0, none, []),
  (12, .iconst 0, 13, 0, 0, 0, 0, 0, none, []),
  (13, .sipush 20000, 16, 0, 0, 0, 0, 20000, none, [])]
theorem oX6_reading_0 : ∀ q ∈ tX6_reading_0, hy_ok mX6_reading q.1 q.2 = true := by decide +kernel
def tX6_reading_1 : List (Nat × hyE) := [(16, .invokestatic 93, 19, 2, 3, 0, 0, 0, (some mX6_in), []),
  (19, .ifCond .eq 12, 22, 31, 0, 0, 0, 0, none, []),
  (22, .aload_n 0, 23, 0, 0, 0, 0, 0, none, []),
  (23, .getfield 179, 26, 6, 27, 0, 0, 0, none, []),
  (26, .bipush 20, 28, 0, 0, 0, 0, 20, none, []),
  (28, .if_icmp .ne 5, 31, 33, 0, 0, 0, 0, none, []),
  (31, .iconst (-1), 32, 0, 0, 0, 0, (-1), none, [])]
theorem oX6_reading_1 : ∀ q ∈ tX6_reading_1, hy_ok mX6_reading q.1 q.2 = true := by decide +kernel
def tX6_reading_2 : List (Nat × hyE) := [(32, .ireturn, 33, 0, 0, 0, 0, 0, none, []),
  (33, .ldc 147, 35, 0, 0, 0, 0, 1000000000, none, []),
  (35, .istore_n 3, 36, 3, 0, 0, 0, 0, none, []),
  (36, .ldc 147, 38, 0, 0, 0, 0, 1000000000, none, []),
  (38, .istore 4, 40, 4, 0, 0, 0, 0, none, []),
  (40, .aload_n 0, 41, 0, 0, 0, 0, 0, none, []),
  (41, .getfield 68, 44, 6, 28, 0, 0, 0, none, []),
  (44, .istore 5, 46, 5, 0, 0, 0, 0, none, []),
  (46, .iload 5, 48, 5, 0, 0, 0, 0, none, [])]
theorem oX6_reading_2 : ∀ q ∈ tX6_reading_2, hy_ok mX6_reading q.1 q.2 = true := by decide +kernel
def tX6_reading_3 : List (Nat × hyE) := [(48, .aload_n 0, 49, 0, 0, 0, 0, 0, none, []),
  (49, .getfield 71, 52, 6, 29, 0, 0, 0, none, []),
  (52, .if_icmp .gt 36, 55, 88, 0, 0, 0, 0, none, []),
  (55, .iload_n 1, 56, 1, 0, 0, 0, 0, none, []),
  (56, .iload 5, 58, 5, 0, 0, 0, 0, none, []),
  (58, .invokestatic 182, 61, 8, 2, 0, 0, 0, (some mX6_reads), []),
  (61, .iload_n 2, 62, 2, 0, 0, 0, 0, none, []),
  (62, .if_icmp .ne 20, 65, 82, 0, 0, 0, 0, none, [])]
theorem oX6_reading_3 : ∀ q ∈ tX6_reading_3, hy_ok mX6_reading q.1 q.2 = true := by decide +kernel
def tX6_reading_4 : List (Nat × hyE) := [(65, .iload_n 3, 66, 3, 0, 0, 0, 0, none, []),
  (66, .ldc 147, 68, 0, 0, 0, 0, 1000000000, none, []),
  (68, .if_icmp .ne 8, 71, 76, 0, 0, 0, 0, none, []),
  (71, .iload 5, 73, 5, 0, 0, 0, 0, none, []),
  (73, .goto 4, 76, 77, 0, 0, 0, 0, none, []),
  (76, .iload_n 3, 77, 3, 0, 0, 0, 0, none, []),
  (77, .istore_n 3, 78, 3, 0, 0, 0, 0, none, []),
  (78, .iload 5, 80, 5, 0, 0, 0, 0, none, [])]
theorem oX6_reading_4 : ∀ q ∈ tX6_reading_4, hy_ok mX6_reading q.1 q.2 = true := by decide +kernel
def tX6_reading_5 : List (Nat × hyE) := [(80, .istore 4, 82, 4, 0, 0, 0, 0, none, []),
  (82, .iinc 5 1, 85, 5, 0, 0, 0, 1, none, []),
  (85, .goto (-39), 88, 46, 0, 0, 0, 0, none, []),
  (88, .iload_n 3, 89, 3, 0, 0, 0, 0, none, []),
  (89, .ldc 147, 91, 0, 0, 0, 0, 1000000000, none, []),
  (91, .if_icmp .ne 5, 94, 96, 0, 0, 0, 0, none, []),
  (94, .iconst (-1), 95, 0, 0, 0, 0, (-1), none, []),
  (95, .ireturn, 96, 0, 0, 0, 0, 0, none, [])]
theorem oX6_reading_5 : ∀ q ∈ tX6_reading_5, hy_ok mX6_reading q.1 q.2 = true := by decide +kernel
def tX6_reading_6 : List (Nat × hyE) := [(96, .aload_n 0, 97, 0, 0, 0, 0, 0, none, []),
  (97, .iload_n 3, 98, 3, 0, 0, 0, 0, none, []),
  (98, .putfield 68, 101, 6, 28, 0, 0, 0, none, []),
  (101, .aload_n 0, 102, 0, 0, 0, 0, 0, none, []),
  (102, .iload 4, 104, 4, 0, 0, 0, 0, none, []),
  (104, .putfield 71, 107, 6, 29, 0, 0, 0, none, []),
  (107, .aload_n 0, 108, 0, 0, 0, 0, 0, none, []),
  (108, .dup, 109, 0, 0, 0, 0, 0, none, []),
  (109, .getfield 179, 112, 6, 27, 0, 0, 0, none, [])]
theorem oX6_reading_6 : ∀ q ∈ tX6_reading_6, hy_ok mX6_reading q.1 q.2 = true := by decide +kernel
def tX6_reading_7 : List (Nat × hyE) := [(112, .iconst 1, 113, 0, 0, 0, 0, 1, none, []),
  (113, .iadd, 114, 0, 0, 0, 0, 0, none, []),
  (114, .putfield 179, 117, 6, 27, 0, 0, 0, none, []),
  (117, .aload_n 0, 118, 0, 0, 0, 0, 0, none, []),
  (118, .getfield 179, 121, 6, 27, 0, 0, 0, none, []),
  (121, .ireturn, 122, 0, 0, 0, 0, 0, none, [])]
theorem oX6_reading_7 : ∀ q ∈ tX6_reading_7, hy_ok mX6_reading q.1 q.2 = true := by decide +kernel
def tX6_reading : hyT := [tX6_reading_0, tX6_reading_1, tX6_reading_2, tX6_reading_3, tX6_reading_4, tX6_reading_5, tX6_reading_6, tX6_reading_7]
theorem oX6_reading : hy_tok mX6_reading tX6_reading := List.forall_mem_cons.mpr ⟨oX6_reading_0, List.forall_mem_cons.mpr ⟨oX6_reading_1, List.forall_mem_cons.mpr ⟨oX6_reading_2, List.forall_mem_cons.mpr ⟨oX6_reading_3, List.forall_mem_cons.mpr ⟨oX6_reading_4, List.forall_mem_cons.mpr ⟨oX6_reading_5, List.forall_mem_cons.mpr ⟨oX6_reading_6, List.forall_mem_cons.mpr ⟨oX6_reading_7, fun _ h => absurd h List.not_mem_nil⟩⟩⟩⟩⟩⟩⟩⟩
def tX6_errs_0 : List (Nat × hyE) := [(0, .iload_n 1, 1, 1, 0, 0, 0, 0, none, []),
  (1, .ifCond .eq 10, 4, 11, 0, 0, 0, 0, none, []),
  (4, .aload_n 0, 5, 0, 0, 0, 0, 0, none, []),
  (5, .getfield 71, 8, 6, 29, 0, 0, 0, none, []),
  (8, .goto 7, 11, 15, 0, 0, 0, 0, none, []),
  (11, .aload_n 0, 12, 0, 0, 0, 0, 0, none, []),
  (12, .getfield 68, 15, 6, 28, 0, 0, 0, none, []),
  (15, .ireturn, 16, 0, 0, 0, 0, 0, none, [])]
theorem oX6_errs_0 : ∀ q ∈ tX6_errs_0, hy_ok mX6_errs q.1 q.2 = true := by decide +kernel
def tX6_errs : hyT := [tX6_errs_0]
theorem oX6_errs : hy_tok mX6_errs tX6_errs := List.forall_mem_cons.mpr ⟨oX6_errs_0, fun _ h => absurd h List.not_mem_nil⟩
def tX6_back_0 : List (Nat × hyE) := [(0, .iload_n 1, 1, 1, 0, 0, 0, 0, none, []),
  (1, .iconst 0, 2, 0, 0, 0, 0, 0, none, []),
  (2, .sipush 20000, 5, 0, 0, 0, 0, 20000, none, []),
  (5, .invokestatic 93, 8, 2, 3, 0, 0, 0, (some mX6_in), []),
  (8, .ifCond .ne 5, 11, 13, 0, 0, 0, 0, none, []),
  (11, .iconst (-1), 12, 0, 0, 0, 0, (-1), none, []),
  (12, .ireturn, 13, 0, 0, 0, 0, 0, none, []),
  (13, .iconst (-1), 14, 0, 0, 0, 0, (-1), none, []),
  (14, .istore_n 3, 15, 3, 0, 0, 0, 0, none, []),
  (15, .aload_n 0, 16, 0, 0, 0, 0, 0, none, [])]
theorem oX6_back_0 : ∀ q ∈ tX6_back_0, hy_ok mX6_back q.1 q.2 = true := by decide +kernel
def tX6_back_1 : List (Nat × hyE) := [(16, .getfield 68, 19, 6, 28, 0, 0, 0, none, []),
  (19, .istore 4, 21, 4, 0, 0, 0, 0, none, []),
  (21, .iload 4, 23, 4, 0, 0, 0, 0, none, []),
  (23, .aload_n 0, 24, 0, 0, 0, 0, 0, none, []),
  (24, .getfield 71, 27, 6, 29, 0, 0, 0, none, []),
  (27, .if_icmp .gt 122, 30, 149, 0, 0, 0, 0, none, []),
  (30, .sipush 1000, 33, 0, 0, 0, 0, 1000, none, [])]
theorem oX6_back_1 : ∀ q ∈ tX6_back_1, hy_ok mX6_back q.1 q.2 = true := by decide +kernel
def tX6_back_2 : List (Nat × hyE) := [(33, .iload_n 1, 34, 1, 0, 0, 0, 0, none, []),
  (34, .imul, 35, 0, 0, 0, 0, 0, none, []),
  (35, .sipush 999, 38, 0, 0, 0, 0, 999, none, []),
  (38, .iadd, 39, 0, 0, 0, 0, 0, none, []),
  (39, .iload 4, 41, 4, 0, 0, 0, 0, none, []),
  (41, .iadd, 42, 0, 0, 0, 0, 0, none, []),
  (42, .sipush 1000, 45, 0, 0, 0, 0, 1000, none, []),
  (45, .iload 4, 47, 4, 0, 0, 0, 0, none, []),
  (47, .iadd, 48, 0, 0, 0, 0, 0, none, [])]
theorem oX6_back_2 : ∀ q ∈ tX6_back_2, hy_ok mX6_back q.1 q.2 = true := by decide +kernel
def tX6_back_3 : List (Nat × hyE) := [(48, .idiv, 49, 0, 0, 0, 0, 0, none, []),
  (49, .istore 5, 51, 5, 0, 0, 0, 0, none, []),
  (51, .sipush 1000, 54, 0, 0, 0, 0, 1000, none, []),
  (54, .iload_n 1, 55, 1, 0, 0, 0, 0, none, []),
  (55, .imul, 56, 0, 0, 0, 0, 0, none, []),
  (56, .sipush 999, 59, 0, 0, 0, 0, 999, none, []),
  (59, .iadd, 60, 0, 0, 0, 0, 0, none, []),
  (60, .sipush 1000, 63, 0, 0, 0, 0, 1000, none, []),
  (63, .iload 4, 65, 4, 0, 0, 0, 0, none, [])]
theorem oX6_back_3 : ∀ q ∈ tX6_back_3, hy_ok mX6_back q.1 q.2 = true := by decide +kernel
def tX6_back_4 : List (Nat × hyE) := [(65, .iadd, 66, 0, 0, 0, 0, 0, none, []),
  (66, .idiv, 67, 0, 0, 0, 0, 0, none, []),
  (67, .istore 6, 69, 6, 0, 0, 0, 0, none, []),
  (69, .iload 5, 71, 5, 0, 0, 0, 0, none, []),
  (71, .iconst 1, 72, 0, 0, 0, 0, 1, none, []),
  (72, .if_icmp .ge 7, 75, 79, 0, 0, 0, 0, none, []),
  (75, .iconst 1, 76, 0, 0, 0, 0, 1, none, []),
  (76, .goto 5, 79, 81, 0, 0, 0, 0, none, []),
  (79, .iload 5, 81, 5, 0, 0, 0, 0, none, [])]
theorem oX6_back_4 : ∀ q ∈ tX6_back_4, hy_ok mX6_back q.1 q.2 = true := by decide +kernel
def tX6_back_5 : List (Nat × hyE) := [(81, .istore 5, 83, 5, 0, 0, 0, 0, none, []),
  (83, .iload 6, 85, 6, 0, 0, 0, 0, none, []),
  (85, .sipush 10000, 88, 0, 0, 0, 0, 10000, none, []),
  (88, .if_icmp .le 9, 91, 97, 0, 0, 0, 0, none, []),
  (91, .sipush 10000, 94, 0, 0, 0, 0, 10000, none, []),
  (94, .goto 5, 97, 99, 0, 0, 0, 0, none, [])]
theorem oX6_back_5 : ∀ q ∈ tX6_back_5, hy_ok mX6_back q.1 q.2 = true := by decide +kernel
def tX6_back_6 : List (Nat × hyE) := [(97, .iload 6, 99, 6, 0, 0, 0, 0, none, []),
  (99, .istore 6, 101, 6, 0, 0, 0, 0, none, []),
  (101, .iload 5, 103, 5, 0, 0, 0, 0, none, []),
  (103, .iload 6, 105, 6, 0, 0, 0, 0, none, []),
  (105, .if_icmp .gt 38, 108, 143, 0, 0, 0, 0, none, []),
  (108, .iload_n 3, 109, 3, 0, 0, 0, 0, none, []),
  (109, .ifCond .lt 22, 112, 131, 0, 0, 0, 0, none, [])]
theorem oX6_back_6 : ∀ q ∈ tX6_back_6, hy_ok mX6_back q.1 q.2 = true := by decide +kernel
def tX6_back_7 : List (Nat × hyE) := [(112, .iload_n 2, 113, 2, 0, 0, 0, 0, none, []),
  (113, .ifCond .eq 12, 116, 125, 0, 0, 0, 0, none, []),
  (116, .iload 6, 118, 6, 0, 0, 0, 0, none, []),
  (118, .iload_n 3, 119, 3, 0, 0, 0, 0, none, []),
  (119, .if_icmp .le 24, 122, 143, 0, 0, 0, 0, none, []),
  (122, .goto 9, 125, 131, 0, 0, 0, 0, none, []),
  (125, .iload 5, 127, 5, 0, 0, 0, 0, none, []),
  (127, .iload_n 3, 128, 3, 0, 0, 0, 0, none, [])]
theorem oX6_back_7 : ∀ q ∈ tX6_back_7, hy_ok mX6_back q.1 q.2 = true := by decide +kernel
def tX6_back_8 : List (Nat × hyE) := [(128, .if_icmp .ge 15, 131, 143, 0, 0, 0, 0, none, []),
  (131, .iload_n 2, 132, 2, 0, 0, 0, 0, none, []),
  (132, .ifCond .eq 8, 135, 140, 0, 0, 0, 0, none, []),
  (135, .iload 6, 137, 6, 0, 0, 0, 0, none, []),
  (137, .goto 5, 140, 142, 0, 0, 0, 0, none, []),
  (140, .iload 5, 142, 5, 0, 0, 0, 0, none, []),
  (142, .istore_n 3, 143, 3, 0, 0, 0, 0, none, []),
  (143, .iinc 4 1, 146, 4, 0, 0, 0, 1, none, [])]
theorem oX6_back_8 : ∀ q ∈ tX6_back_8, hy_ok mX6_back q.1 q.2 = true := by decide +kernel
def tX6_back_9 : List (Nat × hyE) := [(146, .goto (-125), 149, 21, 0, 0, 0, 0, none, []),
  (149, .iload_n 3, 150, 3, 0, 0, 0, 0, none, []),
  (150, .ireturn, 151, 0, 0, 0, 0, 0, none, [])]
theorem oX6_back_9 : ∀ q ∈ tX6_back_9, hy_ok mX6_back q.1 q.2 = true := by decide +kernel
def tX6_back : hyT := [tX6_back_0, tX6_back_1, tX6_back_2, tX6_back_3, tX6_back_4, tX6_back_5, tX6_back_6, tX6_back_7, tX6_back_8, tX6_back_9]
theorem oX6_back : hy_tok mX6_back tX6_back := List.forall_mem_cons.mpr ⟨oX6_back_0, List.forall_mem_cons.mpr ⟨oX6_back_1, List.forall_mem_cons.mpr ⟨oX6_back_2, List.forall_mem_cons.mpr ⟨oX6_back_3, List.forall_mem_cons.mpr ⟨oX6_back_4, List.forall_mem_cons.mpr ⟨oX6_back_5, List.forall_mem_cons.mpr ⟨oX6_back_6, List.forall_mem_cons.mpr ⟨oX6_back_7, List.forall_mem_cons.mpr ⟨oX6_back_8, List.forall_mem_cons.mpr ⟨oX6_back_9, fun _ h => absurd h List.not_mem_nil⟩⟩⟩⟩⟩⟩⟩⟩⟩⟩
def tX6_about_0 : List (Nat × hyE) := [(0, .iconst 0, 1, 0, 0, 0, 0, 0, none, []),
  (1, .istore_n 2, 2, 2, 0, 0, 0, 0, none, []),
  (2, .iconst 0, 3, 0, 0, 0, 0, 0, none, []),
  (3, .istore_n 3, 4, 3, 0, 0, 0, 0, none, []),
  (4, .iconst 0, 5, 0, 0, 0, 0, 0, none, []),
  (5, .istore 4, 7, 4, 0, 0, 0, 0, none, []),
  (7, .iload 4, 9, 4, 0, 0, 0, 0, none, []),
  (9, .aload_n 0, 10, 0, 0, 0, 0, 0, none, []),
  (10, .getfield 90, 13, 6, 3, 0, 0, 0, none, []),
  (13, .if_icmp .ge 45, 16, 58, 0, 0, 0, 0, none, [])]
theorem oX6_about_0 : ∀ q ∈ tX6_about_0, hy_ok mX6_about q.1 q.2 = true := by decide +kernel
def tX6_about_1 : List (Nat × hyE) := [(16, .iload_n 2, 17, 2, 0, 0, 0, 0, none, []),
  (17, .aload_n 0, 18, 0, 0, 0, 0, 0, none, []),
  (18, .iload 4, 20, 4, 0, 0, 0, 0, none, []),
  (20, .invokevirtual 125, 23, 0, 1, 0, 6, 0, (some mX6_stateOf), []),
  (23, .iconst 2, 24, 0, 0, 0, 0, 2, none, []),
  (24, .if_icmp .ne 7, 27, 31, 0, 0, 0, 0, none, []),
  (27, .iconst 1, 28, 0, 0, 0, 0, 1, none, []),
  (28, .goto 4, 31, 32, 0, 0, 0, 0, none, []),
  (31, .iconst 0, 32, 0, 0, 0, 0, 0, none, [])]
theorem oX6_about_1 : ∀ q ∈ tX6_about_1, hy_ok mX6_about q.1 q.2 = true := by decide +kernel
def tX6_about_2 : List (Nat × hyE) := [(32, .iadd, 33, 0, 0, 0, 0, 0, none, []),
  (33, .istore_n 2, 34, 2, 0, 0, 0, 0, none, []),
  (34, .iload_n 3, 35, 3, 0, 0, 0, 0, none, []),
  (35, .aload_n 0, 36, 0, 0, 0, 0, 0, none, []),
  (36, .iload 4, 38, 4, 0, 0, 0, 0, none, []),
  (38, .invokevirtual 125, 41, 0, 1, 0, 6, 0, (some mX6_stateOf), []),
  (41, .iconst 3, 42, 0, 0, 0, 0, 3, none, []),
  (42, .if_icmp .ne 7, 45, 49, 0, 0, 0, 0, none, []),
  (45, .iconst 1, 46, 0, 0, 0, 0, 1, none, []),
  (46, .goto 4, 49, 50, 0, 0, 0, 0, none, [])]
theorem oX6_about_2 : ∀ q ∈ tX6_about_2, hy_ok mX6_about q.1 q.2 = true := by decide +kernel
def tX6_about_3 : List (Nat × hyE) := [(49, .iconst 0, 50, 0, 0, 0, 0, 0, none, []),
  (50, .iadd, 51, 0, 0, 0, 0, 0, none, []),
  (51, .istore_n 3, 52, 3, 0, 0, 0, 0, none, []),
  (52, .iinc 4 1, 55, 4, 0, 0, 0, 1, none, []),
  (55, .goto (-48), 58, 7, 0, 0, 0, 0, none, []),
  (58, .iload_n 1, 59, 1, 0, 0, 0, 0, none, []),
  (59, .tableswitch 97 0 9 #[53, 58, 63, 68, 73, 78, 83, 88, 93, 95], 112, 156, 0, 53, 0, 0, none, [(0, 112), (1, 117), (2, 122), (3, 127), (4, 132), (5, 137), (6, 142), (7, 147), (8, 152), (9, 154)])]
theorem oX6_about_3 : ∀ q ∈ tX6_about_3, hy_ok mX6_about q.1 q.2 = true := by decide +kernel
def tX6_about_4 : List (Nat × hyE) := []
theorem oX6_about_4 : ∀ q ∈ tX6_about_4, hy_ok mX6_about q.1 q.2 = true := by decide +kernel
def tX6_about_5 : List (Nat × hyE) := []
theorem oX6_about_5 : ∀ q ∈ tX6_about_5, hy_ok mX6_about q.1 q.2 = true := by decide +kernel
def tX6_about_6 : List (Nat × hyE) := []
theorem oX6_about_6 : ∀ q ∈ tX6_about_6, hy_ok mX6_about q.1 q.2 = true := by decide +kernel
def tX6_about_7 : List (Nat × hyE) := [(112, .aload_n 0, 113, 0, 0, 0, 0, 0, none, []),
  (113, .getfield 97, 116, 6, 0, 0, 0, 0, none, []),
  (116, .ireturn, 117, 0, 0, 0, 0, 0, none, []),
  (117, .aload_n 0, 118, 0, 0, 0, 0, 0, none, []),
  (118, .getfield 90, 121, 6, 3, 0, 0, 0, none, []),
  (121, .ireturn, 122, 0, 0, 0, 0, 0, none, []),
  (122, .aload_n 0, 123, 0, 0, 0, 0, 0, none, []),
  (123, .getfield 100, 126, 6, 10, 0, 0, 0, none, []),
  (126, .ireturn, 127, 0, 0, 0, 0, 0, none, []),
  (127, .aload_n 0, 128, 0, 0, 0, 0, 0, none, [])]
theorem oX6_about_7 : ∀ q ∈ tX6_about_7, hy_ok mX6_about q.1 q.2 = true := by decide +kernel
def tX6_about_8 : List (Nat × hyE) := [(128, .getfield 137, 131, 6, 15, 0, 0, 0, none, []),
  (131, .ireturn, 132, 0, 0, 0, 0, 0, none, []),
  (132, .aload_n 0, 133, 0, 0, 0, 0, 0, none, []),
  (133, .getfield 160, 136, 6, 21, 0, 0, 0, none, []),
  (136, .ireturn, 137, 0, 0, 0, 0, 0, none, []),
  (137, .aload_n 0, 138, 0, 0, 0, 0, 0, none, []),
  (138, .getfield 163, 141, 6, 24, 0, 0, 0, none, []),
  (141, .ireturn, 142, 0, 0, 0, 0, 0, none, []),
  (142, .aload_n 0, 143, 0, 0, 0, 0, 0, none, []),
  (143, .getfield 179, 146, 6, 27, 0, 0, 0, none, [])]
theorem oX6_about_8 : ∀ q ∈ tX6_about_8, hy_ok mX6_about q.1 q.2 = true := by decide +kernel
def tX6_about_9 : List (Nat × hyE) := [(146, .ireturn, 147, 0, 0, 0, 0, 0, none, []),
  (147, .aload_n 0, 148, 0, 0, 0, 0, 0, none, []),
  (148, .getfield 131, 151, 6, 14, 0, 0, 0, none, []),
  (151, .ireturn, 152, 0, 0, 0, 0, 0, none, []),
  (152, .iload_n 2, 153, 2, 0, 0, 0, 0, none, []),
  (153, .ireturn, 154, 0, 0, 0, 0, 0, none, []),
  (154, .iload_n 3, 155, 3, 0, 0, 0, 0, none, []),
  (155, .ireturn, 156, 0, 0, 0, 0, 0, none, []),
  (156, .iconst (-1), 157, 0, 0, 0, 0, (-1), none, []),
  (157, .ireturn, 158, 0, 0, 0, 0, 0, none, [])]
theorem oX6_about_9 : ∀ q ∈ tX6_about_9, hy_ok mX6_about q.1 q.2 = true := by decide +kernel
def tX6_about : hyT := [tX6_about_0, tX6_about_1, tX6_about_2, tX6_about_3, tX6_about_4, tX6_about_5, tX6_about_6, tX6_about_7, tX6_about_8, tX6_about_9]
theorem oX6_about : hy_tok mX6_about tX6_about := List.forall_mem_cons.mpr ⟨oX6_about_0, List.forall_mem_cons.mpr ⟨oX6_about_1, List.forall_mem_cons.mpr ⟨oX6_about_2, List.forall_mem_cons.mpr ⟨oX6_about_3, List.forall_mem_cons.mpr ⟨oX6_about_4, List.forall_mem_cons.mpr ⟨oX6_about_5, List.forall_mem_cons.mpr ⟨oX6_about_6, List.forall_mem_cons.mpr ⟨oX6_about_7, List.forall_mem_cons.mpr ⟨oX6_about_8, List.forall_mem_cons.mpr ⟨oX6_about_9, fun _ h => absurd h List.not_mem_nil⟩⟩⟩⟩⟩⟩⟩⟩⟩⟩
