/-! the methods' heads; what a row must fulfil -/
abbrev xHead : Type := MethodName × ByteArray × Nat × Option FieldType
def xHd0 : List xHead := [(yX0_init, prog_2_method_1_code, 5, none),
  (yX0_kindNumber, prog_2_method_2_code, 1, (some .int)),
  (yX0_telling, prog_2_method_3_code, 2, (some .int)),
  (yX0_plainTelling, prog_2_method_4_code, 2, (some .int)),
  (yX0_signing, prog_2_method_5_code, 2, (some .int)),
  (yX1_init, prog_3_method_1_code, 5, none),
  (yX1_kindNumber, prog_3_method_2_code, 1, (some .int)),
  (yX1_telling, prog_3_method_3_code, 3, (some .int)),
  (yX1_signing, prog_3_method_4_code, 2, (some .int)),
  (yX2_init, prog_4_method_1_code, 1, none),
  (yX2_howMany, prog_4_method_2_code, 1, (some .int)),
  (yX2_isPanel, prog_4_method_3_code, 2, (some .boolean)),
  (yX2_takeCode, prog_4_method_4_code, 3, none),
  (yX2_becomeText, prog_4_method_5_code, 4, (some .int)),
  (yX2_readItems, prog_4_method_6_code, 3, (some .int)),
  (yX2_readItem, prog_4_method_7_code, 2, none),
  (yX2_wrongAt, prog_4_method_8_code, 2, none),
  (yX2_stepOver, prog_4_method_9_code, 2, (some .boolean)),
  (yX2_need, prog_4_method_10_code, 2, none),
  (yX2_readNumber, prog_4_method_11_code, 5, (some .int)),
  (yX2_aboutPanel, prog_4_method_12_code, 3, (some .int)),
  (yX2_weightDownTo, prog_4_method_13_code, 4, (some .int)),
  (yX2_squareOf, prog_4_method_14_code, 2, (some .long)),
  (yX2_pushAlong, prog_4_method_15_code, 6, (some .int)),
  (yX2_lengthOf, prog_4_method_16_code, 2, (some .int)),
  (yX2_thrustOf, prog_4_method_17_code, 3, (some .long)),
  (yX2_pullOf, prog_4_method_18_code, 5, (some .long)),
  (yX2_thickness, prog_4_method_19_code, 5, (some .int)),
  (yX2_sumFrom, prog_4_method_20_code, 8, none),
  (yX2_bestThickness, prog_4_method_21_code, 7, (some .int))]
def xHd1 : List xHead := [(yX3_init, prog_5_method_1_code, 5, none),
  (yX3_kindNumber, prog_5_method_2_code, 1, (some .int)),
  (yX3_telling, prog_5_method_3_code, 2, (some .int)),
  (yX4_init, prog_6_method_1_code, 1, none),
  (yX4_isPlace, prog_6_method_2_code, 1, (some .boolean)),
  (yX4_isKind, prog_6_method_3_code, 1, (some .boolean)),
  (yX4_isCase, prog_6_method_4_code, 1, (some .boolean)),
  (yX4_isLoad, prog_6_method_5_code, 1, (some .boolean)),
  (yX4_isJoint, prog_6_method_6_code, 2, (some .boolean)),
  (yX4_isFree, prog_6_method_7_code, 2, (some .boolean)),
  (yX4_isTaken, prog_6_method_8_code, 4, (some .boolean)),
  (yX4_hasRoomForJoint, prog_6_method_9_code, 2, (some .boolean)),
  (yX4_addJoint, prog_6_method_10_code, 4, (some .int)),
  (yX4_barOf, prog_6_method_11_code, 2, (some (.object "SkinLoads$Bar"))),
  (yX4_isJoined, prog_6_method_12_code, 5, (some .boolean)),
  (yX4_hasRoomForBar, prog_6_method_13_code, 1, (some .boolean)),
  (yX4_addBar, prog_6_method_14_code, 5, (some .int)),
  (yX4_changeCut, prog_6_method_15_code, 3, none),
  (yX4_changeLoad, prog_6_method_16_code, 5, none),
  (yX4_howManyJoints, prog_6_method_17_code, 1, (some .int)),
  (yX4_howManyFree, prog_6_method_18_code, 1, (some .int)),
  (yX4_howManyBars, prog_6_method_19_code, 1, (some .int)),
  (yX4_howManyCut, prog_6_method_20_code, 3, (some .int)),
  (yX4_giveColumns, prog_6_method_21_code, 3, (some .int)),
  (yX4_reckon, prog_6_method_22_code, 3, none),
  (yX4_addForces, prog_6_method_23_code, 4, none),
  (yX4_differenceOf, prog_6_method_24_code, 3, (some .int)),
  (yX4_rowOf, prog_6_method_25_code, 3, (some .int)),
  (yX4_rank, prog_6_method_26_code, 1, (some .int)),
  (yX4_moves, prog_6_method_27_code, 1, (some .int))]
def xHd2 : List xHead := [(yX4_loose, prog_6_method_28_code, 1, (some .int)),
  (yX4_carries, prog_6_method_29_code, 3, (some .boolean)),
  (yX4_isTold, prog_6_method_30_code, 2, (some .boolean)),
  (yX4_areTold, prog_6_method_31_code, 3, (some .boolean)),
  (yX4_upperPush, prog_6_method_32_code, 3, (some .long)),
  (yX4_lowerPush, prog_6_method_33_code, 1, (some .long)),
  (yX4_limitOf, prog_6_method_34_code, 9, (some .long)),
  (yX4_neededBars, prog_6_method_35_code, 4, (some .int)),
  (yX4_canChange, prog_6_method_36_code, 3, (some .boolean)),
  (yX4_moveOf, prog_6_method_37_code, 4, (some .long)),
  (yX4_findMove, prog_6_method_38_code, 5, none),
  (yX4_shortenMove, prog_6_method_39_code, 7, none),
  (yX4_orderedCase, prog_6_method_40_code, 6, (some .int)),
  (yX4_firstToPutOn, prog_6_method_41_code, 5, (some .int)),
  (yX4_noneGives, prog_6_method_42_code, 6, (some .boolean)),
  (yX5_init, prog_7_method_1_code, 1, none),
  (yX5_begin, prog_7_method_2_code, 2, (some .int)),
  (yX5_howManyLinks, prog_7_method_3_code, 1, (some .int)),
  (yX5_isJoint, prog_7_method_4_code, 2, (some .boolean)),
  (yX5_isPower, prog_7_method_5_code, 2, (some .boolean)),
  (yX5_isShare, prog_7_method_6_code, 2, (some .boolean)),
  (yX5_changeSpring, prog_7_method_7_code, 4, (some .int)),
  (yX5_numberByPower, prog_7_method_8_code, 2, (some .long)),
  (yX5_makePolynomial, prog_7_method_9_code, 4, none),
  (yX5_fillTables, prog_7_method_10_code, 2, none),
  (yX5_addSquare, prog_7_method_11_code, 5, none),
  (yX5_makeMinor, prog_7_method_12_code, 9, none),
  (yX5_shiftTo, prog_7_method_13_code, 8, none),
  (yX5_foldsBelow, prog_7_method_14_code, 7, (some .int)),
  (yX5_foldsAt, prog_7_method_15_code, 4, (some .int))]
def xHd3 : List xHead := [(yX5_greatestWithoutFold, prog_7_method_16_code, 6, (some .int)),
  (yX6_init, prog_8_method_1_code, 1, none),
  (yX6_isSheet, prog_8_method_2_code, 1, (some .boolean)),
  (yX6_isLane, prog_8_method_3_code, 1, (some .boolean)),
  (yX6_begin, prog_8_method_4_code, 4, none),
  (yX6_drop, prog_8_method_5_code, 2, (some .int)),
  (yX6_isOtherLane, prog_8_method_6_code, 3, (some .boolean)),
  (yX6_faultOfCell, prog_8_method_7_code, 3, (some .int)),
  (yX6_faultOfCells, prog_8_method_8_code, 5, (some .int)),
  (yX6_write, prog_8_method_9_code, 4, none),
  (yX6_cutToLane, prog_8_method_10_code, 2, (some .int)),
  (yX6_number, prog_8_method_11_code, 3, (some .int)),
  (yX7_init, prog_9_method_1_code, 1, none),
  (yX7_howMany, prog_9_method_2_code, 1, (some .int)),
  (yX7_isFull, prog_9_method_3_code, 1, (some .boolean)),
  (yX7_isSight, prog_9_method_4_code, 2, (some .boolean)),
  (yX7_isSet, prog_9_method_5_code, 2, (some .boolean)),
  (yX7_addSight, prog_9_method_6_code, 4, (some .int)),
  (yX7_greatestLow, prog_9_method_7_code, 4, (some .int)),
  (yX7_leastHigh, prog_9_method_8_code, 4, (some .int)),
  (yX7_agree, prog_9_method_9_code, 4, (some .boolean)),
  (yX7_greatestAgreeing, prog_9_method_10_code, 5, (some .int)),
  (yX7_holdLowOf, prog_9_method_11_code, 5, (some .int)),
  (yX7_endOf, prog_9_method_12_code, 5, (some .long)),
  (yX8_init, prog_10_method_1_code, 1, none),
  (yX8_isPiece, prog_10_method_2_code, 2, (some .boolean)),
  (yX8_change, prog_10_method_3_code, 5, (some .int)),
  (yX8_piecesThere, prog_10_method_4_code, 3, (some .int)),
  (yX8_tornLots, prog_10_method_5_code, 1, (some .int)),
  (yX8_lakes, prog_10_method_6_code, 1, (some .int))]
def xHd4 : List xHead := [(yX8_lotsApart, prog_10_method_7_code, 5, (some .int)),
  (yX8_reachesHold, prog_10_method_8_code, 8, (some .boolean)),
  (yX8_isAtRim, prog_10_method_9_code, 1, (some .boolean)),
  (yX8_isHold, prog_10_method_10_code, 2, (some .boolean)),
  (yX8_neighbour, prog_10_method_11_code, 4, (some .int)),
  (yX8_lineUp, prog_10_method_12_code, 2, none),
  (yX8_lineUpForLater, prog_10_method_13_code, 2, none),
  (yX8_comeTo, prog_10_method_14_code, 2, none),
  (yX8_shortestCut, prog_10_method_15_code, 2, (some .int)),
  (yX8_comesAcross, prog_10_method_16_code, 5, (some .boolean)),
  (yX8_takeLater, prog_10_method_17_code, 2, none),
  (yX9_init, prog_11_method_1_code, 3, none),
  (yX9_begin, prog_11_method_2_code, 4, none),
  (yX9_isThere, prog_11_method_3_code, 3, (some .boolean)),
  (yX9_add, prog_11_method_4_code, 5, none),
  (yX9_number, prog_11_method_5_code, 3, (some .long)),
  (yX9_leads, prog_11_method_6_code, 2, (some .int)),
  (yX9_clearColumns, prog_11_method_7_code, 5, none),
  (yX9_rowToLead, prog_11_method_8_code, 3, (some .int)),
  (yX9_clearOthers, prog_11_method_9_code, 10, none),
  (yX10_init, prog_12_method_1_code, 1, none),
  (yX10_leave, prog_12_method_2_code, 2, none),
  (yX11_init, prog_1_method_1_code, 1, none),
  (yX11_text, prog_1_method_2_code, 7, (some .int)),
  (yX11_panel, prog_1_method_3_code, 3, (some .int)),
  (yX11_thrust, prog_1_method_4_code, 3, (some .long)),
  (yX11_pull, prog_1_method_5_code, 3, (some .long)),
  (yX11_thick, prog_1_method_6_code, 3, (some .int)),
  (yX11_rib, prog_1_method_7_code, 2, (some .int)),
  (yX11_spring, prog_1_method_8_code, 3, (some .int))]
def xHd5 : List xHead := [(yX11_poly, prog_1_method_9_code, 2, (some .long)),
  (yX11_folds, prog_1_method_10_code, 3, (some .int)),
  (yX11_fold, prog_1_method_11_code, 3, (some .int)),
  (yX11_bound, prog_1_method_12_code, 2, (some .int)),
  (yX11_joint, prog_1_method_13_code, 4, (some .int)),
  (yX11_bar, prog_1_method_14_code, 5, (some .int)),
  (yX11_cut, prog_1_method_15_code, 4, (some .int)),
  (yX11_about, prog_1_method_16_code, 4, (some .int)),
  (yX11_load, prog_1_method_17_code, 5, (some .int)),
  (yX11_net, prog_1_method_18_code, 2, (some .int)),
  (yX11_move, prog_1_method_19_code, 3, (some .long)),
  (yX11_stands, prog_1_method_20_code, 2, (some .int)),
  (yX11_push, prog_1_method_21_code, 5, (some .long)),
  (yX11_limit, prog_1_method_22_code, 3, (some .long)),
  (yX11_needs, prog_1_method_23_code, 2, (some .int)),
  (yX11_order, prog_1_method_24_code, 3, (some .int)),
  (yX11_hole, prog_1_method_25_code, 4, (some .int)),
  (yX11_skin, prog_1_method_26_code, 2, (some .int)),
  (yX11_sight, prog_1_method_27_code, 4, (some .int)),
  (yX11_quarrel, prog_1_method_28_code, 3, (some .int)),
  (yX11_most, prog_1_method_29_code, 1, (some .int)),
  (yX11_span, prog_1_method_30_code, 4, (some .long)),
  (yX11_sheet, prog_1_method_31_code, 4, (some .int)),
  (yX11_lose, prog_1_method_32_code, 2, (some .int)),
  (yX11_put, prog_1_method_33_code, 5, (some .int)),
  (yX11_cell, prog_1_method_34_code, 5, (some .long)),
  (yX11_tell, prog_1_method_35_code, 3, (some .int)),
  (yX11_sign, prog_1_method_36_code, 3, (some .int)),
  (yX11_as, prog_1_method_37_code, 4, (some .int)),
  (yX11_trace, prog_1_method_38_code, 1, (some .int))]
def xHd6 : List xHead := [(yX11_fault, prog_1_method_39_code, 1, (some .int)),
  (yX11_many, prog_1_method_40_code, 2, (some .int)),
  (yX11_faultAnswer, prog_1_method_41_code, 2, (some .int)),
  (yX11_isHalf, prog_1_method_42_code, 1, (some .boolean)),
  (yX11_commonDivisor, prog_1_method_43_code, 11, (some .long)),
  (yX11_inLeastTerms, prog_1_method_44_code, 7, (some .long)),
  (yX11_wholeRoot, prog_1_method_45_code, 7, (some .long)),
  (yX12_init, prog_14_method_1_code, 1, none),
  (yX12_fails, prog_14_method_3_code, 2, (some .int)),
  (yX12_lost, prog_14_method_4_code, 2, (some .long)),
  (yX12_within, prog_14_method_5_code, 6, (some .boolean)),
  (yX12_size, prog_14_method_6_code, 2, (some .long)),
  (yX12_common, prog_14_method_7_code, 10, (some .long)),
  (yX12_part, prog_14_method_8_code, 7, (some .long)),
  (yX12_isSheet, prog_14_method_9_code, 1, (some .boolean)),
  (yX12_isLane, prog_14_method_10_code, 1, (some .boolean)),
  (yX12_codeAt, prog_14_method_11_code, 1, (some .int)),
  (yX12_isCode, prog_14_method_12_code, 2, (some .boolean)),
  (yX12_number, prog_14_method_13_code, 5, (some .int)),
  (yX12_isItem, prog_14_method_14_code, 2, (some .boolean)),
  (yX12_items, prog_14_method_15_code, 2, (some .int)),
  (yX12_text, prog_14_method_16_code, 8, (some .int)),
  (yX12_isPanel, prog_14_method_17_code, 2, (some .boolean)),
  (yX12_above, prog_14_method_18_code, 4, (some .int)),
  (yX12_root, prog_14_method_19_code, 8, (some .int)),
  (yX12_square, prog_14_method_20_code, 2, (some .int)),
  (yX12_pushOf, prog_14_method_21_code, 4, (some .int)),
  (yX12_lengthOf, prog_14_method_22_code, 2, (some .int)),
  (yX12_panel, prog_14_method_23_code, 3, (some .int)),
  (yX12_thrust, prog_14_method_24_code, 3, (some .long))]
def xHd7 : List xHead := [(yX12_pull, prog_14_method_25_code, 5, (some .long)),
  (yX12_findThick, prog_14_method_26_code, 7, (some .int)),
  (yX12_thick, prog_14_method_27_code, 4, (some .int)),
  (yX12_rib, prog_14_method_28_code, 3, (some .int)),
  (yX12_spring, prog_14_method_29_code, 4, (some .int)),
  (yX12_bend, prog_14_method_30_code, 2, (some .long)),
  (yX12_layTables, prog_14_method_31_code, 7, none),
  (yX12_bitsOf, prog_14_method_32_code, 3, (some .int)),
  (yX12_findPoly, prog_14_method_33_code, 11, none),
  (yX12_coefficient, prog_14_method_34_code, 2, (some .long)),
  (yX12_poly, prog_14_method_35_code, 2, (some .long)),
  (yX12_shift, prog_14_method_36_code, 8, none),
  (yX12_isShare, prog_14_method_37_code, 2, (some .boolean)),
  (yX12_foldsOf, prog_14_method_38_code, 7, (some .int)),
  (yX12_folds, prog_14_method_39_code, 3, (some .int)),
  (yX12_fold, prog_14_method_40_code, 4, (some .int)),
  (yX12_bound, prog_14_method_41_code, 3, (some .int)),
  (yX12_isJoint, prog_14_method_42_code, 2, (some .boolean)),
  (yX12_isBar, prog_14_method_43_code, 2, (some .boolean)),
  (yX12_joint, prog_14_method_44_code, 5, (some .int)),
  (yX12_bar, prog_14_method_45_code, 6, (some .int)),
  (yX12_cut, prog_14_method_46_code, 4, (some .int)),
  (yX12_about, prog_14_method_47_code, 3, (some .int)),
  (yX12_isCase, prog_14_method_48_code, 1, (some .boolean)),
  (yX12_load, prog_14_method_49_code, 5, (some .int)),
  (yX12_divideRow, prog_14_method_50_code, 6, none),
  (yX12_swapRows, prog_14_method_51_code, 6, none),
  (yX12_reduce, prog_14_method_52_code, 12, none),
  (yX12_stretch, prog_14_method_53_code, 7, (some .int)),
  (yX12_layNet, prog_14_method_54_code, 6, none)]
def xHd8 : List xHead := [(yX12_manyBars, prog_14_method_55_code, 3, (some .int)),
  (yX12_carry, prog_14_method_56_code, 4, none),
  (yX12_doesStand, prog_14_method_57_code, 2, (some .boolean)),
  (yX12_net, prog_14_method_58_code, 2, (some .int)),
  (yX12_findMove, prog_14_method_59_code, 9, none),
  (yX12_move, prog_14_method_60_code, 3, (some .long)),
  (yX12_stands, prog_14_method_61_code, 2, (some .int)),
  (yX12_isTold, prog_14_method_62_code, 2, (some .boolean)),
  (yX12_upOf, prog_14_method_63_code, 2, (some .long)),
  (yX12_downOf, prog_14_method_64_code, 2, (some .long)),
  (yX12_push, prog_14_method_65_code, 4, (some .long)),
  (yX12_limit, prog_14_method_66_code, 13, (some .long)),
  (yX12_needs, prog_14_method_67_code, 4, (some .int)),
  (yX12_doesNoneGive, prog_14_method_68_code, 4, (some .boolean)),
  (yX12_findOrder, prog_14_method_69_code, 5, none),
  (yX12_order, prog_14_method_70_code, 7, (some .int)),
  (yX12_hole, prog_14_method_71_code, 5, (some .int)),
  (yX12_areNear, prog_14_method_72_code, 7, (some .boolean)),
  (yX12_spread, prog_14_method_73_code, 10, none),
  (yX12_layLots, prog_14_method_74_code, 3, (some .int)),
  (yX12_isRim, prog_14_method_75_code, 1, (some .boolean)),
  (yX12_apart, prog_14_method_76_code, 7, (some .int)),
  (yX12_shortest, prog_14_method_77_code, 7, (some .int)),
  (yX12_pieces, prog_14_method_78_code, 3, (some .int)),
  (yX12_skin, prog_14_method_79_code, 2, (some .int)),
  (yX12_sight, prog_14_method_80_code, 4, (some .int)),
  (yX12_isSight, prog_14_method_81_code, 2, (some .boolean)),
  (yX12_isAbove, prog_14_method_82_code, 3, (some .boolean)),
  (yX12_doAgree, prog_14_method_83_code, 4, (some .boolean)),
  (yX12_quarrel, prog_14_method_84_code, 3, (some .int))]
def xHd9 : List xHead := [(yX12_most, prog_14_method_85_code, 3, (some .int)),
  (yX12_span, prog_14_method_86_code, 12, (some .long)),
  (yX12_sheet, prog_14_method_87_code, 5, (some .int)),
  (yX12_lose, prog_14_method_88_code, 3, (some .int)),
  (yX12_put, prog_14_method_89_code, 4, (some .int)),
  (yX12_cell, prog_14_method_90_code, 4, (some .long)),
  (yX12_begins, prog_14_method_91_code, 2, none),
  (yX12_tell, prog_14_method_92_code, 3, (some .int)),
  (yX12_sign, prog_14_method_93_code, 2, (some .int)),
  (yX12_as, prog_14_method_94_code, 3, (some .int)),
  (yX12_trace, prog_14_method_95_code, 1, (some .int)),
  (yX12_fault, prog_14_method_96_code, 1, (some .int)),
  (yX12_many, prog_14_method_97_code, 2, (some .int)),
  (yJ6_bitCount_0f7a4, prog_15_method_49_code, 1, (some .int)),
  (yJ13_compare_74951, prog_16_method_42_code, 4, (some .int)),
  (yJ9_abs_067f4, prog_17_method_61_code, 2, (some .long)),
  (yJ9_max_7cf53, prog_17_method_65_code, 2, (some .int)),
  (yJ9_min_7cf53, prog_17_method_69_code, 2, (some .int)),
  (yJ7_fill_d0a16, prog_18_method_101_code, 5, none),
  (yJ7_fill_53178, prog_18_method_103_code, 4, none)]
def xHd : List xHead := xHd0 ++ (xHd1 ++ (xHd2 ++ (xHd3 ++ (xHd4 ++ (xHd5 ++ (xHd6 ++ (xHd7 ++ (xHd8 ++ (xHd9)))))))))
def xw (ws : List Nat) (j : Nat) (w : Cond) : Bool := match ws[j]? with
  | some i => decide (lw_tbl[i]? = some w) && goodWord w
  | none => false
def xwb (ws : List Nat) (j : Nat) (w : Cond) : Bool := match ws[j]? with
  | some i => decide (lw_tbl[i]? = some w)
  | none => false
theorem xw_mem {ws : List Nat} {j : Nat} {w : Cond} (h : xw ws j w = true) : w ∈ xgw := by
  unfold xw at h
  split at h
  · rw [Bool.and_eq_true, decide_eq_true_eq] at h
    exact xgw_of (List.mem_of_getElem? h.1) h.2
  · cases h
theorem xwb_mem {ws : List Nat} {j : Nat} {w : Cond} (h : xwb ws j w = true) : w ∈ lw_tbl := by
  unfold xwb at h
  split at h
  · rw [decide_eq_true_eq] at h
    exact List.mem_of_getElem? h
  · cases h
def xhok (q : xHead) : Bool := decide (q.2.2.1 ≤ 21 ∧ q.1.cls ≠ "java/lang/invoke/MethodHandle" ∧ q.1.cls ≠ "java/lang/invoke/VarHandle" ∧ plainFor q.1 = true)
def xcw (q : xHead) : Cond := .code q.1 q.2.1 q.2.2.1 q.2.2.2
set_option maxRecDepth 100000 in
theorem xhok0 : xHd0.all xhok = true := by decide +kernel
set_option maxRecDepth 100000 in
theorem xhcw0 : xHd0.map xcw = ([692, 772, 1151, 1145, 1165, 728, 768, 1130, 1163, 115, 560, 497, 459, 463, 469, 473, 485, 481, 477, 489, 501, 506, 514, 510, 521, 533, 551, 564, 568, 572] : List Nat).filterMap (fun i => lw_tbl[i]?) := rfl
set_option maxRecDepth 100000 in
theorem xhok1 : xHd1.all xhok = true := by decide +kernel
set_option maxRecDepth 100000 in
theorem xhcw1 : xHd1.map xcw = ([689, 771, 1137, 234, 647, 671, 779, 782, 668, 786, 651, 655, 659, 753, 675, 679, 683, 757, 791, 1191, 1195, 1199, 1203, 805, 801, 810, 814, 818, 842, 846] : List Nat).filterMap (fun i => lw_tbl[i]?) := rfl
set_option maxRecDepth 100000 in
theorem xhok2 : xHd2.all xhok = true := by decide +kernel
set_option maxRecDepth 100000 in
theorem xhcw2 : xHd2.map xcw = ([850, 884, 892, 937, 898, 902, 911, 924, 928, 858, 862, 874, 942, 946, 950, 161, 168, 1187, 586, 599, 612, 590, 603, 181, 185, 192, 196, 620, 616, 631] : List Nat).filterMap (fun i => lw_tbl[i]?) := rfl
set_option maxRecDepth 100000 in
theorem xhok3 : xHd3.all xhok = true := by decide +kernel
set_option maxRecDepth 100000 in
theorem xhcw3 : xHd3.map xcw = ([639, 389, 431, 434, 1094, 1102, 442, 455, 438, 1111, 1114, 451, 370, 1207, 1034, 1047, 1080, 1038, 1055, 1059, 1051, 1067, 1071, 1084, 345, 957, 961, 970, 974, 1005] : List Nat).filterMap (fun i => lw_tbl[i]?) := rfl
set_option maxRecDepth 100000 in
theorem xhok4 : xHd4.all xhok = true := by decide +kernel
set_option maxRecDepth 100000 in
theorem xhcw4 : xHd4.map xcw = ([978, 983, 994, 991, 997, 987, 1017, 1013, 1009, 1021, 1025, 254, 262, 826, 822, 870, 866, 830, 834, 838, 240, 1134, 107, 428, 493, 525, 547, 556, 577, 582] : List Nat).filterMap (fun i => lw_tbl[i]?) := rfl
set_option maxRecDepth 100000 in
theorem xhok5 : xHd5.all xhok = true := by decide +kernel
set_option maxRecDepth 100000 in
theorem xhcw5 : xHd5.map xcw = ([595, 609, 627, 635, 644, 664, 749, 761, 776, 797, 854, 880, 888, 907, 920, 932, 954, 966, 1029, 1043, 1063, 1076, 1090, 1098, 1106, 1118, 1123, 1156, 1169, 1175] : List Nat).filterMap (fun i => lw_tbl[i]?) := rfl
set_option maxRecDepth 100000 in
theorem xhok6 : xHd6.all xhok = true := by decide +kernel
set_option maxRecDepth 100000 in
theorem xhcw6 : xHd6.map xcw = ([1179, 1183, 447, 528, 539, 536, 517, 1212, 1362, 1704, 1354, 1426, 1423, 1420, 1350, 1357, 1378, 1374, 1382, 1370, 1366, 1347, 1392, 1396, 1407, 1404, 1400, 1412, 1388, 1416] : List Nat).filterMap (fun i => lw_tbl[i]?) := rfl
set_option maxRecDepth 100000 in
theorem xhok7 : xHd7.all xhok = true := by decide +kernel
set_option maxRecDepth 100000 in
theorem xhcw7 : xHd7.map xcw = ([1430, 1441, 1435, 1447, 1451, 1467, 1464, 1471, 1460, 1475, 1456, 1492, 1482, 1488, 1479, 1496, 1500, 1512, 1520, 1504, 1508, 1516, 1524, 1531, 1528, 1561, 1557, 1553, 1549, 1545] : List Nat).filterMap (fun i => lw_tbl[i]?) := rfl
set_option maxRecDepth 100000 in
theorem xhok8 : xHd8.all xhok = true := by decide +kernel
set_option maxRecDepth 100000 in
theorem xhcw8 : xHd8.map xcw = ([1565, 1541, 1582, 1537, 1574, 1569, 1578, 1590, 1594, 1598, 1586, 1602, 1606, 1619, 1615, 1610, 1623, 1648, 1644, 1640, 1651, 1636, 1655, 1632, 1628, 1659, 1668, 1672, 1680, 1664] : List Nat).filterMap (fun i => lw_tbl[i]?) := rfl
set_option maxRecDepth 100000 in
theorem xhok9 : xHd9.all xhok = true := by decide +kernel
set_option maxRecDepth 100000 in
theorem xhcw9 : xHd9.map xcw = ([1676, 1684, 1688, 1692, 1696, 1700, 1712, 1708, 1716, 1720, 1724, 1728, 1732, 199, 623, 542, 174, 171, 188, 177] : List Nat).filterMap (fun i => lw_tbl[i]?) := rfl
theorem xhok_get {l : List xHead} {w : List Nat} (h : l.all xhok = true) (hw : l.map xcw = w.filterMap (fun i => lw_tbl[i]?)) {i : Nat} {q : xHead} (hq : l[i]? = some q) : Cond.code q.1 q.2.1 q.2.2.1 q.2.2.2 ∈ xgw ∧ q.2.2.1 ≤ 21 ∧ (q.1.cls ≠ "java/lang/invoke/MethodHandle" ∧ q.1.cls ≠ "java/lang/invoke/VarHandle") ∧ plainFor q.1 = true := by
  have h1 := List.all_eq_true.mp h _ (List.mem_of_getElem? hq)
  unfold xhok at h1
  rw [decide_eq_true_eq] at h1
  have h2 : xcw q ∈ l.map xcw := List.mem_map.mpr ⟨q, List.mem_of_getElem? hq, rfl⟩
  rw [hw] at h2
  obtain ⟨j, -, hj⟩ := List.mem_filterMap.mp h2
  exact ⟨xgw_of (List.mem_of_getElem? hj) rfl, h1.1, ⟨h1.2.1, h1.2.2.1⟩, h1.2.2.2⟩
theorem xhd_app {l r : List xHead} {P : xHead → Prop} (h1 : ∀ (i : Nat) (q : xHead), l[i]? = some q → P q) (h2 : ∀ (i : Nat) (q : xHead), r[i]? = some q → P q) : ∀ (i : Nat) (q : xHead), (l ++ r)[i]? = some q → P q := by
  intro i q h
  rcases List.mem_append.mp (List.mem_of_getElem? h) with g | g
  · obtain ⟨j, hj⟩ := List.getElem?_of_mem g
    exact h1 j q hj
  · obtain ⟨j, hj⟩ := List.getElem?_of_mem g
    exact h2 j q hj
set_option maxRecDepth 100000 in
theorem xhd_ok : ∀ (i : Nat) (q : xHead), xHd[i]? = some q → Cond.code q.1 q.2.1 q.2.2.1 q.2.2.2 ∈ xgw ∧ q.2.2.1 ≤ 21 ∧ (q.1.cls ≠ "java/lang/invoke/MethodHandle" ∧ q.1.cls ≠ "java/lang/invoke/VarHandle") ∧ plainFor q.1 = true :=
  xhd_app (fun _ _ h => xhok_get xhok0 xhcw0 h) (xhd_app (fun _ _ h => xhok_get xhok1 xhcw1 h) (xhd_app (fun _ _ h => xhok_get xhok2 xhcw2 h) (xhd_app (fun _ _ h => xhok_get xhok3 xhcw3 h) (xhd_app (fun _ _ h => xhok_get xhok4 xhcw4 h) (xhd_app (fun _ _ h => xhok_get xhok5 xhcw5 h) (xhd_app (fun _ _ h => xhok_get xhok6 xhcw6 h) (xhd_app (fun _ _ h => xhok_get xhok7 xhcw7 h) (xhd_app (fun _ _ h => xhok_get xhok8 xhcw8 h) (fun _ _ h => xhok_get xhok9 xhcw9 h)))))))))
def xnp (y : MethodName) (np : Nat) : Bool := decide ((parseMethodDescriptor y.desc).map (fun d => d.parameters.length) = some np)
def xokK (ref n d : String) (ws : List Nat) (q : Nat × Nat) : Bool := match vwCl[q.1]? with
  | some (_, T, N) => decide (q.2 < N ∧ (T q.2).2.1 = n ∧ (T q.2).2.2.1 = d) && (decide ((T q.2).1 = ref) || xw ws 1 (.sameField ref (T q.2).1 n d))
  | none => false
def xokF (own : String) (idx : Nat) (ks : List (Nat × Nat)) (ws : List Nat) : Bool := match ws[0]? with
  | some i => match lw_tbl[i]? with
    | some (Cond.fieldLink o j ref n d) => decide (o = own ∧ j = idx) && ks.all (xokK ref n d ws)
    | some (Cond.fieldLinkNest o j ref n d _) => decide (o = own ∧ j = idx) && ks.all (xokK ref n d ws)
    | _ => false
  | none => false
def xokP (own nm : String) (idx : Nat) (ks : List (Nat × Nat)) (ws : List Nat) : Bool := match ws[0]? with
  | some i => match lw_tbl[i]? with
    | some (Cond.fieldLink o j ref n d) => decide (o = own ∧ j = idx) && ks.all (fun q => xokK ref n d ws q && match vwCl[q.1]? with
      | some (_, T, _) => decide ((T q.2).2.2.2 = false ∨ ((T q.2).2.2.2 = true ∧ nm = "<init>" ∧ (T q.2).1 = own))
      | none => false)
    | _ => false
  | none => false
def xokV (own : String) (idx np : Nat) (ws : List Nat) (q : (Nat × Nat) × Nat) : Bool := match vwCl[q.1.1]?, xHd[q.1.2]? with
  | some cl, some (y, _, _, _) => xnp y np && xw ws (1 + 7 * q.2) (.instanceMethod y) && xw ws (3 + 7 * q.2) (.initialized y.cls) &&
    ((decide (y.cls = cl.1) && (xw ws 0 (.methodLink own idx y) || xwb ws 0 (.methodLinkNest own idx y "SkinLoads")) && xw ws (2 + 7 * q.2) (.selects cl.1 y y)) ||
     (match (ws[0]?).bind (fun i => lw_tbl[i]?), (ws[4 + 7 * q.2]?).bind (fun i => lw_tbl[i]?), (ws[6 + 7 * q.2]?).bind (fun i => lw_tbl[i]?) with
      | some (Cond.methodLink o j x), some (Cond.sameMethod xc ow xn xd), some (Cond.code y0 b0 m0 r0) => decide (o = own ∧ j = idx ∧ xc = x.cls ∧ xn = x.name ∧ xd = x.desc) && xw ws (2 + 7 * q.2) (.selects cl.1 x y) &&
        (decide (y = ⟨ow, x.name, x.desc⟩) || (decide (y.desc = x.desc ∧ ow ≠ "java/lang/invoke/MethodHandle" ∧ ow ≠ "java/lang/invoke/VarHandle" ∧ y0 = ⟨ow, x.name, x.desc⟩) && xw ws (5 + 7 * q.2) (.instanceMethod ⟨ow, x.name, x.desc⟩)))
      | _, _, _ => false))
  | _, _ => false
/-- what a row of an instruction must fulfil -/
def xres (own nm : String) (rt : Option FieldType) (ins : Instr) (pc nx a : Nat) (ks : List (Nat × Nat)) (ws : List Nat) (v : Value) : Bool := match ins with
  | .iconst i => decide (nx = pc + 1 ∧ v = .int (Int32.ofInt i))
  | .bipush i => decide (nx = pc + 2 ∧ v = .int (Int8.ofInt i).toInt32)
  | .sipush i => decide (nx = pc + 3 ∧ v = .int (Int16.ofInt i).toInt32)
  | .lconst i => decide (nx = pc + 1 ∧ v = .long (Int64.ofNat (i : Nat)))
  | .ldc i => decide (nx = pc + 2) && (match v with | .int x => xw ws 0 (.constant own i x) | _ => false)
  | .ldc_w i => decide (nx = pc + 3) && (match v with | .int x => xw ws 0 (.constant own i x) | _ => false)
  | .ldc2_w i => decide (nx = pc + 3) && (match v with | .long x => xw ws 0 (.constantLong own i x) | _ => false)
  | .iload i => decide (nx = pc + 2 ∧ i = a)
  | .lload i => decide (nx = pc + 2 ∧ i = a)
  | .aload i => decide (nx = pc + 2 ∧ i = a)
  | .istore i => decide (nx = pc + 2 ∧ i = a)
  | .lstore i => decide (nx = pc + 2 ∧ i = a)
  | .astore i => decide (nx = pc + 2 ∧ i = a)
  | .iload_n i => decide (nx = pc + 1 ∧ (i : Nat) = a)
  | .lload_n i => decide (nx = pc + 1 ∧ (i : Nat) = a)
  | .aload_n i => decide (nx = pc + 1 ∧ (i : Nat) = a)
  | .istore_n i => decide (nx = pc + 1 ∧ (i : Nat) = a)
  | .lstore_n i => decide (nx = pc + 1 ∧ (i : Nat) = a)
  | .astore_n i => decide (nx = pc + 1 ∧ (i : Nat) = a)
  | .iinc i z => decide (nx = pc + 3 ∧ i = a ∧ v = .int (Int32.ofInt z))
  | .ifCond _ off => decide (nx = pc + 3 ∧ (pc : Int) + off = (a : Int))
  | .if_icmp _ off => decide (nx = pc + 3 ∧ (pc : Int) + off = (a : Int))
  | .goto off => decide (nx = pc + 3 ∧ (pc : Int) + off = (a : Int))
  | .ifnull off => decide (nx = pc + 3 ∧ (pc : Int) + off = (a : Int))
  | .ifnonnull off => decide (nx = pc + 3 ∧ (pc : Int) + off = (a : Int))
  | .getfield i => decide (nx = pc + 3) && xokF own i ks ws
  | .putfield i => decide (nx = pc + 3) && xokP own nm i ks ws
  | .getstatic i => decide (nx = pc + 3) && ((decide (a = 9217) && xw ws 0 (.fieldLink own i "SkinLoads$Skin" "ROW_STEPS" "[I")) || (decide (a = 9218) && xw ws 0 (.fieldLink own i "SkinLoads$Skin" "COLUMN_STEPS" "[I")))
  | .new i => decide (nx = pc + 3) && (match vwCl[a]? with | some (C, _, N) => xw ws 0 (.classLink own i C) && xw ws 1 (.instantiable C N) && xw ws 2 (.initialized C) | none => false)
  | .newarray t => decide (nx = pc + 2) && ((decide (a = 0 ∧ newarray.typeOf t = .int) && xw ws 0 (.arrayClass .int)) || (decide (a = 1 ∧ newarray.typeOf t = .long) && xw ws 0 (.arrayClass .long)) || (decide (a = 2 ∧ newarray.typeOf t = .boolean) && xw ws 0 (.arrayClass .boolean)))
  | .anewarray i => decide (nx = pc + 3 ∧ a = 5) && xw ws 0 (.classLink own i "SkinLoads$Bar") && xwb ws 1 (.arrayOver (.object "SkinLoads$Bar"))
  | .multianewarray i d => decide (nx = pc + 4 ∧ d = 2) && ((decide (a = 3) && xw ws 0 (.classLink own i "[[I") && xwb ws 1 (.arrayOver (.array .int)) && xw ws 2 (.arrayClass .int)) || (decide (a = 4) && xw ws 0 (.classLink own i "[[J") && xwb ws 1 (.arrayOver (.array .long)) && xw ws 2 (.arrayClass .long)))
  | .instanceof i => decide (nx = pc + 3) && ((xw ws 0 (.classLink own i "SkinLoads$Flat") && decide (ks = [(0, 0), (3, 1), (1, 1)])) || (xw ws 0 (.classLink own i "SkinLoads$Bent") && decide (ks = [(0, 0), (3, 0), (1, 1)])))
  | .tableswitch df lo hi offs => decide ((pc : Int) + df = (a : Int) ∧ 0 ≤ lo ∧ hi = lo + offs.size - 1) && xtab pc lo.toNat ks offs.toList
  | .lookupswitch df ps => decide ((pc : Int) + df = (a : Int)) && xlkp pc ks ps.toList && (ps.toList.zip (ps.toList.drop 1)).all (fun (a, next) => a.1 < next.1)
  | .ireturn => decide (nx = pc + 1 ∧ (rt = some .int ∨ (rt = some .boolean ∧ a = 1)))
  | .lreturn => decide (nx = pc + 1 ∧ rt = some .long)
  | .areturn => decide (nx = pc + 1 ∧ rt = some (.object "SkinLoads$Bar"))
  | .return_ => decide (nx = pc + 1 ∧ rt = none)
  | .invokestatic i => decide (nx = pc + 3) && (match v, xHd[a]? with
    | .retAddr np, some (y, _, _, _) => xnp y np && (xw ws 0 (.methodLink own i y) || xwb ws 0 (.methodLinkNest own i y "SkinLoads")) && xw ws 1 (.static y) && xw ws 2 (.initialized y.cls)
    | _, _ => false)
  | .invokevirtual i => decide (nx = pc + 3) && (match v with
    | .retAddr np => ks.zipIdx.all (xokV own i np ws)
    | _ => false)
  | .invokespecial i => decide (nx = pc + 3) && (match v with
    | .retAddr np => match ks with
      | [] => (match xHd[a]? with
        | some (y, _, _, ry) => decide (y.name = "<init>" ∧ ry = none) && xnp y np && (xw ws 0 (.methodLink own i y) || xwb ws 0 (.methodLinkNest own i y "SkinLoads")) && xw ws 1 (.instanceMethod y) && xw ws 2 (.initialized y.cls)
        | none => false)
      | _ => ks.all (fun q => match vwCl[q.1]?, xHd[q.2]? with
        | some _, some (y, _, _, _) => decide (y.name ≠ "<init>") && xnp y np && xw ws 0 (.methodLink own i y) && xw ws 1 (.instanceMethod y) && xw ws 2 (.initialized y.cls) && xw ws 4 (.sameMethod y.cls y.cls y.name y.desc) && xw ws 5 (.superclass own y.cls)
        | _, _ => false)
    | _ => xw ws 0 (.methodLink own i objectInit) && xw ws 1 (.instanceMethod objectInit) && xw ws 2 (.code objectInit ⟨#[0xb1]⟩ 1 none))
  | _ => decide (nx = pc + 1)
def xokR (own nm : String) (cc : ByteArray) (rt : Option FieldType) (q : xRow) : Bool := decide (decode cc q.1 = .ok (q.2.1, q.2.2.1 - q.1)) && xres own nm rt q.2.1 q.1 q.2.2.1 q.2.2.2.1 q.2.2.2.2.1 q.2.2.2.2.2.1 q.2.2.2.2.2.2
def xokM (M : xM) : Bool := M.2.2.2.2.all (xokR M.1.cls M.1.name M.2.1 M.2.2.2.1)
theorem xrow_mem : ∀ {rows : List xRow} {pc : Nat} {q : Instr × Nat × Nat × List (Nat × Nat) × List Nat × Value}, xrow rows pc = some q → (pc, q) ∈ rows
  | [], _, _, h => by cases h
  | r :: l, pc, q, h => by
    unfold xrow at h
    split at h
    next e =>
      cases h
      subst e
      exact List.mem_cons_self
    next => exact List.mem_cons_of_mem _ (xrow_mem h)
