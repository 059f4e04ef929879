abbrev m_X0_init : sj_M := (yX0_init, cX0_init, 1, none, 2)
abbrev m_X0_begin : sj_M := (yX0_begin, cX0_begin, 3, none, 1)
abbrev m_X0_copy : sj_M := (yX0_copy, cX0_copy, 2, none, 2)
abbrev m_X0_hasColumn : sj_M := (yX0_hasColumn, cX0_hasColumn, 2, some .boolean, 0)
abbrev m_X0_canLower : sj_M := (yX0_canLower, cX0_canLower, 5, some .boolean, 1)
abbrev m_X0_rockIsBelow : sj_M := (yX0_rockIsBelow, cX0_rockIsBelow, 2, some .boolean, 0)
abbrev m_X0_waterAt : sj_M := (yX0_waterAt, cX0_waterAt, 2, some .int, 1)
abbrev m_X0_topAt : sj_M := (yX0_topAt, cX0_topAt, 5, some .int, 1)
abbrev m_X0_weightOn : sj_M := (yX0_weightOn, cX0_weightOn, 7, some .int, 1)
abbrev m_X0_headOn : sj_M := (yX0_headOn, cX0_headOn, 3, some .int, 1)
abbrev m_X0_layerUnder : sj_M := (yX0_layerUnder, cX0_layerUnder, 4, some .int, 2)
abbrev m_X0_anchorCounts : sj_M := (yX0_anchorCounts, cX0_anchorCounts, 4, some .boolean, 1)
abbrev m_X0_pullsOn : sj_M := (yX0_pullsOn, cX0_pullsOn, 5, some .long, 2)
abbrev m_X0_anchorSet : sj_M := (yX0_anchorSet, cX0_anchorSet, 3, some .int, 0)
abbrev m_X0_greatestGround : sj_M := (yX0_greatestGround, cX0_greatestGround, 3, some .int, 1)
abbrev m_X0_allSoil : sj_M := (yX0_allSoil, cX0_allSoil, 3, some .int, 0)
abbrev m_X0_thickAt : sj_M := (yX0_thickAt, cX0_thickAt, 2, some .int, 1)
abbrev m_X0_thickest : sj_M := (yX0_thickest, cX0_thickest, 3, some .int, 2)
abbrev m_X0_slipArea : sj_M := (yX0_slipArea, cX0_slipArea, 3, some .int, 2)
abbrev m_X0_dryUp : sj_M := (yX0_dryUp, cX0_dryUp, 1, none, 1)
abbrev m_X0_raiseWater : sj_M := (yX0_raiseWater, cX0_raiseWater, 2, none, 1)
abbrev m_X0_turn : sj_M := (yX0_turn, cX0_turn, 2, none, 1)
abbrev m_X0_turnRow : sj_M := (yX0_turnRow, cX0_turnRow, 5, none, 0)
abbrev m_X1_init : sj_M := (yX1_init, cX1_init, 1, none, 1)
abbrev m_X1_copy : sj_M := (yX1_copy, cX1_copy, 2, none, 1)
abbrev m_X1_draw : sj_M := (yX1_draw, cX1_draw, 2, some .int, 0)
abbrev m_X2_init : sj_M := (yX2_init, cX2_init, 1, none, 1)
abbrev m_X2_write : sj_M := (yX2_write, cX2_write, 2, none, 0)
abbrev m_X2_writeFactor : sj_M := (yX2_writeFactor, cX2_writeFactor, 2, none, 2)
abbrev m_X2_writeNumber : sj_M := (yX2_writeNumber, cX2_writeNumber, 2, none, 1)
abbrev m_X3_init : sj_M := (yX3_init, cX3_init, 1, none, 2)
abbrev m_X3_ask : sj_M := (yX3_ask, cX3_ask, 7, some .int, 4)
abbrev m_X3_seek : sj_M := (yX3_seek, cX3_seek, 9, some .boolean, 6)
abbrev m_X3_goOn : sj_M := (yX3_goOn, cX3_goOn, 7, some .boolean, 5)
abbrev m_X3_off : sj_M := (yX3_off, cX3_off, 2, some .int, 0)
abbrev m_X4_init : sj_M := (yX4_init, cX4_init, 1, none, 1)
abbrev m_X4_weigh : sj_M := (yX4_weigh, cX4_weigh, 11, none, 3)
abbrev m_X4_settle : sj_M := (yX4_settle, cX4_settle, 5, none, 2)
abbrev m_X4_burden : sj_M := (yX4_burden, cX4_burden, 6, none, 0)
abbrev m_X4_press : sj_M := (yX4_press, cX4_press, 2, some .int, 1)
abbrev m_X4_isFast : sj_M := (yX4_isFast, cX4_isFast, 3, some .boolean, 0)
abbrev m_X4_rubsOf : sj_M := (yX4_rubsOf, cX4_rubsOf, 5, some .long, 0)
abbrev m_X4_thrustOf : sj_M := (yX4_thrustOf, cX4_thrustOf, 3, some .long, 1)
abbrev m_X4_lack : sj_M := (yX4_lack, cX4_lack, 11, some .long, 0)
abbrev m_X4_hold : sj_M := (yX4_hold, cX4_hold, 2, some .boolean, 1)
abbrev m_X4_leastBound : sj_M := (yX4_leastBound, cX4_leastBound, 6, some .int, 2)
abbrev m_X4_allPushes : sj_M := (yX4_allPushes, cX4_allPushes, 4, some .long, 0)
abbrev m_X4_allWeights : sj_M := (yX4_allWeights, cX4_allWeights, 4, some .long, 0)
abbrev m_X4_allLifts : sj_M := (yX4_allLifts, cX4_allLifts, 4, some .long, 0)
abbrev m_X4_allStrengths : sj_M := (yX4_allStrengths, cX4_allStrengths, 4, some .long, 0)
abbrev m_X4_countFalling : sj_M := (yX4_countFalling, cX4_countFalling, 3, some .int, 0)
abbrev m_X4_countAfloat : sj_M := (yX4_countAfloat, cX4_countAfloat, 3, some .int, 0)
abbrev m_X5_init : sj_M := (yX5_init, cX5_init, 1, none, 1)
abbrev m_X5_isNone : sj_M := (yX5_isNone, cX5_isNone, 1, some .boolean, 0)
abbrev m_X5_drop : sj_M := (yX5_drop, cX5_drop, 1, none, 0)
abbrev m_X5_count : sj_M := (yX5_count, cX5_count, 1, some .int, 0)
abbrev m_X5_copy : sj_M := (yX5_copy, cX5_copy, 2, none, 1)
abbrev m_X5_baseAt : sj_M := (yX5_baseAt, cX5_baseAt, 2, some .int, 1)
abbrev m_X5_leastBase : sj_M := (yX5_leastBase, cX5_leastBase, 3, some .int, 1)
abbrev m_X5_span : sj_M := (yX5_span, cX5_span, 5, none, 0)
abbrev m_X5_cut : sj_M := (yX5_cut, cX5_cut, 12, some .boolean, 1)
abbrev m_X5_follow : sj_M := (yX5_follow, cX5_follow, 10, some .boolean, 2)
abbrev m_X5_heightAt : sj_M := (yX5_heightAt, cX5_heightAt, 6, some .int, 1)
abbrev m_X6_init : sj_M := (yX6_init, cX6_init, 1, none, 2)
abbrev m_X6_judge : sj_M := (yX6_judge, cX6_judge, 7, none, 5)
abbrev m_X6_weighAll : sj_M := (yX6_weighAll, cX6_weighAll, 3, none, 2)
abbrev m_X6_sweep : sj_M := (yX6_sweep, cX6_sweep, 5, none, 4)
abbrev m_X6_addTops : sj_M := (yX6_addTops, cX6_addTops, 3, none, 2)
abbrev m_X6_stepOn : sj_M := (yX6_stepOn, cX6_stepOn, 11, none, 3)
abbrev m_X6_close : sj_M := (yX6_close, cX6_close, 5, none, 0)
abbrev m_X6_pass : sj_M := (yX6_pass, cX6_pass, 5, none, 0)
abbrev m_X6_leftOver : sj_M := (yX6_leftOver, cX6_leftOver, 16, some .long, 2)
abbrev m_X6_goBack : sj_M := (yX6_goBack, cX6_goBack, 8, none, 3)
abbrev m_X7_init : sj_M := (yX7_init, cX7_init, 1, none, 1)
abbrev m_X7_put : sj_M := (yX7_put, cX7_put, 3, none, 0)
abbrev m_X7_read : sj_M := (yX7_read, cX7_read, 3, some .int, 11)
abbrev m_X7_fail : sj_M := (yX7_fail, cX7_fail, 3, some .int, 0)
abbrev m_X7_skip : sj_M := (yX7_skip, cX7_skip, 1, none, 0)
abbrev m_X7_sees : sj_M := (yX7_sees, cX7_sees, 2, some .boolean, 0)
abbrev m_X7_seesFrom : sj_M := (yX7_seesFrom, cX7_seesFrom, 3, some .boolean, 0)
abbrev m_X7_readEnd : sj_M := (yX7_readEnd, cX7_readEnd, 1, some .boolean, 1)
abbrev m_X7_readNumber : sj_M := (yX7_readNumber, cX7_readNumber, 4, some .int, 1)
abbrev m_X7_readWord : sj_M := (yX7_readWord, cX7_readWord, 1, none, 1)
abbrev m_X7_isWord : sj_M := (yX7_isWord, cX7_isWord, 3, some .boolean, 8)
abbrev m_X7_readColumns : sj_M := (yX7_readColumns, cX7_readColumns, 4, some .boolean, 9)
abbrev m_X7_lineKind : sj_M := (yX7_lineKind, cX7_lineKind, 1, some .int, 9)
abbrev m_X7_readLine : sj_M := (yX7_readLine, cX7_readLine, 3, some .boolean, 10)
abbrev m_X7_isNew : sj_M := (yX7_isNew, cX7_isNew, 3, some .boolean, 1)
abbrev m_X7_readQuake : sj_M := (yX7_readQuake, cX7_readQuake, 3, some .boolean, 2)
abbrev m_X7_readTop : sj_M := (yX7_readTop, cX7_readTop, 3, some .boolean, 4)
abbrev m_X7_readSoil : sj_M := (yX7_readSoil, cX7_readSoil, 6, some .boolean, 2)
abbrev m_X7_readAnchor : sj_M := (yX7_readAnchor, cX7_readAnchor, 6, some .boolean, 2)
abbrev m_X7_readRow : sj_M := (yX7_readRow, cX7_readRow, 9, some .boolean, 3)
abbrev m_X7_readTimes : sj_M := (yX7_readTimes, cX7_readTimes, 2, some .int, 2)
abbrev m_X8_init : sj_M := (yX8_init, cX8_init, 2, none, 3)
abbrev m_X8_size : sj_M := (yX8_size, cX8_size, 3, some .boolean, 4)
abbrev m_X8_tell : sj_M := (yX8_tell, cX8_tell, 4, some .boolean, 2)
abbrev m_X8_tellRock : sj_M := (yX8_tellRock, cX8_tellRock, 3, some .boolean, 1)
abbrev m_X8_dig : sj_M := (yX8_dig, cX8_dig, 3, some .int, 4)
abbrev m_X8_soil : sj_M := (yX8_soil, cX8_soil, 5, some .boolean, 0)
abbrev m_X8_quake : sj_M := (yX8_quake, cX8_quake, 2, some .boolean, 0)
abbrev m_X8_anchor : sj_M := (yX8_anchor, cX8_anchor, 5, some .boolean, 1)
abbrev m_X8_feed : sj_M := (yX8_feed, cX8_feed, 6, some .int, 1)
abbrev m_X8_end : sj_M := (yX8_end, cX8_end, 2, some .boolean, 0)
abbrev m_X8_text : sj_M := (yX8_text, cX8_text, 2, some .int, 12)
abbrev m_X8_fault : sj_M := (yX8_fault, cX8_fault, 2, some .int, 0)
abbrev m_X8_circle : sj_M := (yX8_circle, cX8_circle, 5, some .int, 3)
abbrev m_X8_point : sj_M := (yX8_point, cX8_point, 4, some .int, 1)
abbrev m_X8_points : sj_M := (yX8_points, cX8_points, 2, some .int, 3)
abbrev m_X8_worst : sj_M := (yX8_worst, cX8_worst, 4, some .int, 7)
abbrev m_X8_takeTrial : sj_M := (yX8_takeTrial, cX8_takeTrial, 1, some .int, 2)
abbrev m_X8_mirror : sj_M := (yX8_mirror, cX8_mirror, 1, some .boolean, 4)
abbrev m_X8_keepAct : sj_M := (yX8_keepAct, cX8_keepAct, 1, none, 3)
abbrev m_X8_undo : sj_M := (yX8_undo, cX8_undo, 1, some .int, 3)
abbrev m_X8_image : sj_M := (yX8_image, cX8_image, 2, some .boolean, 3)
abbrev m_X8_column : sj_M := (yX8_column, cX8_column, 3, some .int, 2)
abbrev m_X8_layer : sj_M := (yX8_layer, cX8_layer, 3, some .int, 0)
abbrev m_X8_anchored : sj_M := (yX8_anchored, cX8_anchored, 3, some .int, 2)
abbrev m_X8_look : sj_M := (yX8_look, cX8_look, 2, some .int, 2)
abbrev m_X8_cutUp : sj_M := (yX8_cutUp, cX8_cutUp, 1, some .boolean, 4)
abbrev m_X8_isK : sj_M := (yX8_isK, cX8_isK, 1, some .boolean, 0)
abbrev m_X8_slice : sj_M := (yX8_slice, cX8_slice, 3, some .long, 5)
abbrev m_X8_rubs : sj_M := (yX8_rubs, cX8_rubs, 3, some .long, 5)
abbrev m_X8_stands : sj_M := (yX8_stands, cX8_stands, 2, some .int, 5)
abbrev m_X8_factor : sj_M := (yX8_factor, cX8_factor, 1, some .int, 5)
abbrev m_X8_sum : sj_M := (yX8_sum, cX8_sum, 2, some .long, 5)
abbrev m_X8_dry : sj_M := (yX8_dry, cX8_dry, 1, some .int, 4)
abbrev m_X8_bears : sj_M := (yX8_bears, cX8_bears, 4, some .int, 4)
abbrev m_X8_needs : sj_M := (yX8_needs, cX8_needs, 6, some .int, 5)
abbrev m_X8_pull : sj_M := (yX8_pull, cX8_pull, 8, some .int, 5)
abbrev m_X8_berm : sj_M := (yX8_berm, cX8_berm, 5, some .int, 5)
abbrev m_X8_shape : sj_M := (yX8_shape, cX8_shape, 2, some .int, 5)
abbrev m_X8_thrust : sj_M := (yX8_thrust, cX8_thrust, 6, some .long, 5)
abbrev m_X8_crest : sj_M := (yX8_crest, cX8_crest, 8, some .int, 5)
abbrev m_X8_isCircle : sj_M := (yX8_isCircle, cX8_isCircle, 3, some .boolean, 0)
abbrev m_X8_tried : sj_M := (yX8_tried, cX8_tried, 5, some .int, 5)
abbrev m_X8_boxes : sj_M := (yX8_boxes, cX8_boxes, 7, some .int, 7)
abbrev m_X8_dug : sj_M := (yX8_dug, cX8_dug, 7, some .int, 7)
abbrev m_X8_deep : sj_M := (yX8_deep, cX8_deep, 10, some .int, 7)
abbrev m_X8_scan : sj_M := (yX8_scan, cX8_scan, 12, some .int, 5)
abbrev m_X8_tableOf : sj_M := (yX8_tableOf, cX8_tableOf, 3, some (.object "SlopeJudge$Table"), 6)
abbrev m_X8_tables : sj_M := (yX8_tables, cX8_tables, 5, some .int, 7)
abbrev m_X8_state : sj_M := (yX8_state, cX8_state, 3, some .int, 0)
abbrev m_X8_chance : sj_M := (yX8_chance, cX8_chance, 7, some .int, 5)
abbrev m_X8_report : sj_M := (yX8_report, cX8_report, 1, some .int, 5)
abbrev m_X8_sign : sj_M := (yX8_sign, cX8_sign, 2, some .int, 0)
abbrev m_X8_topPlace : sj_M := (yX8_topPlace, cX8_topPlace, 2, some .int, 0)
abbrev m_X8_rootOf : sj_M := (yX8_rootOf, cX8_rootOf, 4, some .int, 0)
abbrev m_L_law : sj_M := (yL_law, cL_law, 4, some .boolean, 16)
abbrev m_X9_isIn : sj_M := (yX9_isIn, cX9_isIn, 6, some .boolean, 0)
abbrev m_X9_least : sj_M := (yX9_least, cX9_least, 2, some .int, 0)
abbrev m_X9_most : sj_M := (yX9_most, cX9_most, 2, some .int, 0)
abbrev m_X9_init : sj_M := (yX9_init, cX9_init, 1, none, 1)
abbrev m_X9_begins : sj_M := (yX9_begins, cX9_begins, 4, none, 0)
abbrev m_X9_isColumn : sj_M := (yX9_isColumn, cX9_isColumn, 2, some .boolean, 1)
abbrev m_X9_hasSlip : sj_M := (yX9_hasSlip, cX9_hasSlip, 1, some .boolean, 0)
abbrev m_X9_remembers : sj_M := (yX9_remembers, cX9_remembers, 3, none, 0)
abbrev m_X9_undo : sj_M := (yX9_undo, cX9_undo, 2, some .int, 0)
abbrev m_X9_size : sj_M := (yX9_size, cX9_size, 3, some .boolean, 1)
abbrev m_X9_tell : sj_M := (yX9_tell, cX9_tell, 4, some .boolean, 2)
abbrev m_X9_canDig : sj_M := (yX9_canDig, cX9_canDig, 3, some .boolean, 2)
abbrev m_X9_dig : sj_M := (yX9_dig, cX9_dig, 3, some .int, 3)
abbrev m_X9_turnsRound : sj_M := (yX9_turnsRound, cX9_turnsRound, 5, none, 0)
abbrev m_X9_mirror : sj_M := (yX9_mirror, cX9_mirror, 2, some .boolean, 1)
abbrev m_X9_soil : sj_M := (yX9_soil, cX9_soil, 5, some .boolean, 1)
abbrev m_X9_quake : sj_M := (yX9_quake, cX9_quake, 2, some .boolean, 1)
abbrev m_X9_anchor : sj_M := (yX9_anchor, cX9_anchor, 5, some .boolean, 2)
abbrev m_X9_top : sj_M := (yX9_top, cX9_top, 5, some .int, 1)
abbrev m_X9_water : sj_M := (yX9_water, cX9_water, 2, some .int, 1)
abbrev m_X9_thick : sj_M := (yX9_thick, cX9_thick, 6, some .int, 2)
abbrev m_X9_laysSlice : sj_M := (yX9_laysSlice, cX9_laysSlice, 8, none, 3)
abbrev m_X9_rubsOf : sj_M := (yX9_rubsOf, cX9_rubsOf, 4, some .long, 0)
abbrev m_X9_takesSlip : sj_M := (yX9_takesSlip, cX9_takesSlip, 2, some .boolean, 0)
abbrev m_X9_keepsSlip : sj_M := (yX9_keepsSlip, cX9_keepsSlip, 2, some .int, 0)
abbrev m_X9_laysAt : sj_M := (yX9_laysAt, cX9_laysAt, 2, none, 4)
abbrev m_X9_isCounting : sj_M := (yX9_isCounting, cX9_isCounting, 3, some .boolean, 1)
abbrev m_X9_pulls : sj_M := (yX9_pulls, cX9_pulls, 4, some .long, 2)
abbrev m_X9_upwards : sj_M := (yX9_upwards, cX9_upwards, 4, some .long, 0)
abbrev m_X9_downwards : sj_M := (yX9_downwards, cX9_downwards, 4, some .long, 0)
abbrev m_X9_standsWith : sj_M := (yX9_standsWith, cX9_standsWith, 11, some .boolean, 5)
abbrev m_X9_isStanding : sj_M := (yX9_isStanding, cX9_isStanding, 2, some .boolean, 6)
abbrev m_X9_factorOf : sj_M := (yX9_factorOf, cX9_factorOf, 4, some .int, 7)
abbrev m_X9_root : sj_M := (yX9_root, cX9_root, 2, some .int, 0)
abbrev m_X9_isCircle : sj_M := (yX9_isCircle, cX9_isCircle, 3, some .boolean, 1)
abbrev m_X9_isBelow : sj_M := (yX9_isBelow, cX9_isBelow, 7, some .boolean, 1)
abbrev m_X9_cuts : sj_M := (yX9_cuts, cX9_cuts, 7, some .boolean, 2)
abbrev m_X9_circle : sj_M := (yX9_circle, cX9_circle, 5, some .int, 3)
abbrev m_X9_factorBy : sj_M := (yX9_factorBy, cX9_factorBy, 5, some .int, 8)
abbrev m_X9_tried : sj_M := (yX9_tried, cX9_tried, 5, some .int, 9)
abbrev m_X9_point : sj_M := (yX9_point, cX9_point, 4, some .int, 2)
abbrev m_X9_pointsCan : sj_M := (yX9_pointsCan, cX9_pointsCan, 6, some .boolean, 1)
abbrev m_X9_points : sj_M := (yX9_points, cX9_points, 2, some .int, 2)
abbrev m_X9_isBetter : sj_M := (yX9_isBetter, cX9_isBetter, 12, some .boolean, 9)
abbrev m_X9_searches : sj_M := (yX9_searches, cX9_searches, 7, some .int, 10)
abbrev m_X9_boxes : sj_M := (yX9_boxes, cX9_boxes, 7, some .int, 11)
abbrev m_X9_adds : sj_M := (yX9_adds, cX9_adds, 8, some .long, 4)
abbrev m_X9_goes : sj_M := (yX9_goes, cX9_goes, 10, some .long, 6)
abbrev m_X9_comes : sj_M := (yX9_comes, cX9_comes, 12, none, 5)
abbrev m_X9_tableK : sj_M := (yX9_tableK, cX9_tableK, 6, some .int, 7)
abbrev m_X9_findsWorst : sj_M := (yX9_findsWorst, cX9_findsWorst, 9, some .boolean, 7)
abbrev m_X9_tables : sj_M := (yX9_tables, cX9_tables, 5, some .int, 8)
abbrev m_X9_worst : sj_M := (yX9_worst, cX9_worst, 3, some .int, 8)
abbrev m_X9_isSlice : sj_M := (yX9_isSlice, cX9_isSlice, 2, some .boolean, 1)
abbrev m_X9_slice : sj_M := (yX9_slice, cX9_slice, 3, some .long, 5)
abbrev m_X9_isK : sj_M := (yX9_isK, cX9_isK, 1, some .boolean, 1)
abbrev m_X9_rubs : sj_M := (yX9_rubs, cX9_rubs, 3, some .long, 5)
abbrev m_X9_stands : sj_M := (yX9_stands, cX9_stands, 2, some .int, 7)
abbrev m_X9_factor : sj_M := (yX9_factor, cX9_factor, 1, some .int, 8)
abbrev m_X9_sum : sj_M := (yX9_sum, cX9_sum, 5, some .long, 5)
abbrev m_X9_hasFast : sj_M := (yX9_hasFast, cX9_hasFast, 4, some .boolean, 5)
abbrev m_X9_thrustOf : sj_M := (yX9_thrustOf, cX9_thrustOf, 6, some .long, 5)
abbrev m_X9_thrust : sj_M := (yX9_thrust, cX9_thrust, 3, some .long, 6)
abbrev m_X9_crest : sj_M := (yX9_crest, cX9_crest, 4, some .int, 6)
abbrev m_X9_laysAside : sj_M := (yX9_laysAside, cX9_laysAside, 2, none, 0)
abbrev m_X9_comesBack : sj_M := (yX9_comesBack, cX9_comesBack, 2, none, 0)
abbrev m_X9_dry : sj_M := (yX9_dry, cX9_dry, 2, some .int, 8)
abbrev m_X9_bears : sj_M := (yX9_bears, cX9_bears, 4, some .int, 7)
abbrev m_X9_needs : sj_M := (yX9_needs, cX9_needs, 4, some .int, 7)
abbrev m_X9_berm : sj_M := (yX9_berm, cX9_berm, 6, some .int, 7)
abbrev m_X9_deepest : sj_M := (yX9_deepest, cX9_deepest, 3, some .int, 0)
abbrev m_X9_bodyOf : sj_M := (yX9_bodyOf, cX9_bodyOf, 3, some .int, 0)
abbrev m_X9_leastBase : sj_M := (yX9_leastBase, cX9_leastBase, 3, some .int, 1)
abbrev m_X9_slicesOf : sj_M := (yX9_slicesOf, cX9_slicesOf, 4, some .int, 5)
abbrev m_X9_shape : sj_M := (yX9_shape, cX9_shape, 2, some .int, 6)
abbrev m_X9_pull : sj_M := (yX9_pull, cX9_pull, 5, some .int, 6)
abbrev m_X9_dug : sj_M := (yX9_dug, cX9_dug, 8, some .int, 11)
abbrev m_X9_deep : sj_M := (yX9_deep, cX9_deep, 12, some .int, 11)
abbrev m_X9_scan : sj_M := (yX9_scan, cX9_scan, 12, some .int, 9)
abbrev m_X9_state : sj_M := (yX9_state, cX9_state, 3, some .int, 0)
abbrev m_X9_draw : sj_M := (yX9_draw, cX9_draw, 2, some .int, 0)
abbrev m_X9_chance : sj_M := (yX9_chance, cX9_chance, 8, some .int, 7)
abbrev m_X9_says : sj_M := (yX9_says, cX9_says, 2, none, 0)
abbrev m_X9_saysNumber (d : Nat) : sj_M := (yX9_saysNumber, cX9_saysNumber, 2, none, d + 2)
abbrev m_X9_report : sj_M := (yX9_report, cX9_report, 2, some .int, 15)
abbrev m_X9_sign : sj_M := (yX9_sign, cX9_sign, 2, some .int, 1)
abbrev m_X9_comesWord : sj_M := (yX9_comesWord, cX9_comesWord, 3, none, 0)
abbrev m_X9_feed : sj_M := (yX9_feed, cX9_feed, 6, some .int, 1)
abbrev m_X9_end : sj_M := (yX9_end, cX9_end, 2, some .boolean, 1)
abbrev m_X9_fault : sj_M := (yX9_fault, cX9_fault, 2, some .int, 0)
abbrev m_X9_wrong : sj_M := (yX9_wrong, cX9_wrong, 3, none, 0)
abbrev m_X9_blanks : sj_M := (yX9_blanks, cX9_blanks, 1, none, 0)
abbrev m_X9_isNext : sj_M := (yX9_isNext, cX9_isNext, 2, some .boolean, 1)
abbrev m_X9_isDigitNext : sj_M := (yX9_isDigitNext, cX9_isDigitNext, 1, some .boolean, 1)
abbrev m_X9_must : sj_M := (yX9_must, cX9_must, 2, none, 2)
abbrev m_X9_number : sj_M := (yX9_number, cX9_number, 5, some .int, 2)
abbrev m_X9_wordEnd : sj_M := (yX9_wordEnd, cX9_wordEnd, 2, some .int, 1)
abbrev m_X9_spells : sj_M := (yX9_spells, cX9_spells, 9, some .boolean, 2)
abbrev m_X9_word : sj_M := (yX9_word, cX9_word, 1, some .int, 3)
abbrev m_X9_tells : sj_M := (yX9_tells, cX9_tells, 3, none, 1)
abbrev m_X9_runs : sj_M := (yX9_runs, cX9_runs, 7, none, 3)
abbrev m_X9_soilLine : sj_M := (yX9_soilLine, cX9_soilLine, 2, none, 3)
abbrev m_X9_anchorLine : sj_M := (yX9_anchorLine, cX9_anchorLine, 2, none, 3)
abbrev m_X9_line : sj_M := (yX9_line, cX9_line, 4, none, 4)
abbrev m_X9_reads : sj_M := (yX9_reads, cX9_reads, 5, some .int, 5)
abbrev m_X9_text : sj_M := (yX9_text, cX9_text, 2, some .int, 6)
abbrev m_X9_column : sj_M := (yX9_column, cX9_column, 3, some .int, 2)
abbrev m_X9_layer : sj_M := (yX9_layer, cX9_layer, 3, some .int, 1)
abbrev m_X9_isAnchor : sj_M := (yX9_isAnchor, cX9_isAnchor, 2, some .boolean, 1)
abbrev m_X9_anchored : sj_M := (yX9_anchored, cX9_anchored, 3, some .int, 2)
abbrev m_X9_image : sj_M := (yX9_image, cX9_image, 3, some .boolean, 0)
abbrev m_X9_anchorSet : sj_M := (yX9_anchorSet, cX9_anchorSet, 3, some .int, 2)
abbrev m_X9_highest : sj_M := (yX9_highest, cX9_highest, 3, some .int, 1)
abbrev m_X9_soilOver : sj_M := (yX9_soilOver, cX9_soilOver, 3, some .int, 0)
abbrev m_X9_look : sj_M := (yX9_look, cX9_look, 2, some .int, 3)
abbrev m_J7_fill_53178 : sj_M := (yJ7_fill_53178, cJ7_fill_53178, 4, none, 0)
abbrev m_J9_floorDiv_7cf53 : sj_M := (yJ9_floorDiv_7cf53, cJ9_floorDiv_7cf53, 3, some .int, 0)
abbrev m_J9_floorDiv_f86c9 : sj_M := (yJ9_floorDiv_f86c9, cJ9_floorDiv_f86c9, 6, some .long, 0)
theorem kw_37 : (Jvm.Cond.methodLink "SlopeJudge$Slip" (3 : Nat) ({ cls := "java/lang/Object", name := "<init>", desc := "()V" } : Jvm.MethodName)) ∈ sj_kw := sj_k1 37 rfl rfl
theorem kw_24 : (Jvm.Cond.instanceMethod ({ cls := "java/lang/Object", name := "<init>", desc := "()V" } : Jvm.MethodName)) ∈ sj_kw := sj_k1 24 rfl rfl
theorem kw_25 : (Jvm.Cond.code ({ cls := "java/lang/Object", name := "<init>", desc := "()V" } : Jvm.MethodName) object_method_1_code (1 : Nat) (Option.none : Option Jvm.ClassFile.FieldType)) ∈ sj_kw := sj_k1 25 rfl rfl
theorem kw_62 : (Jvm.Cond.arrayClass Jvm.ClassFile.FieldType.int) ∈ sj_kw := sj_k1 62 rfl rfl
theorem kw_38 : (Jvm.Cond.fieldLink "SlopeJudge$Slip" (9 : Nat) "SlopeJudge$Slip" "base" "[I") ∈ sj_kw := sj_k1 38 rfl rfl
theorem kw_42 : (Jvm.Cond.fieldLink "SlopeJudge$Slip" (15 : Nat) "SlopeJudge$Slip" "from" "I") ∈ sj_kw := sj_k1 42 rfl rfl
theorem kw_46 : (Jvm.Cond.fieldLink "SlopeJudge$Slip" (19 : Nat) "SlopeJudge$Slip" "to" "I") ∈ sj_kw := sj_k1 46 rfl rfl
theorem kw_31 : (Jvm.Cond.methodLink "SlopeJudge$Ground" (3 : Nat) ({ cls := "java/lang/Object", name := "<init>", desc := "()V" } : Jvm.MethodName)) ∈ sj_kw := sj_k1 31 rfl rfl
theorem kw_78 : (Jvm.Cond.fieldLink "SlopeJudge$Ground" (9 : Nat) "SlopeJudge$Ground" "ground" "[I") ∈ sj_kw := sj_k1 78 rfl rfl
theorem kw_83 : (Jvm.Cond.fieldLink "SlopeJudge$Ground" (15 : Nat) "SlopeJudge$Ground" "rock" "[I") ∈ sj_kw := sj_k1 83 rfl rfl
theorem kw_88 : (Jvm.Cond.fieldLink "SlopeJudge$Ground" (18 : Nat) "SlopeJudge$Ground" "wate\x72" "[I") ∈ sj_kw := sj_k1 88 rfl rfl
theorem kw_91 : (Jvm.Cond.fieldLink "SlopeJudge$Ground" (21 : Nat) "SlopeJudge$Ground" "load" "[I") ∈ sj_kw := sj_k1 91 rfl rfl
theorem kw_94 : (Jvm.Cond.fieldLink "SlopeJudge$Ground" (24 : Nat) "SlopeJudge$Ground" "tops" "[I") ∈ sj_kw := sj_k1 94 rfl rfl
theorem kw_97 : (Jvm.Cond.fieldLink "SlopeJudge$Ground" (27 : Nat) "SlopeJudge$Ground" "weight" "[I") ∈ sj_kw := sj_k1 97 rfl rfl
theorem kw_100 : (Jvm.Cond.fieldLink "SlopeJudge$Ground" (30 : Nat) "SlopeJudge$Ground" "hold" "[I") ∈ sj_kw := sj_k1 100 rfl rfl
theorem kw_105 : (Jvm.Cond.fieldLink "SlopeJudge$Ground" (33 : Nat) "SlopeJudge$Ground" "rub" "[I") ∈ sj_kw := sj_k1 105 rfl rfl
theorem kw_110 : (Jvm.Cond.fieldLink "SlopeJudge$Ground" (36 : Nat) "SlopeJudge$Ground" "anchorColumn" "[I") ∈ sj_kw := sj_k1 110 rfl rfl
theorem kw_113 : (Jvm.Cond.fieldLink "SlopeJudge$Ground" (39 : Nat) "SlopeJudge$Ground" "anchorHeight" "[I") ∈ sj_kw := sj_k1 113 rfl rfl
theorem kw_116 : (Jvm.Cond.fieldLink "SlopeJudge$Ground" (42 : Nat) "SlopeJudge$Ground" "anchorPull" "[I") ∈ sj_kw := sj_k1 116 rfl rfl
theorem kw_32 : (Jvm.Cond.classLink "SlopeJudge$Ground" (45 : Nat) "SlopeJudge$Slip") ∈ sj_kw := sj_k1 32 rfl rfl
theorem kw_33 : (Jvm.Cond.instantiable "SlopeJudge$Slip" (4 : Nat)) ∈ sj_kw := sj_k1 33 rfl rfl
theorem kw_3 : (Jvm.Cond.initialized "SlopeJudge$Slip") ∈ sj_kw := sj_k1 3 rfl rfl
theorem kw_34 : (Jvm.Cond.methodLinkNest "SlopeJudge$Ground" (47 : Nat) ({ cls := "SlopeJudge$Slip", name := "<init>", desc := "()V" } : Jvm.MethodName) "SlopeJudge") ∈ sj_nest := sj_n1 34 rfl rfl
theorem kw_36 : (Jvm.Cond.code ({ cls := "SlopeJudge$Slip", name := "<init>", desc := "()V" } : Jvm.MethodName) prog_7_method_1_code (1 : Nat) (Option.none : Option Jvm.ClassFile.FieldType)) ∈ sj_kw := sj_k1 36 rfl rfl
theorem kw_35 : (Jvm.Cond.instanceMethod ({ cls := "SlopeJudge$Slip", name := "<init>", desc := "()V" } : Jvm.MethodName)) ∈ sj_kw := sj_k1 35 rfl rfl
theorem kw_119 : (Jvm.Cond.fieldLink "SlopeJudge$Ground" (48 : Nat) "SlopeJudge$Ground" "slip" "LSlopeJudge$Slip;") ∈ sj_kw := sj_k1 119 rfl rfl
theorem kw_63 : (Jvm.Cond.fieldLink "SlopeJudge$Ground" (52 : Nat) "SlopeJudge$Ground" "n" "I") ∈ sj_kw := sj_k1 63 rfl rfl
theorem kw_69 : (Jvm.Cond.fieldLink "SlopeJudge$Ground" (56 : Nat) "SlopeJudge$Ground" "b" "I") ∈ sj_kw := sj_k1 69 rfl rfl
theorem kw_73 : (Jvm.Cond.fieldLink "SlopeJudge$Ground" (59 : Nat) "SlopeJudge$Ground" "quake" "I") ∈ sj_kw := sj_k1 73 rfl rfl
theorem kw_320 : (Jvm.Cond.methodLink "SlopeJudge$Ground" (62 : Nat) ({ cls := "java/util/Arrays", name := "fill", desc := "([II)V" } : Jvm.MethodName)) ∈ sj_kw := sj_k2 80 rfl rfl
theorem kw_322 : (Jvm.Cond.code ({ cls := "java/util/Arrays", name := "fill", desc := "([II)V" } : Jvm.MethodName) prog_17_method_103_code (4 : Nat) (Option.none : Option Jvm.ClassFile.FieldType)) ∈ sj_kw := sj_k2 82 rfl rfl
theorem kw_9 : (Jvm.Cond.initialized "java/util/Arrays") ∈ sj_kw := sj_k1 9 rfl rfl
theorem kw_321 : (Jvm.Cond.static ({ cls := "java/util/Arrays", name := "fill", desc := "([II)V" } : Jvm.MethodName)) ∈ sj_kw := sj_k2 81 rfl rfl
theorem kw_323 : (Jvm.Cond.methodLinkNest "SlopeJudge$Ground" (68 : Nat) ({ cls := "SlopeJudge$Slip", name := "drop", desc := "()V" } : Jvm.MethodName) "SlopeJudge") ∈ sj_nest := sj_n2 83 rfl rfl
theorem kw_326 : (Jvm.Cond.code ({ cls := "SlopeJudge$Slip", name := "drop", desc := "()V" } : Jvm.MethodName) prog_7_method_3_code (1 : Nat) (Option.none : Option Jvm.ClassFile.FieldType)) ∈ sj_kw := sj_k2 86 rfl rfl
theorem ks_1 : (Cond.selects "SlopeJudge$Slip" ({ cls := "SlopeJudge$Slip", name := "drop", desc := "()V" } : MethodName) ({ cls := "SlopeJudge$Slip", name := "drop", desc := "()V" } : MethodName)) ∈ sj_kw := sj_ks 1 rfl rfl
theorem kw_325 : (Jvm.Cond.instanceMethod ({ cls := "SlopeJudge$Slip", name := "drop", desc := "()V" } : Jvm.MethodName)) ∈ sj_kw := sj_k2 85 rfl rfl
theorem kw_392 : (Jvm.Cond.methodLink "SlopeJudge$Slip" (22 : Nat) ({ cls := "java/lang/System", name := "arraycopy", desc := "(Ljava/lang/Object;ILjava/lang/Object;II)V" } : Jvm.MethodName)) ∈ sj_kw := sj_k2 152 rfl rfl
theorem kw_387 : (Jvm.Cond.native ({ cls := "java/lang/System", name := "arraycopy", desc := "(Ljava/lang/Object;ILjava/lang/Object;II)V" } : Jvm.MethodName)) ∈ sj_kw := sj_k2 147 rfl rfl
theorem kw_386 : (Jvm.Cond.static ({ cls := "java/lang/System", name := "arraycopy", desc := "(Ljava/lang/Object;ILjava/lang/Object;II)V" } : Jvm.MethodName)) ∈ sj_kw := sj_k2 146 rfl rfl
theorem kw_11 : (Jvm.Cond.initialized "java/lang/System") ∈ sj_kw := sj_k1 11 rfl rfl
theorem kw_50 : (Jvm.Cond.fieldLink "SlopeJudge$Slip" (28 : Nat) "SlopeJudge$Slip" "left" "Z") ∈ sj_kw := sj_k1 50 rfl rfl
theorem kw_385 : (Jvm.Cond.methodLink "SlopeJudge$Ground" (71 : Nat) ({ cls := "java/lang/System", name := "arraycopy", desc := "(Ljava/lang/Object;ILjava/lang/Object;II)V" } : Jvm.MethodName)) ∈ sj_kw := sj_k2 145 rfl rfl
theorem kw_388 : (Jvm.Cond.methodLinkNest "SlopeJudge$Ground" (77 : Nat) ({ cls := "SlopeJudge$Slip", name := "copy", desc := "(LSlopeJudge$Slip;)V" } : Jvm.MethodName) "SlopeJudge") ∈ sj_nest := sj_n2 148 rfl rfl
theorem kw_391 : (Jvm.Cond.code ({ cls := "SlopeJudge$Slip", name := "copy", desc := "(LSlopeJudge$Slip;)V" } : Jvm.MethodName) prog_7_method_5_code (2 : Nat) (Option.none : Option Jvm.ClassFile.FieldType)) ∈ sj_kw := sj_k2 151 rfl rfl
theorem ks_4 : (Cond.selects "SlopeJudge$Slip" ({ cls := "SlopeJudge$Slip", name := "copy", desc := "(LSlopeJudge$Slip;)V" } : MethodName) ({ cls := "SlopeJudge$Slip", name := "copy", desc := "(LSlopeJudge$Slip;)V" } : MethodName)) ∈ sj_kw := sj_ks 4 rfl rfl
theorem kw_390 : (Jvm.Cond.instanceMethod ({ cls := "SlopeJudge$Slip", name := "copy", desc := "(LSlopeJudge$Slip;)V" } : Jvm.MethodName)) ∈ sj_kw := sj_k2 150 rfl rfl
theorem kw_417 : (Jvm.Cond.methodLink "SlopeJudge$Ground" (81 : Nat) ({ cls := "SlopeJudge$Ground", name := "hasColumn", desc := "(I)Z" } : Jvm.MethodName)) ∈ sj_kw := sj_k2 177 rfl rfl
theorem kw_400 : (Jvm.Cond.code ({ cls := "SlopeJudge$Ground", name := "hasColumn", desc := "(I)Z" } : Jvm.MethodName) prog_2_method_4_code (2 : Nat) (Option.some Jvm.ClassFile.FieldType.boolean)) ∈ sj_kw := sj_k2 160 rfl rfl
theorem kw_2 : (Jvm.Cond.initialized "SlopeJudge$Ground") ∈ sj_kw := sj_k1 2 rfl rfl
theorem ks_5 : (Cond.selects "SlopeJudge$Ground" ({ cls := "SlopeJudge$Ground", name := "hasColumn", desc := "(I)Z" } : MethodName) ({ cls := "SlopeJudge$Ground", name := "hasColumn", desc := "(I)Z" } : MethodName)) ∈ sj_kw := sj_ks 5 rfl rfl
theorem kw_399 : (Jvm.Cond.instanceMethod ({ cls := "SlopeJudge$Ground", name := "hasColumn", desc := "(I)Z" } : Jvm.MethodName)) ∈ sj_kw := sj_k2 159 rfl rfl
theorem kw_418 : (Jvm.Cond.constantLong "SlopeJudge$Ground" (85 : Nat) (100 : Int64)) ∈ sj_kw := sj_k2 178 rfl rfl
theorem kw_718 : (Jvm.Cond.methodLink "SlopeJudge$Ground" (87 : Nat) ({ cls := "java/lang/Math", name := "min", desc := "(II)I" } : Jvm.MethodName)) ∈ sj_kw := sj_k3 238 rfl rfl
theorem kw_530 : (Jvm.Cond.static ({ cls := "java/lang/Math", name := "min", desc := "(II)I" } : Jvm.MethodName)) ∈ sj_kw := sj_k3 50 rfl rfl
theorem kw_16 : (Jvm.Cond.initialized "java/lang/Math") ∈ sj_kw := sj_k1 16 rfl rfl
theorem kw_531 : (Jvm.Cond.code ({ cls := "java/lang/Math", name := "min", desc := "(II)I" } : Jvm.MethodName) prog_12_method_69_code (2 : Nat) (Option.some Jvm.ClassFile.FieldType.int)) ∈ sj_kw := sj_k3 51 rfl rfl
theorem kw_717 : (Jvm.Cond.methodLinkNest "SlopeJudge$Ground" (93 : Nat) ({ cls := "SlopeJudge", name := "topPlace", desc := "(II)I" } : Jvm.MethodName) "SlopeJudge") ∈ sj_nest := sj_n3 237 rfl rfl
theorem kw_408 : (Jvm.Cond.code ({ cls := "SlopeJudge", name := "topPlace", desc := "(II)I" } : Jvm.MethodName) prog_1_method_53_code (2 : Nat) (Option.some Jvm.ClassFile.FieldType.int)) ∈ sj_kw := sj_k2 168 rfl rfl
theorem kw_1 : (Jvm.Cond.initialized "SlopeJudge") ∈ sj_kw := sj_k1 1 rfl rfl
theorem kw_407 : (Jvm.Cond.static ({ cls := "SlopeJudge", name := "topPlace", desc := "(II)I" } : Jvm.MethodName)) ∈ sj_kw := sj_k2 167 rfl rfl
theorem kw_719 : (Jvm.Cond.methodLink "SlopeJudge$Ground" (96 : Nat) ({ cls := "java/lang/Math", name := "max", desc := "(II)I" } : Jvm.MethodName)) ∈ sj_kw := sj_k3 239 rfl rfl
theorem kw_610 : (Jvm.Cond.static ({ cls := "java/lang/Math", name := "max", desc := "(II)I" } : Jvm.MethodName)) ∈ sj_kw := sj_k3 130 rfl rfl
theorem kw_611 : (Jvm.Cond.code ({ cls := "java/lang/Math", name := "max", desc := "(II)I" } : Jvm.MethodName) prog_12_method_65_code (2 : Nat) (Option.some Jvm.ClassFile.FieldType.int)) ∈ sj_kw := sj_k3 131 rfl rfl
theorem kw_860 : (Jvm.Cond.methodLink "SlopeJudge$Ground" (99 : Nat) ({ cls := "SlopeJudge$Ground", name := "topAt", desc := "(II)I" } : Jvm.MethodName)) ∈ sj_kw := sj_k4 140 rfl rfl
theorem kw_732 : (Jvm.Cond.code ({ cls := "SlopeJudge$Ground", name := "topAt", desc := "(II)I" } : Jvm.MethodName) prog_2_method_8_code (5 : Nat) (Option.some Jvm.ClassFile.FieldType.int)) ∈ sj_kw := sj_k4 12 rfl rfl
theorem ks_40 : (Cond.selects "SlopeJudge$Ground" ({ cls := "SlopeJudge$Ground", name := "topAt", desc := "(II)I" } : MethodName) ({ cls := "SlopeJudge$Ground", name := "topAt", desc := "(II)I" } : MethodName)) ∈ sj_kw := sj_ks 40 rfl rfl
theorem kw_731 : (Jvm.Cond.instanceMethod ({ cls := "SlopeJudge$Ground", name := "topAt", desc := "(II)I" } : Jvm.MethodName)) ∈ sj_kw := sj_k4 11 rfl rfl
theorem kw_778 : (Jvm.Cond.methodLinkNest "SlopeJudge$Ground" (102 : Nat) ({ cls := "SlopeJudge$Slip", name := "isNone", desc := "()Z" } : Jvm.MethodName) "SlopeJudge") ∈ sj_nest := sj_n4 58 rfl rfl
theorem kw_765 : (Jvm.Cond.code ({ cls := "SlopeJudge$Slip", name := "isNone", desc := "()Z" } : Jvm.MethodName) prog_7_method_2_code (1 : Nat) (Option.some Jvm.ClassFile.FieldType.boolean)) ∈ sj_kw := sj_k4 45 rfl rfl
theorem ks_47 : (Cond.selects "SlopeJudge$Slip" ({ cls := "SlopeJudge$Slip", name := "isNone", desc := "()Z" } : MethodName) ({ cls := "SlopeJudge$Slip", name := "isNone", desc := "()Z" } : MethodName)) ∈ sj_kw := sj_ks 47 rfl rfl
theorem kw_764 : (Jvm.Cond.instanceMethod ({ cls := "SlopeJudge$Slip", name := "isNone", desc := "()Z" } : Jvm.MethodName)) ∈ sj_kw := sj_k4 44 rfl rfl
theorem kw_44 : (Jvm.Cond.fieldLinkNest "SlopeJudge$Ground" (106 : Nat) "SlopeJudge$Slip" "from" "I" "SlopeJudge") ∈ sj_nest := sj_n1 44 rfl rfl
theorem kw_47 : (Jvm.Cond.fieldLinkNest "SlopeJudge$Ground" (109 : Nat) "SlopeJudge$Slip" "to" "I" "SlopeJudge") ∈ sj_nest := sj_n1 47 rfl rfl
theorem kw_41 : (Jvm.Cond.fieldLinkNest "SlopeJudge$Ground" (112 : Nat) "SlopeJudge$Slip" "base" "[I" "SlopeJudge") ∈ sj_nest := sj_n1 41 rfl rfl
theorem kw_851 : (Jvm.Cond.methodLink "SlopeJudge$Ground" (115 : Nat) ({ cls := "SlopeJudge$Ground", name := "anchorCounts", desc := "(ILSlopeJudge$Slip;)Z" } : Jvm.MethodName)) ∈ sj_kw := sj_k4 131 rfl rfl
theorem kw_817 : (Jvm.Cond.code ({ cls := "SlopeJudge$Ground", name := "anchorCounts", desc := "(ILSlopeJudge$Slip;)Z" } : Jvm.MethodName) prog_2_method_12_code (4 : Nat) (Option.some Jvm.ClassFile.FieldType.boolean)) ∈ sj_kw := sj_k4 97 rfl rfl
theorem ks_53 : (Cond.selects "SlopeJudge$Ground" ({ cls := "SlopeJudge$Ground", name := "anchorCounts", desc := "(ILSlopeJudge$Slip;)Z" } : MethodName) ({ cls := "SlopeJudge$Ground", name := "anchorCounts", desc := "(ILSlopeJudge$Slip;)Z" } : MethodName)) ∈ sj_kw := sj_ks 53 rfl rfl
theorem kw_816 : (Jvm.Cond.instanceMethod ({ cls := "SlopeJudge$Ground", name := "anchorCounts", desc := "(ILSlopeJudge$Slip;)Z" } : Jvm.MethodName)) ∈ sj_kw := sj_k4 96 rfl rfl
theorem kw_852 : (Jvm.Cond.constantLong "SlopeJudge$Ground" (119 : Nat) (2000 : Int64)) ∈ sj_kw := sj_k4 132 rfl rfl
theorem kw_972 : (Jvm.Cond.methodLink "SlopeJudge$Ground" (121 : Nat) ({ cls := "SlopeJudge$Ground", name := "thickAt", desc := "(I)I" } : Jvm.MethodName)) ∈ sj_kw := sj_k5 12 rfl rfl
theorem kw_975 : (Jvm.Cond.code ({ cls := "SlopeJudge$Ground", name := "thickAt", desc := "(I)I" } : Jvm.MethodName) prog_2_method_17_code (2 : Nat) (Option.some Jvm.ClassFile.FieldType.int)) ∈ sj_kw := sj_k5 15 rfl rfl
theorem ks_75 : (Cond.selects "SlopeJudge$Ground" ({ cls := "SlopeJudge$Ground", name := "thickAt", desc := "(I)I" } : MethodName) ({ cls := "SlopeJudge$Ground", name := "thickAt", desc := "(I)I" } : MethodName)) ∈ sj_kw := sj_ks 75 rfl rfl
theorem kw_974 : (Jvm.Cond.instanceMethod ({ cls := "SlopeJudge$Ground", name := "thickAt", desc := "(I)I" } : Jvm.MethodName)) ∈ sj_kw := sj_k5 14 rfl rfl
theorem kw_774 : (Jvm.Cond.methodLink "SlopeJudge$Ground" (125 : Nat) ({ cls := "SlopeJudge$Ground", name := "turnRow", desc := "([II)V" } : Jvm.MethodName)) ∈ sj_kw := sj_k4 54 rfl rfl
theorem kw_777 : (Jvm.Cond.code ({ cls := "SlopeJudge$Ground", name := "turnRow", desc := "([II)V" } : Jvm.MethodName) prog_2_method_23_code (5 : Nat) (Option.none : Option Jvm.ClassFile.FieldType)) ∈ sj_kw := sj_k4 57 rfl rfl
theorem ks_49 : (Cond.selects "SlopeJudge$Ground" ({ cls := "SlopeJudge$Ground", name := "turnRow", desc := "([II)V" } : MethodName) ({ cls := "SlopeJudge$Ground", name := "turnRow", desc := "([II)V" } : MethodName)) ∈ sj_kw := sj_ks 49 rfl rfl
theorem kw_776 : (Jvm.Cond.instanceMethod ({ cls := "SlopeJudge$Ground", name := "turnRow", desc := "([II)V" } : Jvm.MethodName)) ∈ sj_kw := sj_k4 56 rfl rfl
theorem kw_51 : (Jvm.Cond.fieldLinkNest "SlopeJudge$Ground" (128 : Nat) "SlopeJudge$Slip" "left" "Z" "SlopeJudge") ∈ sj_nest := sj_n1 51 rfl rfl
theorem kw_157 : (Jvm.Cond.methodLink "SlopeJudge$Held" (3 : Nat) ({ cls := "java/lang/Object", name := "<init>", desc := "()V" } : Jvm.MethodName)) ∈ sj_kw := sj_k1 157 rfl rfl
theorem kw_158 : (Jvm.Cond.fieldLink "SlopeJudge$Held" (9 : Nat) "SlopeJudge$Held" "pointColumn" "[I") ∈ sj_kw := sj_k1 158 rfl rfl
theorem kw_161 : (Jvm.Cond.fieldLink "SlopeJudge$Held" (15 : Nat) "SlopeJudge$Held" "pointHeight" "[I") ∈ sj_kw := sj_k1 161 rfl rfl
theorem kw_791 : (Jvm.Cond.methodLink "SlopeJudge$Held" (18 : Nat) ({ cls := "java/lang/System", name := "arraycopy", desc := "(Ljava/lang/Object;ILjava/lang/Object;II)V" } : Jvm.MethodName)) ∈ sj_kw := sj_k4 71 rfl rfl
theorem kw_164 : (Jvm.Cond.fieldLink "SlopeJudge$Held" (24 : Nat) "SlopeJudge$Held" "points" "I") ∈ sj_kw := sj_k1 164 rfl rfl
theorem kw_167 : (Jvm.Cond.fieldLink "SlopeJudge$Held" (28 : Nat) "SlopeJudge$Held" "state" "I") ∈ sj_kw := sj_k1 167 rfl rfl
theorem kw_1073 : (Jvm.Cond.constant "SlopeJudge$Held" (31 : Nat) (1664525 : Int32)) ∈ sj_kw := sj_k5 113 rfl rfl
theorem kw_1074 : (Jvm.Cond.constant "SlopeJudge$Held" (32 : Nat) (1013904223 : Int32)) ∈ sj_kw := sj_k5 114 rfl rfl
theorem kw_183 : (Jvm.Cond.methodLink "SlopeJudge$Report" (3 : Nat) ({ cls := "java/lang/Object", name := "<init>", desc := "()V" } : Jvm.MethodName)) ∈ sj_kw := sj_k1 183 rfl rfl
theorem kw_184 : (Jvm.Cond.fieldLink "SlopeJudge$Report" (9 : Nat) "SlopeJudge$Report" "signs" "[I") ∈ sj_kw := sj_k1 184 rfl rfl
theorem kw_186 : (Jvm.Cond.fieldLink "SlopeJudge$Report" (15 : Nat) "SlopeJudge$Report" "length" "I") ∈ sj_kw := sj_k1 186 rfl rfl
theorem kw_1087 : (Jvm.Cond.methodLink "SlopeJudge$Report" (23 : Nat) ({ cls := "SlopeJudge$Report", name := "write", desc := "(I)V" } : Jvm.MethodName)) ∈ sj_kw := sj_k5 127 rfl rfl
theorem kw_1090 : (Jvm.Cond.code ({ cls := "SlopeJudge$Report", name := "write", desc := "(I)V" } : Jvm.MethodName) prog_4_method_2_code (2 : Nat) (Option.none : Option Jvm.ClassFile.FieldType)) ∈ sj_kw := sj_k5 130 rfl rfl
theorem kw_5 : (Jvm.Cond.initialized "SlopeJudge$Report") ∈ sj_kw := sj_k1 5 rfl rfl
theorem ks_88 : (Cond.selects "SlopeJudge$Report" ({ cls := "SlopeJudge$Report", name := "write", desc := "(I)V" } : MethodName) ({ cls := "SlopeJudge$Report", name := "write", desc := "(I)V" } : MethodName)) ∈ sj_kw := sj_ks 88 rfl rfl
theorem kw_1089 : (Jvm.Cond.instanceMethod ({ cls := "SlopeJudge$Report", name := "write", desc := "(I)V" } : Jvm.MethodName)) ∈ sj_kw := sj_k5 129 rfl rfl
theorem kw_1083 : (Jvm.Cond.methodLink "SlopeJudge$Report" (19 : Nat) ({ cls := "SlopeJudge$Report", name := "writeNumbe\x72", desc := "(I)V" } : Jvm.MethodName)) ∈ sj_kw := sj_k5 123 rfl rfl
theorem kw_1086 : (Jvm.Cond.code ({ cls := "SlopeJudge$Report", name := "writeNumbe\x72", desc := "(I)V" } : Jvm.MethodName) prog_4_method_4_code (2 : Nat) (Option.none : Option Jvm.ClassFile.FieldType)) ∈ sj_kw := sj_k5 126 rfl rfl
theorem ks_87 : (Cond.selects "SlopeJudge$Report" ({ cls := "SlopeJudge$Report", name := "writeNumbe\x72", desc := "(I)V" } : MethodName) ({ cls := "SlopeJudge$Report", name := "writeNumbe\x72", desc := "(I)V" } : MethodName)) ∈ sj_kw := sj_ks 87 rfl rfl
theorem kw_1085 : (Jvm.Cond.instanceMethod ({ cls := "SlopeJudge$Report", name := "writeNumbe\x72", desc := "(I)V" } : Jvm.MethodName)) ∈ sj_kw := sj_k5 125 rfl rfl
theorem kw_233 : (Jvm.Cond.methodLink "SlopeJudge$Slices" (3 : Nat) ({ cls := "java/lang/Object", name := "<init>", desc := "()V" } : Jvm.MethodName)) ∈ sj_kw := sj_k1 233 rfl rfl
theorem kw_234 : (Jvm.Cond.fieldLink "SlopeJudge$Slices" (9 : Nat) "SlopeJudge$Slices" "rise" "[I") ∈ sj_kw := sj_k1 234 rfl rfl
theorem kw_236 : (Jvm.Cond.fieldLink "SlopeJudge$Slices" (15 : Nat) "SlopeJudge$Slices" "weight" "[I") ∈ sj_kw := sj_k1 236 rfl rfl
theorem kw_238 : (Jvm.Cond.fieldLink "SlopeJudge$Slices" (18 : Nat) "SlopeJudge$Slices" "lift" "[I") ∈ sj_kw := sj_k1 238 rfl rfl
theorem kw_240 : (Jvm.Cond.fieldLink "SlopeJudge$Slices" (21 : Nat) "SlopeJudge$Slices" "layerOf" "[I") ∈ sj_kw := sj_k2 0 rfl rfl
theorem kw_276 : (Jvm.Cond.arrayClass Jvm.ClassFile.FieldType.long) ∈ sj_kw := sj_k2 36 rfl rfl
theorem kw_242 : (Jvm.Cond.fieldLink "SlopeJudge$Slices" (24 : Nat) "SlopeJudge$Slices" "strength" "[J") ∈ sj_kw := sj_k2 2 rfl rfl
theorem kw_244 : (Jvm.Cond.fieldLink "SlopeJudge$Slices" (28 : Nat) "SlopeJudge$Slices" "push" "[J") ∈ sj_kw := sj_k2 4 rfl rfl
theorem kw_246 : (Jvm.Cond.fieldLink "SlopeJudge$Slices" (31 : Nat) "SlopeJudge$Slices" "grip" "[J") ∈ sj_kw := sj_k2 6 rfl rfl
theorem kw_247 : (Jvm.Cond.fieldLink "SlopeJudge$Slices" (34 : Nat) "SlopeJudge$Slices" "lean" "[J") ∈ sj_kw := sj_k2 7 rfl rfl
theorem kw_282 : (Jvm.Cond.methodLink "SlopeJudge$Seeke\x72" (3 : Nat) ({ cls := "java/lang/Object", name := "<init>", desc := "()V" } : Jvm.MethodName)) ∈ sj_kw := sj_k2 42 rfl rfl
theorem kw_283 : (Jvm.Cond.classLink "SlopeJudge$Seeke\x72" (9 : Nat) "SlopeJudge$Slip") ∈ sj_kw := sj_k2 43 rfl rfl
theorem kw_284 : (Jvm.Cond.methodLinkNest "SlopeJudge$Seeke\x72" (11 : Nat) ({ cls := "SlopeJudge$Slip", name := "<init>", desc := "()V" } : Jvm.MethodName) "SlopeJudge") ∈ sj_nest := sj_n2 44 rfl rfl
theorem kw_287 : (Jvm.Cond.fieldLink "SlopeJudge$Seeke\x72" (12 : Nat) "SlopeJudge$Seeke\x72" "trial" "LSlopeJudge$Slip;") ∈ sj_kw := sj_k2 47 rfl rfl
theorem kw_285 : (Jvm.Cond.classLink "SlopeJudge$Seeke\x72" (18 : Nat) "SlopeJudge$Slices") ∈ sj_kw := sj_k2 45 rfl rfl
theorem kw_229 : (Jvm.Cond.instantiable "SlopeJudge$Slices" (11 : Nat)) ∈ sj_kw := sj_k1 229 rfl rfl
theorem kw_7 : (Jvm.Cond.initialized "SlopeJudge$Slices") ∈ sj_kw := sj_k1 7 rfl rfl
theorem kw_286 : (Jvm.Cond.methodLinkNest "SlopeJudge$Seeke\x72" (20 : Nat) ({ cls := "SlopeJudge$Slices", name := "<init>", desc := "()V" } : Jvm.MethodName) "SlopeJudge") ∈ sj_nest := sj_n2 46 rfl rfl
theorem kw_232 : (Jvm.Cond.code ({ cls := "SlopeJudge$Slices", name := "<init>", desc := "()V" } : Jvm.MethodName) prog_6_method_1_code (1 : Nat) (Option.none : Option Jvm.ClassFile.FieldType)) ∈ sj_kw := sj_k1 232 rfl rfl
theorem kw_231 : (Jvm.Cond.instanceMethod ({ cls := "SlopeJudge$Slices", name := "<init>", desc := "()V" } : Jvm.MethodName)) ∈ sj_kw := sj_k1 231 rfl rfl
theorem kw_288 : (Jvm.Cond.fieldLink "SlopeJudge$Seeke\x72" (21 : Nat) "SlopeJudge$Seeke\x72" "slices" "LSlopeJudge$Slices;") ∈ sj_kw := sj_k2 48 rfl rfl
theorem kw_81 : (Jvm.Cond.fieldLinkNest "SlopeJudge$Slip" (45 : Nat) "SlopeJudge$Ground" "ground" "[I" "SlopeJudge") ∈ sj_nest := sj_n1 81 rfl rfl
theorem kw_65 : (Jvm.Cond.fieldLinkNest "SlopeJudge$Slip" (50 : Nat) "SlopeJudge$Ground" "n" "I" "SlopeJudge") ∈ sj_nest := sj_n1 65 rfl rfl
theorem kw_612 : (Jvm.Cond.methodLink "SlopeJudge$Slip" (63 : Nat) ({ cls := "SlopeJudge$Slip", name := "span", desc := "(LSlopeJudge$Ground;IIZ)V" } : Jvm.MethodName)) ∈ sj_kw := sj_k3 132 rfl rfl
theorem kw_615 : (Jvm.Cond.code ({ cls := "SlopeJudge$Slip", name := "span", desc := "(LSlopeJudge$Ground;IIZ)V" } : Jvm.MethodName) prog_7_method_8_code (5 : Nat) (Option.none : Option Jvm.ClassFile.FieldType)) ∈ sj_kw := sj_k3 135 rfl rfl
theorem ks_30 : (Cond.selects "SlopeJudge$Slip" ({ cls := "SlopeJudge$Slip", name := "span", desc := "(LSlopeJudge$Ground;IIZ)V" } : MethodName) ({ cls := "SlopeJudge$Slip", name := "span", desc := "(LSlopeJudge$Ground;IIZ)V" } : MethodName)) ∈ sj_kw := sj_ks 30 rfl rfl
theorem kw_614 : (Jvm.Cond.instanceMethod ({ cls := "SlopeJudge$Slip", name := "span", desc := "(LSlopeJudge$Ground;IIZ)V" } : Jvm.MethodName)) ∈ sj_kw := sj_k3 134 rfl rfl
theorem kw_70 : (Jvm.Cond.fieldLinkNest "SlopeJudge$Slip" (53 : Nat) "SlopeJudge$Ground" "b" "I" "SlopeJudge") ∈ sj_nest := sj_n1 70 rfl rfl
theorem kw_606 : (Jvm.Cond.methodLinkNest "SlopeJudge$Slip" (56 : Nat) ({ cls := "SlopeJudge", name := "rootOf", desc := "(I)I" } : Jvm.MethodName) "SlopeJudge") ∈ sj_nest := sj_n3 126 rfl rfl
theorem kw_608 : (Jvm.Cond.code ({ cls := "SlopeJudge", name := "rootOf", desc := "(I)I" } : Jvm.MethodName) prog_1_method_54_code (4 : Nat) (Option.some Jvm.ClassFile.FieldType.int)) ∈ sj_kw := sj_k3 128 rfl rfl
theorem kw_607 : (Jvm.Cond.static ({ cls := "SlopeJudge", name := "rootOf", desc := "(I)I" } : Jvm.MethodName)) ∈ sj_kw := sj_k3 127 rfl rfl
theorem kw_86 : (Jvm.Cond.fieldLinkNest "SlopeJudge$Slip" (60 : Nat) "SlopeJudge$Ground" "rock" "[I" "SlopeJudge") ∈ sj_nest := sj_n1 86 rfl rfl
theorem kw_609 : (Jvm.Cond.methodLink "SlopeJudge$Slip" (36 : Nat) ({ cls := "java/lang/Math", name := "max", desc := "(II)I" } : Jvm.MethodName)) ∈ sj_kw := sj_k3 129 rfl rfl
theorem kw_250 : (Jvm.Cond.fieldLink "SlopeJudge$Slices" (43 : Nat) "SlopeJudge$Slices" "b" "I") ∈ sj_kw := sj_k2 10 rfl rfl
theorem kw_856 : (Jvm.Cond.methodLinkNest "SlopeJudge$Slices" (81 : Nat) ({ cls := "SlopeJudge$Ground", name := "layerUnde\x72", desc := "(II)I" } : Jvm.MethodName) "SlopeJudge") ∈ sj_nest := sj_n4 136 rfl rfl
theorem kw_859 : (Jvm.Cond.code ({ cls := "SlopeJudge$Ground", name := "layerUnde\x72", desc := "(II)I" } : Jvm.MethodName) prog_2_method_11_code (4 : Nat) (Option.some Jvm.ClassFile.FieldType.int)) ∈ sj_kw := sj_k4 139 rfl rfl
theorem ks_60 : (Cond.selects "SlopeJudge$Ground" ({ cls := "SlopeJudge$Ground", name := "layerUnde\x72", desc := "(II)I" } : MethodName) ({ cls := "SlopeJudge$Ground", name := "layerUnde\x72", desc := "(II)I" } : MethodName)) ∈ sj_kw := sj_ks 60 rfl rfl
theorem kw_858 : (Jvm.Cond.instanceMethod ({ cls := "SlopeJudge$Ground", name := "layerUnde\x72", desc := "(II)I" } : Jvm.MethodName)) ∈ sj_kw := sj_k4 138 rfl rfl
theorem kw_248 : (Jvm.Cond.fieldLink "SlopeJudge$Slices" (50 : Nat) "SlopeJudge$Slices" "count" "I") ∈ sj_kw := sj_k2 8 rfl rfl
theorem kw_43 : (Jvm.Cond.fieldLinkNest "SlopeJudge$Slices" (64 : Nat) "SlopeJudge$Slip" "from" "I" "SlopeJudge") ∈ sj_nest := sj_n1 43 rfl rfl
theorem kw_39 : (Jvm.Cond.fieldLinkNest "SlopeJudge$Slices" (67 : Nat) "SlopeJudge$Slip" "base" "[I" "SlopeJudge") ∈ sj_nest := sj_n1 39 rfl rfl
theorem kw_854 : (Jvm.Cond.methodLinkNest "SlopeJudge$Slices" (70 : Nat) ({ cls := "SlopeJudge$Ground", name := "weightOn", desc := "(II)I" } : Jvm.MethodName) "SlopeJudge") ∈ sj_nest := sj_n4 134 rfl rfl
theorem kw_716 : (Jvm.Cond.code ({ cls := "SlopeJudge$Ground", name := "weightOn", desc := "(II)I" } : Jvm.MethodName) prog_2_method_9_code (7 : Nat) (Option.some Jvm.ClassFile.FieldType.int)) ∈ sj_kw := sj_k3 236 rfl rfl
theorem ks_37 : (Cond.selects "SlopeJudge$Ground" ({ cls := "SlopeJudge$Ground", name := "weightOn", desc := "(II)I" } : MethodName) ({ cls := "SlopeJudge$Ground", name := "weightOn", desc := "(II)I" } : MethodName)) ∈ sj_kw := sj_ks 37 rfl rfl
theorem kw_715 : (Jvm.Cond.instanceMethod ({ cls := "SlopeJudge$Ground", name := "weightOn", desc := "(II)I" } : Jvm.MethodName)) ∈ sj_kw := sj_k3 235 rfl rfl
theorem kw_855 : (Jvm.Cond.methodLinkNest "SlopeJudge$Slices" (74 : Nat) ({ cls := "SlopeJudge$Ground", name := "headOn", desc := "(II)I" } : Jvm.MethodName) "SlopeJudge") ∈ sj_nest := sj_n4 135 rfl rfl
theorem kw_746 : (Jvm.Cond.code ({ cls := "SlopeJudge$Ground", name := "headOn", desc := "(II)I" } : Jvm.MethodName) prog_2_method_10_code (3 : Nat) (Option.some Jvm.ClassFile.FieldType.int)) ∈ sj_kw := sj_k4 26 rfl rfl
theorem ks_43 : (Cond.selects "SlopeJudge$Ground" ({ cls := "SlopeJudge$Ground", name := "headOn", desc := "(II)I" } : MethodName) ({ cls := "SlopeJudge$Ground", name := "headOn", desc := "(II)I" } : MethodName)) ∈ sj_kw := sj_ks 43 rfl rfl
theorem kw_745 : (Jvm.Cond.instanceMethod ({ cls := "SlopeJudge$Ground", name := "headOn", desc := "(II)I" } : Jvm.MethodName)) ∈ sj_kw := sj_k4 25 rfl rfl
theorem kw_49 : (Jvm.Cond.fieldLinkNest "SlopeJudge$Slices" (77 : Nat) "SlopeJudge$Slip" "left" "Z" "SlopeJudge") ∈ sj_nest := sj_n1 49 rfl rfl
theorem kw_68 : (Jvm.Cond.fieldLinkNest "SlopeJudge$Slices" (37 : Nat) "SlopeJudge$Ground" "b" "I" "SlopeJudge") ∈ sj_nest := sj_n1 68 rfl rfl
theorem kw_846 : (Jvm.Cond.methodLinkNest "SlopeJudge$Slices" (44 : Nat) ({ cls := "SlopeJudge$Slip", name := "count", desc := "()I" } : Jvm.MethodName) "SlopeJudge") ∈ sj_nest := sj_n4 126 rfl rfl
theorem kw_624 : (Jvm.Cond.code ({ cls := "SlopeJudge$Slip", name := "count", desc := "()I" } : Jvm.MethodName) prog_7_method_4_code (1 : Nat) (Option.some Jvm.ClassFile.FieldType.int)) ∈ sj_kw := sj_k3 144 rfl rfl
theorem ks_32 : (Cond.selects "SlopeJudge$Slip" ({ cls := "SlopeJudge$Slip", name := "count", desc := "()I" } : MethodName) ({ cls := "SlopeJudge$Slip", name := "count", desc := "()I" } : MethodName)) ∈ sj_kw := sj_ks 32 rfl rfl
theorem kw_623 : (Jvm.Cond.instanceMethod ({ cls := "SlopeJudge$Slip", name := "count", desc := "()I" } : Jvm.MethodName)) ∈ sj_kw := sj_k3 143 rfl rfl
theorem kw_847 : (Jvm.Cond.methodLinkNest "SlopeJudge$Slices" (52 : Nat) ({ cls := "SlopeJudge$Ground", name := "pullsOn", desc := "(LSlopeJudge$Slip;)J" } : Jvm.MethodName) "SlopeJudge") ∈ sj_nest := sj_n4 127 rfl rfl
theorem kw_850 : (Jvm.Cond.code ({ cls := "SlopeJudge$Ground", name := "pullsOn", desc := "(LSlopeJudge$Slip;)J" } : Jvm.MethodName) prog_2_method_13_code (5 : Nat) (Option.some Jvm.ClassFile.FieldType.long)) ∈ sj_kw := sj_k4 130 rfl rfl
theorem ks_59 : (Cond.selects "SlopeJudge$Ground" ({ cls := "SlopeJudge$Ground", name := "pullsOn", desc := "(LSlopeJudge$Slip;)J" } : MethodName) ({ cls := "SlopeJudge$Ground", name := "pullsOn", desc := "(LSlopeJudge$Slip;)J" } : MethodName)) ∈ sj_kw := sj_ks 59 rfl rfl
theorem kw_849 : (Jvm.Cond.instanceMethod ({ cls := "SlopeJudge$Ground", name := "pullsOn", desc := "(LSlopeJudge$Slip;)J" } : Jvm.MethodName)) ∈ sj_kw := sj_k4 129 rfl rfl
theorem kw_251 : (Jvm.Cond.fieldLink "SlopeJudge$Slices" (56 : Nat) "SlopeJudge$Slices" "pulls" "J") ∈ sj_kw := sj_k2 11 rfl rfl
theorem kw_853 : (Jvm.Cond.methodLinkNest "SlopeJudge$Slices" (60 : Nat) ({ cls := "SlopeJudge$Slip", name := "isNone", desc := "()Z" } : Jvm.MethodName) "SlopeJudge") ∈ sj_nest := sj_n4 133 rfl rfl
theorem kw_870 : (Jvm.Cond.methodLink "SlopeJudge$Slices" (101 : Nat) ({ cls := "java/lang/Math", name := "max", desc := "(II)I" } : Jvm.MethodName)) ∈ sj_kw := sj_k4 150 rfl rfl
theorem kw_106 : (Jvm.Cond.fieldLinkNest "SlopeJudge$Slices" (84 : Nat) "SlopeJudge$Ground" "rub" "[I" "SlopeJudge") ∈ sj_nest := sj_n1 106 rfl rfl
theorem kw_865 : (Jvm.Cond.constantLong "SlopeJudge$Slices" (87 : Nat) (2000 : Int64)) ∈ sj_kw := sj_k4 145 rfl rfl
theorem kw_101 : (Jvm.Cond.fieldLinkNest "SlopeJudge$Slices" (89 : Nat) "SlopeJudge$Ground" "hold" "[I" "SlopeJudge") ∈ sj_nest := sj_n1 101 rfl rfl
theorem kw_866 : (Jvm.Cond.methodLink "SlopeJudge$Slices" (92 : Nat) ({ cls := "SlopeJudge$Slices", name := "press", desc := "(I)I" } : Jvm.MethodName)) ∈ sj_kw := sj_k4 146 rfl rfl
theorem kw_869 : (Jvm.Cond.code ({ cls := "SlopeJudge$Slices", name := "press", desc := "(I)I" } : Jvm.MethodName) prog_6_method_5_code (2 : Nat) (Option.some Jvm.ClassFile.FieldType.int)) ∈ sj_kw := sj_k4 149 rfl rfl
theorem ks_62 : (Cond.selects "SlopeJudge$Slices" ({ cls := "SlopeJudge$Slices", name := "press", desc := "(I)I" } : MethodName) ({ cls := "SlopeJudge$Slices", name := "press", desc := "(I)I" } : MethodName)) ∈ sj_kw := sj_ks 62 rfl rfl
theorem kw_868 : (Jvm.Cond.instanceMethod ({ cls := "SlopeJudge$Slices", name := "press", desc := "(I)I" } : Jvm.MethodName)) ∈ sj_kw := sj_k4 148 rfl rfl
theorem kw_871 : (Jvm.Cond.constantLong "SlopeJudge$Slices" (96 : Nat) (1000 : Int64)) ∈ sj_kw := sj_k4 151 rfl rfl
theorem kw_74 : (Jvm.Cond.fieldLinkNest "SlopeJudge$Slices" (98 : Nat) "SlopeJudge$Ground" "quake" "I" "SlopeJudge") ∈ sj_nest := sj_n1 74 rfl rfl
theorem kw_899 : (Jvm.Cond.constantLong "SlopeJudge$Slices" (116 : Nat) (1000000000000000 : Int64)) ∈ sj_kw := sj_k4 179 rfl rfl
theorem kw_895 : (Jvm.Cond.methodLink "SlopeJudge$Slices" (118 : Nat) ({ cls := "SlopeJudge$Slices", name := "lack", desc := "(I)J" } : Jvm.MethodName)) ∈ sj_kw := sj_k4 175 rfl rfl
theorem kw_898 : (Jvm.Cond.code ({ cls := "SlopeJudge$Slices", name := "lack", desc := "(I)J" } : Jvm.MethodName) prog_6_method_9_code (11 : Nat) (Option.some Jvm.ClassFile.FieldType.long)) ∈ sj_kw := sj_k4 178 rfl rfl
theorem ks_65 : (Cond.selects "SlopeJudge$Slices" ({ cls := "SlopeJudge$Slices", name := "lack", desc := "(I)J" } : MethodName) ({ cls := "SlopeJudge$Slices", name := "lack", desc := "(I)J" } : MethodName)) ∈ sj_kw := sj_ks 65 rfl rfl
theorem kw_897 : (Jvm.Cond.instanceMethod ({ cls := "SlopeJudge$Slices", name := "lack", desc := "(I)J" } : Jvm.MethodName)) ∈ sj_kw := sj_k4 177 rfl rfl
theorem kw_908 : (Jvm.Cond.methodLink "SlopeJudge$Slices" (122 : Nat) ({ cls := "SlopeJudge$Slices", name := "hold", desc := "(I)Z" } : Jvm.MethodName)) ∈ sj_kw := sj_k4 188 rfl rfl
theorem kw_894 : (Jvm.Cond.code ({ cls := "SlopeJudge$Slices", name := "hold", desc := "(I)Z" } : Jvm.MethodName) prog_6_method_10_code (2 : Nat) (Option.some Jvm.ClassFile.FieldType.boolean)) ∈ sj_kw := sj_k4 174 rfl rfl
theorem ks_64 : (Cond.selects "SlopeJudge$Slices" ({ cls := "SlopeJudge$Slices", name := "hold", desc := "(I)Z" } : MethodName) ({ cls := "SlopeJudge$Slices", name := "hold", desc := "(I)Z" } : MethodName)) ∈ sj_kw := sj_ks 64 rfl rfl
theorem kw_893 : (Jvm.Cond.instanceMethod ({ cls := "SlopeJudge$Slices", name := "hold", desc := "(I)Z" } : Jvm.MethodName)) ∈ sj_kw := sj_k4 173 rfl rfl
theorem kw_1023 : (Jvm.Cond.methodLinkNest "SlopeJudge$Seeke\x72" (25 : Nat) ({ cls := "SlopeJudge", name := "isCircle", desc := "(III)Z" } : Jvm.MethodName) "SlopeJudge") ∈ sj_nest := sj_n5 63 rfl rfl
theorem kw_601 : (Jvm.Cond.code ({ cls := "SlopeJudge", name := "isCircle", desc := "(III)Z" } : Jvm.MethodName) prog_1_method_41_code (3 : Nat) (Option.some Jvm.ClassFile.FieldType.boolean)) ∈ sj_kw := sj_k3 121 rfl rfl
theorem kw_600 : (Jvm.Cond.static ({ cls := "SlopeJudge", name := "isCircle", desc := "(III)Z" } : Jvm.MethodName)) ∈ sj_kw := sj_k3 120 rfl rfl
theorem kw_1024 : (Jvm.Cond.methodLinkNest "SlopeJudge$Seeke\x72" (29 : Nat) ({ cls := "SlopeJudge$Slip", name := "cut", desc := "(LSlopeJudge$Ground;IIIZ)Z" } : Jvm.MethodName) "SlopeJudge") ∈ sj_nest := sj_n5 64 rfl rfl
theorem kw_605 : (Jvm.Cond.code ({ cls := "SlopeJudge$Slip", name := "cut", desc := "(LSlopeJudge$Ground;IIIZ)Z" } : Jvm.MethodName) prog_7_method_9_code (12 : Nat) (Option.some Jvm.ClassFile.FieldType.boolean)) ∈ sj_kw := sj_k3 125 rfl rfl
theorem ks_29 : (Cond.selects "SlopeJudge$Slip" ({ cls := "SlopeJudge$Slip", name := "cut", desc := "(LSlopeJudge$Ground;IIIZ)Z" } : MethodName) ({ cls := "SlopeJudge$Slip", name := "cut", desc := "(LSlopeJudge$Ground;IIIZ)Z" } : MethodName)) ∈ sj_kw := sj_ks 29 rfl rfl
theorem kw_604 : (Jvm.Cond.instanceMethod ({ cls := "SlopeJudge$Slip", name := "cut", desc := "(LSlopeJudge$Ground;IIIZ)Z" } : Jvm.MethodName)) ∈ sj_kw := sj_k3 124 rfl rfl
theorem kw_1025 : (Jvm.Cond.methodLinkNest "SlopeJudge$Seeke\x72" (33 : Nat) ({ cls := "SlopeJudge$Slices", name := "weigh", desc := "(LSlopeJudge$Ground;LSlopeJudge$Slip;)V" } : Jvm.MethodName) "SlopeJudge") ∈ sj_nest := sj_n5 65 rfl rfl
theorem kw_845 : (Jvm.Cond.code ({ cls := "SlopeJudge$Slices", name := "weigh", desc := "(LSlopeJudge$Ground;LSlopeJudge$Slip;)V" } : Jvm.MethodName) prog_6_method_2_code (11 : Nat) (Option.none : Option Jvm.ClassFile.FieldType)) ∈ sj_kw := sj_k4 125 rfl rfl
theorem ks_58 : (Cond.selects "SlopeJudge$Slices" ({ cls := "SlopeJudge$Slices", name := "weigh", desc := "(LSlopeJudge$Ground;LSlopeJudge$Slip;)V" } : MethodName) ({ cls := "SlopeJudge$Slices", name := "weigh", desc := "(LSlopeJudge$Ground;LSlopeJudge$Slip;)V" } : MethodName)) ∈ sj_kw := sj_ks 58 rfl rfl
theorem kw_844 : (Jvm.Cond.instanceMethod ({ cls := "SlopeJudge$Slices", name := "weigh", desc := "(LSlopeJudge$Ground;LSlopeJudge$Slip;)V" } : Jvm.MethodName)) ∈ sj_kw := sj_k4 124 rfl rfl
theorem kw_1026 : (Jvm.Cond.methodLinkNest "SlopeJudge$Seeke\x72" (37 : Nat) ({ cls := "SlopeJudge$Slices", name := "settle", desc := "(LSlopeJudge$Ground;I)V" } : Jvm.MethodName) "SlopeJudge") ∈ sj_nest := sj_n5 66 rfl rfl
theorem kw_864 : (Jvm.Cond.code ({ cls := "SlopeJudge$Slices", name := "settle", desc := "(LSlopeJudge$Ground;I)V" } : Jvm.MethodName) prog_6_method_3_code (5 : Nat) (Option.none : Option Jvm.ClassFile.FieldType)) ∈ sj_kw := sj_k4 144 rfl rfl
theorem ks_61 : (Cond.selects "SlopeJudge$Slices" ({ cls := "SlopeJudge$Slices", name := "settle", desc := "(LSlopeJudge$Ground;I)V" } : MethodName) ({ cls := "SlopeJudge$Slices", name := "settle", desc := "(LSlopeJudge$Ground;I)V" } : MethodName)) ∈ sj_kw := sj_ks 61 rfl rfl
theorem kw_863 : (Jvm.Cond.instanceMethod ({ cls := "SlopeJudge$Slices", name := "settle", desc := "(LSlopeJudge$Ground;I)V" } : Jvm.MethodName)) ∈ sj_kw := sj_k4 143 rfl rfl
theorem kw_1027 : (Jvm.Cond.methodLinkNest "SlopeJudge$Seeke\x72" (41 : Nat) ({ cls := "SlopeJudge$Slices", name := "leastBound", desc := "(I)I" } : Jvm.MethodName) "SlopeJudge") ∈ sj_nest := sj_n5 67 rfl rfl
theorem kw_907 : (Jvm.Cond.code ({ cls := "SlopeJudge$Slices", name := "leastBound", desc := "(I)I" } : Jvm.MethodName) prog_6_method_11_code (6 : Nat) (Option.some Jvm.ClassFile.FieldType.int)) ∈ sj_kw := sj_k4 187 rfl rfl
theorem ks_66 : (Cond.selects "SlopeJudge$Slices" ({ cls := "SlopeJudge$Slices", name := "leastBound", desc := "(I)I" } : MethodName) ({ cls := "SlopeJudge$Slices", name := "leastBound", desc := "(I)I" } : MethodName)) ∈ sj_kw := sj_ks 66 rfl rfl
theorem kw_906 : (Jvm.Cond.instanceMethod ({ cls := "SlopeJudge$Slices", name := "leastBound", desc := "(I)I" } : Jvm.MethodName)) ∈ sj_kw := sj_k4 186 rfl rfl
theorem kw_289 : (Jvm.Cond.fieldLink "SlopeJudge$Seeke\x72" (45 : Nat) "SlopeJudge$Seeke\x72" "x" "I") ∈ sj_kw := sj_k2 49 rfl rfl
theorem kw_1041 : (Jvm.Cond.methodLink "SlopeJudge$Seeke\x72" (69 : Nat) ({ cls := "SlopeJudge$Seeke\x72", name := "off", desc := "(II)I" } : Jvm.MethodName)) ∈ sj_kw := sj_k5 81 rfl rfl
theorem kw_1043 : (Jvm.Cond.code ({ cls := "SlopeJudge$Seeke\x72", name := "off", desc := "(II)I" } : Jvm.MethodName) prog_5_method_5_code (2 : Nat) (Option.some Jvm.ClassFile.FieldType.int)) ∈ sj_kw := sj_k5 83 rfl rfl
theorem kw_8 : (Jvm.Cond.initialized "SlopeJudge$Seeke\x72") ∈ sj_kw := sj_k1 8 rfl rfl
theorem kw_1042 : (Jvm.Cond.static ({ cls := "SlopeJudge$Seeke\x72", name := "off", desc := "(II)I" } : Jvm.MethodName)) ∈ sj_kw := sj_k5 82 rfl rfl
theorem kw_291 : (Jvm.Cond.fieldLink "SlopeJudge$Seeke\x72" (49 : Nat) "SlopeJudge$Seeke\x72" "y" "I") ∈ sj_kw := sj_k2 51 rfl rfl
theorem kw_293 : (Jvm.Cond.fieldLink "SlopeJudge$Seeke\x72" (52 : Nat) "SlopeJudge$Seeke\x72" "\x72" "I") ∈ sj_kw := sj_k2 53 rfl rfl
theorem kw_295 : (Jvm.Cond.fieldLink "SlopeJudge$Seeke\x72" (59 : Nat) "SlopeJudge$Seeke\x72" "least" "I") ∈ sj_kw := sj_k2 55 rfl rfl
theorem kw_1036 : (Jvm.Cond.methodLink "SlopeJudge$Seeke\x72" (55 : Nat) ({ cls := "SlopeJudge$Seeke\x72", name := "ask", desc := "(LSlopeJudge$Ground;IIIZI)I" } : Jvm.MethodName)) ∈ sj_kw := sj_k5 76 rfl rfl
theorem kw_1022 : (Jvm.Cond.code ({ cls := "SlopeJudge$Seeke\x72", name := "ask", desc := "(LSlopeJudge$Ground;IIIZI)I" } : Jvm.MethodName) prog_5_method_2_code (7 : Nat) (Option.some Jvm.ClassFile.FieldType.int)) ∈ sj_kw := sj_k5 62 rfl rfl
theorem ks_82 : (Cond.selects "SlopeJudge$Seeke\x72" ({ cls := "SlopeJudge$Seeke\x72", name := "ask", desc := "(LSlopeJudge$Ground;IIIZI)I" } : MethodName) ({ cls := "SlopeJudge$Seeke\x72", name := "ask", desc := "(LSlopeJudge$Ground;IIIZI)I" } : MethodName)) ∈ sj_kw := sj_ks 82 rfl rfl
theorem kw_1021 : (Jvm.Cond.instanceMethod ({ cls := "SlopeJudge$Seeke\x72", name := "ask", desc := "(LSlopeJudge$Ground;IIIZI)I" } : Jvm.MethodName)) ∈ sj_kw := sj_k5 61 rfl rfl
theorem kw_297 : (Jvm.Cond.fieldLink "SlopeJudge$Seeke\x72" (62 : Nat) "SlopeJudge$Seeke\x72" "rounds" "I") ∈ sj_kw := sj_k2 57 rfl rfl
theorem kw_1037 : (Jvm.Cond.methodLink "SlopeJudge$Seeke\x72" (65 : Nat) ({ cls := "SlopeJudge$Seeke\x72", name := "goOn", desc := "(LSlopeJudge$Ground;IZ)Z" } : Jvm.MethodName)) ∈ sj_kw := sj_k5 77 rfl rfl
theorem kw_1040 : (Jvm.Cond.code ({ cls := "SlopeJudge$Seeke\x72", name := "goOn", desc := "(LSlopeJudge$Ground;IZ)Z" } : Jvm.MethodName) prog_5_method_4_code (7 : Nat) (Option.some Jvm.ClassFile.FieldType.boolean)) ∈ sj_kw := sj_k5 80 rfl rfl
theorem ks_84 : (Cond.selects "SlopeJudge$Seeke\x72" ({ cls := "SlopeJudge$Seeke\x72", name := "goOn", desc := "(LSlopeJudge$Ground;IZ)Z" } : MethodName) ({ cls := "SlopeJudge$Seeke\x72", name := "goOn", desc := "(LSlopeJudge$Ground;IZ)Z" } : MethodName)) ∈ sj_kw := sj_ks 84 rfl rfl
theorem kw_1039 : (Jvm.Cond.instanceMethod ({ cls := "SlopeJudge$Seeke\x72", name := "goOn", desc := "(LSlopeJudge$Ground;IZ)Z" } : Jvm.MethodName)) ∈ sj_kw := sj_k5 79 rfl rfl
theorem kw_886 : (Jvm.Cond.constantLong "SlopeJudge$Slices" (106 : Nat) (-1 : Int64)) ∈ sj_kw := sj_k4 166 rfl rfl
theorem kw_1007 : (Jvm.Cond.methodLink "SlopeJudge$Slices" (108 : Nat) ({ cls := "java/lang/Math", name := "floorDiv", desc := "(JJ)J" } : Jvm.MethodName)) ∈ sj_kw := sj_k5 47 rfl rfl
theorem kw_1009 : (Jvm.Cond.code ({ cls := "java/lang/Math", name := "floorDiv", desc := "(JJ)J" } : Jvm.MethodName) prog_12_method_49_code (6 : Nat) (Option.some Jvm.ClassFile.FieldType.long)) ∈ sj_kw := sj_k5 49 rfl rfl
theorem kw_1008 : (Jvm.Cond.static ({ cls := "java/lang/Math", name := "floorDiv", desc := "(JJ)J" } : Jvm.MethodName)) ∈ sj_kw := sj_k5 48 rfl rfl
theorem kw_1010 : (Jvm.Cond.methodLink "SlopeJudge$Slices" (112 : Nat) ({ cls := "SlopeJudge$Slices", name := "rubsOf", desc := "(II)J" } : Jvm.MethodName)) ∈ sj_kw := sj_k5 50 rfl rfl
theorem kw_885 : (Jvm.Cond.code ({ cls := "SlopeJudge$Slices", name := "rubsOf", desc := "(II)J" } : Jvm.MethodName) prog_6_method_7_code (5 : Nat) (Option.some Jvm.ClassFile.FieldType.long)) ∈ sj_kw := sj_k4 165 rfl rfl
theorem ks_63 : (Cond.selects "SlopeJudge$Slices" ({ cls := "SlopeJudge$Slices", name := "rubsOf", desc := "(II)J" } : MethodName) ({ cls := "SlopeJudge$Slices", name := "rubsOf", desc := "(II)J" } : MethodName)) ∈ sj_kw := sj_ks 63 rfl rfl
theorem kw_884 : (Jvm.Cond.instanceMethod ({ cls := "SlopeJudge$Slices", name := "rubsOf", desc := "(II)J" } : Jvm.MethodName)) ∈ sj_kw := sj_k4 164 rfl rfl
theorem kw_805 : (Jvm.Cond.methodLink "SlopeJudge$Slip" (32 : Nat) ({ cls := "SlopeJudge$Slip", name := "isNone", desc := "()Z" } : Jvm.MethodName)) ∈ sj_kw := sj_k4 85 rfl rfl
theorem kw_985 : (Jvm.Cond.methodLink "SlopeJudge$Slip" (42 : Nat) ({ cls := "java/lang/Math", name := "min", desc := "(II)I" } : Jvm.MethodName)) ∈ sj_kw := sj_k5 25 rfl rfl
theorem kw_159 : (Jvm.Cond.fieldLinkNest "SlopeJudge$Slip" (72 : Nat) "SlopeJudge$Held" "pointColumn" "[I" "SlopeJudge") ∈ sj_nest := sj_n1 159 rfl rfl
theorem kw_162 : (Jvm.Cond.fieldLinkNest "SlopeJudge$Slip" (79 : Nat) "SlopeJudge$Held" "pointHeight" "[I" "SlopeJudge") ∈ sj_nest := sj_n1 162 rfl rfl
theorem kw_640 : (Jvm.Cond.methodLink "SlopeJudge$Slip" (82 : Nat) ({ cls := "java/lang/Math", name := "floorDiv", desc := "(II)I" } : Jvm.MethodName)) ∈ sj_kw := sj_k3 160 rfl rfl
theorem kw_642 : (Jvm.Cond.code ({ cls := "java/lang/Math", name := "floorDiv", desc := "(II)I" } : Jvm.MethodName) prog_12_method_47_code (3 : Nat) (Option.some Jvm.ClassFile.FieldType.int)) ∈ sj_kw := sj_k3 162 rfl rfl
theorem kw_641 : (Jvm.Cond.static ({ cls := "java/lang/Math", name := "floorDiv", desc := "(II)I" } : Jvm.MethodName)) ∈ sj_kw := sj_k3 161 rfl rfl
theorem kw_637 : (Jvm.Cond.methodLink "SlopeJudge$Slip" (75 : Nat) ({ cls := "SlopeJudge$Slip", name := "heightAt", desc := "(LSlopeJudge$Held;II)I" } : Jvm.MethodName)) ∈ sj_kw := sj_k3 157 rfl rfl
theorem kw_639 : (Jvm.Cond.code ({ cls := "SlopeJudge$Slip", name := "heightAt", desc := "(LSlopeJudge$Held;II)I" } : Jvm.MethodName) prog_7_method_11_code (6 : Nat) (Option.some Jvm.ClassFile.FieldType.int)) ∈ sj_kw := sj_k3 159 rfl rfl
theorem kw_638 : (Jvm.Cond.static ({ cls := "SlopeJudge$Slip", name := "heightAt", desc := "(LSlopeJudge$Held;II)I" } : Jvm.MethodName)) ∈ sj_kw := sj_k3 158 rfl rfl
theorem kw_165 : (Jvm.Cond.fieldLinkNest "SlopeJudge$Slip" (67 : Nat) "SlopeJudge$Held" "points" "I" "SlopeJudge") ∈ sj_nest := sj_n1 165 rfl rfl
theorem kw_656 : (Jvm.Cond.methodLink "SlopeJudge$Table" (3 : Nat) ({ cls := "java/lang/Object", name := "<init>", desc := "()V" } : Jvm.MethodName)) ∈ sj_kw := sj_k3 176 rfl rfl
theorem kw_659 : (Jvm.Cond.fieldLink "SlopeJudge$Table" (9 : Nat) "SlopeJudge$Table" "ove\x72" "[J") ∈ sj_kw := sj_k3 179 rfl rfl
theorem kw_660 : (Jvm.Cond.fieldLink "SlopeJudge$Table" (15 : Nat) "SlopeJudge$Table" "first" "[I") ∈ sj_kw := sj_k3 180 rfl rfl
theorem kw_661 : (Jvm.Cond.fieldLink "SlopeJudge$Table" (19 : Nat) "SlopeJudge$Table" "weightOn" "[I") ∈ sj_kw := sj_k3 181 rfl rfl
theorem kw_662 : (Jvm.Cond.fieldLink "SlopeJudge$Table" (22 : Nat) "SlopeJudge$Table" "topsOfBoth" "[I") ∈ sj_kw := sj_k3 182 rfl rfl
theorem kw_657 : (Jvm.Cond.classLink "SlopeJudge$Table" (25 : Nat) "SlopeJudge$Slip") ∈ sj_kw := sj_k3 177 rfl rfl
theorem kw_658 : (Jvm.Cond.methodLinkNest "SlopeJudge$Table" (27 : Nat) ({ cls := "SlopeJudge$Slip", name := "<init>", desc := "()V" } : Jvm.MethodName) "SlopeJudge") ∈ sj_nest := sj_n3 178 rfl rfl
theorem kw_663 : (Jvm.Cond.fieldLink "SlopeJudge$Table" (28 : Nat) "SlopeJudge$Table" "found" "LSlopeJudge$Slip;") ∈ sj_kw := sj_k3 183 rfl rfl
theorem kw_665 : (Jvm.Cond.fieldLink "SlopeJudge$Table" (32 : Nat) "SlopeJudge$Table" "g" "LSlopeJudge$Ground;") ∈ sj_kw := sj_k3 185 rfl rfl
theorem kw_79 : (Jvm.Cond.fieldLinkNest "SlopeJudge$Table" (75 : Nat) "SlopeJudge$Ground" "ground" "[I" "SlopeJudge") ∈ sj_nest := sj_n1 79 rfl rfl
theorem kw_713 : (Jvm.Cond.methodLinkNest "SlopeJudge$Table" (78 : Nat) ({ cls := "SlopeJudge$Ground", name := "weightOn", desc := "(II)I" } : Jvm.MethodName) "SlopeJudge") ∈ sj_nest := sj_n3 233 rfl rfl
theorem kw_64 : (Jvm.Cond.fieldLinkNest "SlopeJudge$Table" (67 : Nat) "SlopeJudge$Ground" "n" "I" "SlopeJudge") ∈ sj_nest := sj_n1 64 rfl rfl
theorem kw_84 : (Jvm.Cond.fieldLinkNest "SlopeJudge$Table" (72 : Nat) "SlopeJudge$Ground" "rock" "[I" "SlopeJudge") ∈ sj_nest := sj_n1 84 rfl rfl
theorem kw_729 : (Jvm.Cond.methodLinkNest "SlopeJudge$Table" (101 : Nat) ({ cls := "SlopeJudge$Ground", name := "topAt", desc := "(II)I" } : Jvm.MethodName) "SlopeJudge") ∈ sj_nest := sj_n4 9 rfl rfl
theorem kw_674 : (Jvm.Cond.fieldLink "SlopeJudge$Table" (116 : Nat) "SlopeJudge$Table" "fast" "Z") ∈ sj_kw := sj_k3 194 rfl rfl
theorem kw_743 : (Jvm.Cond.methodLinkNest "SlopeJudge$Table" (132 : Nat) ({ cls := "SlopeJudge$Ground", name := "headOn", desc := "(II)I" } : Jvm.MethodName) "SlopeJudge") ∈ sj_nest := sj_n4 23 rfl rfl
theorem kw_747 : (Jvm.Cond.constantLong "SlopeJudge$Table" (135 : Nat) (2000 : Int64)) ∈ sj_kw := sj_k4 27 rfl rfl
theorem kw_103 : (Jvm.Cond.fieldLinkNest "SlopeJudge$Table" (137 : Nat) "SlopeJudge$Ground" "hold" "[I" "SlopeJudge") ∈ sj_nest := sj_n1 103 rfl rfl
theorem kw_738 : (Jvm.Cond.methodLink "SlopeJudge$Table" (109 : Nat) ({ cls := "java/lang/Math", name := "max", desc := "(II)I" } : Jvm.MethodName)) ∈ sj_kw := sj_k4 18 rfl rfl
theorem kw_668 : (Jvm.Cond.fieldLink "SlopeJudge$Table" (81 : Nat) "SlopeJudge$Table" "k" "I") ∈ sj_kw := sj_k3 188 rfl rfl
theorem kw_748 : (Jvm.Cond.constantLong "SlopeJudge$Table" (140 : Nat) (1000 : Int64)) ∈ sj_kw := sj_k4 28 rfl rfl
theorem kw_76 : (Jvm.Cond.fieldLinkNest "SlopeJudge$Table" (142 : Nat) "SlopeJudge$Ground" "quake" "I" "SlopeJudge") ∈ sj_nest := sj_n1 76 rfl rfl
theorem kw_71 : (Jvm.Cond.fieldLinkNest "SlopeJudge$Table" (126 : Nat) "SlopeJudge$Ground" "b" "I" "SlopeJudge") ∈ sj_nest := sj_n1 71 rfl rfl
theorem kw_108 : (Jvm.Cond.fieldLinkNest "SlopeJudge$Table" (129 : Nat) "SlopeJudge$Ground" "rub" "[I" "SlopeJudge") ∈ sj_nest := sj_n1 108 rfl rfl
theorem kw_667 : (Jvm.Cond.fieldLink "SlopeJudge$Table" (40 : Nat) "SlopeJudge$Table" "left" "Z") ∈ sj_kw := sj_k3 187 rfl rfl
theorem kw_671 : (Jvm.Cond.fieldLink "SlopeJudge$Table" (60 : Nat) "SlopeJudge$Table" "leastOve\x72" "J") ∈ sj_kw := sj_k3 191 rfl rfl
theorem kw_672 : (Jvm.Cond.fieldLink "SlopeJudge$Table" (57 : Nat) "SlopeJudge$Table" "leastFrom" "I") ∈ sj_kw := sj_k3 192 rfl rfl
theorem kw_673 : (Jvm.Cond.fieldLink "SlopeJudge$Table" (84 : Nat) "SlopeJudge$Table" "leastTo" "I") ∈ sj_kw := sj_k3 193 rfl rfl
theorem kw_739 : (Jvm.Cond.methodLink "SlopeJudge$Table" (112 : Nat) ({ cls := "SlopeJudge$Table", name := "leftOve\x72", desc := "(III)J" } : Jvm.MethodName)) ∈ sj_kw := sj_k4 19 rfl rfl
theorem kw_742 : (Jvm.Cond.code ({ cls := "SlopeJudge$Table", name := "leftOve\x72", desc := "(III)J" } : Jvm.MethodName) prog_8_method_9_code (16 : Nat) (Option.some Jvm.ClassFile.FieldType.long)) ∈ sj_kw := sj_k4 22 rfl rfl
theorem kw_17 : (Jvm.Cond.initialized "SlopeJudge$Table") ∈ sj_kw := sj_k1 17 rfl rfl
theorem ks_42 : (Cond.selects "SlopeJudge$Table" ({ cls := "SlopeJudge$Table", name := "leftOve\x72", desc := "(III)J" } : MethodName) ({ cls := "SlopeJudge$Table", name := "leftOve\x72", desc := "(III)J" } : MethodName)) ∈ sj_kw := sj_ks 42 rfl rfl
theorem kw_741 : (Jvm.Cond.instanceMethod ({ cls := "SlopeJudge$Table", name := "leftOve\x72", desc := "(III)J" } : Jvm.MethodName)) ∈ sj_kw := sj_k4 21 rfl rfl
theorem kw_753 : (Jvm.Cond.methodLink "SlopeJudge$Table" (123 : Nat) ({ cls := "SlopeJudge$Table", name := "pass", desc := "(IIJ)V" } : Jvm.MethodName)) ∈ sj_kw := sj_k4 33 rfl rfl
theorem kw_756 : (Jvm.Cond.code ({ cls := "SlopeJudge$Table", name := "pass", desc := "(IIJ)V" } : Jvm.MethodName) prog_8_method_8_code (5 : Nat) (Option.none : Option Jvm.ClassFile.FieldType)) ∈ sj_kw := sj_k4 36 rfl rfl
theorem ks_45 : (Cond.selects "SlopeJudge$Table" ({ cls := "SlopeJudge$Table", name := "pass", desc := "(IIJ)V" } : MethodName) ({ cls := "SlopeJudge$Table", name := "pass", desc := "(IIJ)V" } : MethodName)) ∈ sj_kw := sj_ks 45 rfl rfl
theorem kw_755 : (Jvm.Cond.instanceMethod ({ cls := "SlopeJudge$Table", name := "pass", desc := "(IIJ)V" } : Jvm.MethodName)) ∈ sj_kw := sj_k4 35 rfl rfl
theorem kw_749 : (Jvm.Cond.methodLink "SlopeJudge$Table" (119 : Nat) ({ cls := "SlopeJudge$Table", name := "close", desc := "(IIJ)V" } : Jvm.MethodName)) ∈ sj_kw := sj_k4 29 rfl rfl
theorem kw_752 : (Jvm.Cond.code ({ cls := "SlopeJudge$Table", name := "close", desc := "(IIJ)V" } : Jvm.MethodName) prog_8_method_7_code (5 : Nat) (Option.none : Option Jvm.ClassFile.FieldType)) ∈ sj_kw := sj_k4 32 rfl rfl
theorem ks_44 : (Cond.selects "SlopeJudge$Table" ({ cls := "SlopeJudge$Table", name := "close", desc := "(IIJ)V" } : MethodName) ({ cls := "SlopeJudge$Table", name := "close", desc := "(IIJ)V" } : MethodName)) ∈ sj_kw := sj_ks 44 rfl rfl
theorem kw_751 : (Jvm.Cond.instanceMethod ({ cls := "SlopeJudge$Table", name := "close", desc := "(IIJ)V" } : Jvm.MethodName)) ∈ sj_kw := sj_k4 31 rfl rfl
theorem kw_666 : (Jvm.Cond.fieldLink "SlopeJudge$Table" (36 : Nat) "SlopeJudge$Table" "t" "I") ∈ sj_kw := sj_k3 186 rfl rfl
theorem kw_737 : (Jvm.Cond.methodLink "SlopeJudge$Table" (104 : Nat) ({ cls := "java/lang/Math", name := "min", desc := "(II)I" } : Jvm.MethodName)) ∈ sj_kw := sj_k4 17 rfl rfl
theorem kw_733 : (Jvm.Cond.methodLink "SlopeJudge$Table" (97 : Nat) ({ cls := "SlopeJudge$Table", name := "stepOn", desc := "(II)V" } : Jvm.MethodName)) ∈ sj_kw := sj_k4 13 rfl rfl
theorem kw_736 : (Jvm.Cond.code ({ cls := "SlopeJudge$Table", name := "stepOn", desc := "(II)V" } : Jvm.MethodName) prog_8_method_6_code (11 : Nat) (Option.none : Option Jvm.ClassFile.FieldType)) ∈ sj_kw := sj_k4 16 rfl rfl
theorem ks_41 : (Cond.selects "SlopeJudge$Table" ({ cls := "SlopeJudge$Table", name := "stepOn", desc := "(II)V" } : MethodName) ({ cls := "SlopeJudge$Table", name := "stepOn", desc := "(II)V" } : MethodName)) ∈ sj_kw := sj_ks 41 rfl rfl
theorem kw_735 : (Jvm.Cond.instanceMethod ({ cls := "SlopeJudge$Table", name := "stepOn", desc := "(II)V" } : Jvm.MethodName)) ∈ sj_kw := sj_k4 15 rfl rfl
theorem kw_725 : (Jvm.Cond.methodLink "SlopeJudge$Table" (93 : Nat) ({ cls := "SlopeJudge$Table", name := "addTops", desc := "(I)V" } : Jvm.MethodName)) ∈ sj_kw := sj_k4 5 rfl rfl
theorem kw_728 : (Jvm.Cond.code ({ cls := "SlopeJudge$Table", name := "addTops", desc := "(I)V" } : Jvm.MethodName) prog_8_method_5_code (3 : Nat) (Option.none : Option Jvm.ClassFile.FieldType)) ∈ sj_kw := sj_k4 8 rfl rfl
theorem ks_39 : (Cond.selects "SlopeJudge$Table" ({ cls := "SlopeJudge$Table", name := "addTops", desc := "(I)V" } : MethodName) ({ cls := "SlopeJudge$Table", name := "addTops", desc := "(I)V" } : MethodName)) ∈ sj_kw := sj_ks 39 rfl rfl
theorem kw_727 : (Jvm.Cond.instanceMethod ({ cls := "SlopeJudge$Table", name := "addTops", desc := "(I)V" } : Jvm.MethodName)) ∈ sj_kw := sj_k4 7 rfl rfl
theorem kw_724 : (Jvm.Cond.methodLink "SlopeJudge$Table" (87 : Nat) ({ cls := "java/util/Arrays", name := "fill", desc := "([II)V" } : Jvm.MethodName)) ∈ sj_kw := sj_k4 4 rfl rfl
theorem kw_40 : (Jvm.Cond.fieldLinkNest "SlopeJudge$Table" (149 : Nat) "SlopeJudge$Slip" "base" "[I" "SlopeJudge") ∈ sj_nest := sj_n1 40 rfl rfl
theorem kw_761 : (Jvm.Cond.methodLinkNest "SlopeJudge$Table" (145 : Nat) ({ cls := "SlopeJudge$Slip", name := "span", desc := "(LSlopeJudge$Ground;IIZ)V" } : Jvm.MethodName) "SlopeJudge") ∈ sj_nest := sj_n4 41 rfl rfl
theorem kw_669 : (Jvm.Cond.fieldLink "SlopeJudge$Table" (50 : Nat) "SlopeJudge$Table" "allStand" "I") ∈ sj_kw := sj_k3 189 rfl rfl
theorem kw_720 : (Jvm.Cond.methodLink "SlopeJudge$Table" (53 : Nat) ({ cls := "SlopeJudge$Table", name := "sweep", desc := "(IZ)V" } : Jvm.MethodName)) ∈ sj_kw := sj_k4 0 rfl rfl
theorem kw_723 : (Jvm.Cond.code ({ cls := "SlopeJudge$Table", name := "sweep", desc := "(IZ)V" } : Jvm.MethodName) prog_8_method_4_code (5 : Nat) (Option.none : Option Jvm.ClassFile.FieldType)) ∈ sj_kw := sj_k4 3 rfl rfl
theorem ks_38 : (Cond.selects "SlopeJudge$Table" ({ cls := "SlopeJudge$Table", name := "sweep", desc := "(IZ)V" } : MethodName) ({ cls := "SlopeJudge$Table", name := "sweep", desc := "(IZ)V" } : MethodName)) ∈ sj_kw := sj_ks 38 rfl rfl
theorem kw_722 : (Jvm.Cond.instanceMethod ({ cls := "SlopeJudge$Table", name := "sweep", desc := "(IZ)V" } : Jvm.MethodName)) ∈ sj_kw := sj_k4 2 rfl rfl
theorem kw_757 : (Jvm.Cond.methodLink "SlopeJudge$Table" (64 : Nat) ({ cls := "SlopeJudge$Table", name := "goBack", desc := "()V" } : Jvm.MethodName)) ∈ sj_kw := sj_k4 37 rfl rfl
theorem kw_760 : (Jvm.Cond.code ({ cls := "SlopeJudge$Table", name := "goBack", desc := "()V" } : Jvm.MethodName) prog_8_method_10_code (8 : Nat) (Option.none : Option Jvm.ClassFile.FieldType)) ∈ sj_kw := sj_k4 40 rfl rfl
theorem ks_46 : (Cond.selects "SlopeJudge$Table" ({ cls := "SlopeJudge$Table", name := "goBack", desc := "()V" } : MethodName) ({ cls := "SlopeJudge$Table", name := "goBack", desc := "()V" } : MethodName)) ∈ sj_kw := sj_ks 46 rfl rfl
theorem kw_759 : (Jvm.Cond.instanceMethod ({ cls := "SlopeJudge$Table", name := "goBack", desc := "()V" } : Jvm.MethodName)) ∈ sj_kw := sj_k4 39 rfl rfl
theorem kw_708 : (Jvm.Cond.methodLinkNest "SlopeJudge$Table" (44 : Nat) ({ cls := "SlopeJudge$Slip", name := "drop", desc := "()V" } : Jvm.MethodName) "SlopeJudge") ∈ sj_nest := sj_n3 228 rfl rfl
theorem kw_709 : (Jvm.Cond.methodLink "SlopeJudge$Table" (47 : Nat) ({ cls := "SlopeJudge$Table", name := "weighAll", desc := "()V" } : Jvm.MethodName)) ∈ sj_kw := sj_k3 229 rfl rfl
theorem kw_712 : (Jvm.Cond.code ({ cls := "SlopeJudge$Table", name := "weighAll", desc := "()V" } : Jvm.MethodName) prog_8_method_3_code (3 : Nat) (Option.none : Option Jvm.ClassFile.FieldType)) ∈ sj_kw := sj_k3 232 rfl rfl
theorem ks_36 : (Cond.selects "SlopeJudge$Table" ({ cls := "SlopeJudge$Table", name := "weighAll", desc := "()V" } : MethodName) ({ cls := "SlopeJudge$Table", name := "weighAll", desc := "()V" } : MethodName)) ∈ sj_kw := sj_ks 36 rfl rfl
theorem kw_711 : (Jvm.Cond.instanceMethod ({ cls := "SlopeJudge$Table", name := "weighAll", desc := "()V" } : Jvm.MethodName)) ∈ sj_kw := sj_k3 231 rfl rfl
theorem kw_199 : (Jvm.Cond.methodLink "SlopeJudge$Tape" (3 : Nat) ({ cls := "java/lang/Object", name := "<init>", desc := "()V" } : Jvm.MethodName)) ∈ sj_kw := sj_k1 199 rfl rfl
theorem kw_200 : (Jvm.Cond.fieldLink "SlopeJudge$Tape" (9 : Nat) "SlopeJudge$Tape" "bytes" "[I") ∈ sj_kw := sj_k1 200 rfl rfl
theorem kw_206 : (Jvm.Cond.fieldLink "SlopeJudge$Tape" (15 : Nat) "SlopeJudge$Tape" "place" "I") ∈ sj_kw := sj_k1 206 rfl rfl
theorem kw_201 : (Jvm.Cond.fieldLink "SlopeJudge$Tape" (19 : Nat) "SlopeJudge$Tape" "length" "I") ∈ sj_kw := sj_k1 201 rfl rfl
theorem kw_203 : (Jvm.Cond.fieldLink "SlopeJudge$Tape" (22 : Nat) "SlopeJudge$Tape" "at" "I") ∈ sj_kw := sj_k1 203 rfl rfl
theorem kw_209 : (Jvm.Cond.fieldLink "SlopeJudge$Tape" (68 : Nat) "SlopeJudge$Tape" "wordEnd" "I") ∈ sj_kw := sj_k1 209 rfl rfl
theorem kw_451 : (Jvm.Cond.methodLink "SlopeJudge$Tape" (31 : Nat) ({ cls := "SlopeJudge$Tape", name := "skip", desc := "()V" } : Jvm.MethodName)) ∈ sj_kw := sj_k2 211 rfl rfl
theorem kw_454 : (Jvm.Cond.code ({ cls := "SlopeJudge$Tape", name := "skip", desc := "()V" } : Jvm.MethodName) prog_9_method_5_code (1 : Nat) (Option.none : Option Jvm.ClassFile.FieldType)) ∈ sj_kw := sj_k2 214 rfl rfl
theorem kw_6 : (Jvm.Cond.initialized "SlopeJudge$Tape") ∈ sj_kw := sj_k1 6 rfl rfl
theorem ks_10 : (Cond.selects "SlopeJudge$Tape" ({ cls := "SlopeJudge$Tape", name := "skip", desc := "()V" } : MethodName) ({ cls := "SlopeJudge$Tape", name := "skip", desc := "()V" } : MethodName)) ∈ sj_kw := sj_ks 10 rfl rfl
theorem kw_453 : (Jvm.Cond.instanceMethod ({ cls := "SlopeJudge$Tape", name := "skip", desc := "()V" } : Jvm.MethodName)) ∈ sj_kw := sj_k2 213 rfl rfl
theorem kw_463 : (Jvm.Cond.methodLink "SlopeJudge$Tape" (58 : Nat) ({ cls := "SlopeJudge$Tape", name := "seesFrom", desc := "(II)Z" } : Jvm.MethodName)) ∈ sj_kw := sj_k2 223 rfl rfl
theorem kw_466 : (Jvm.Cond.code ({ cls := "SlopeJudge$Tape", name := "seesFrom", desc := "(II)Z" } : Jvm.MethodName) prog_9_method_7_code (3 : Nat) (Option.some Jvm.ClassFile.FieldType.boolean)) ∈ sj_kw := sj_k2 226 rfl rfl
theorem ks_13 : (Cond.selects "SlopeJudge$Tape" ({ cls := "SlopeJudge$Tape", name := "seesFrom", desc := "(II)Z" } : MethodName) ({ cls := "SlopeJudge$Tape", name := "seesFrom", desc := "(II)Z" } : MethodName)) ∈ sj_kw := sj_ks 13 rfl rfl
theorem kw_465 : (Jvm.Cond.instanceMethod ({ cls := "SlopeJudge$Tape", name := "seesFrom", desc := "(II)Z" } : Jvm.MethodName)) ∈ sj_kw := sj_k2 225 rfl rfl
theorem kw_208 : (Jvm.Cond.fieldLink "SlopeJudge$Tape" (55 : Nat) "SlopeJudge$Tape" "begin" "I") ∈ sj_kw := sj_k1 208 rfl rfl
theorem kw_472 : (Jvm.Cond.methodLink "SlopeJudge$Tape" (71 : Nat) ({ cls := "java/lang/String", name := "length", desc := "()I" } : Jvm.MethodName)) ∈ sj_kw := sj_k2 232 rfl rfl
theorem kw_482 : (Jvm.Cond.methodLink "SlopeJudge$Tape" (76 : Nat) ({ cls := "java/lang/String", name := "charAt", desc := "(I)C" } : Jvm.MethodName)) ∈ sj_kw := sj_k3 2 rfl rfl
theorem kw_204 : (Jvm.Cond.fieldLink "SlopeJudge$Tape" (25 : Nat) "SlopeJudge$Tape" "fault" "I") ∈ sj_kw := sj_k1 204 rfl rfl
theorem kw_520 : (Jvm.Cond.methodLink "SlopeJudge$Tape" (47 : Nat) ({ cls := "SlopeJudge$Tape", name := "fail", desc := "(II)I" } : Jvm.MethodName)) ∈ sj_kw := sj_k3 40 rfl rfl
theorem kw_523 : (Jvm.Cond.code ({ cls := "SlopeJudge$Tape", name := "fail", desc := "(II)I" } : Jvm.MethodName) prog_9_method_4_code (3 : Nat) (Option.some Jvm.ClassFile.FieldType.int)) ∈ sj_kw := sj_k3 43 rfl rfl
theorem ks_15 : (Cond.selects "SlopeJudge$Tape" ({ cls := "SlopeJudge$Tape", name := "fail", desc := "(II)I" } : MethodName) ({ cls := "SlopeJudge$Tape", name := "fail", desc := "(II)I" } : MethodName)) ∈ sj_kw := sj_ks 15 rfl rfl
theorem kw_522 : (Jvm.Cond.instanceMethod ({ cls := "SlopeJudge$Tape", name := "fail", desc := "(II)I" } : Jvm.MethodName)) ∈ sj_kw := sj_k3 42 rfl rfl
theorem kw_528 : (Jvm.Cond.constant "SlopeJudge$Tape" (62 : Nat) (1000000 : Int32)) ∈ sj_kw := sj_k3 48 rfl rfl
theorem kw_529 : (Jvm.Cond.methodLink "SlopeJudge$Tape" (63 : Nat) ({ cls := "java/lang/Math", name := "min", desc := "(II)I" } : Jvm.MethodName)) ∈ sj_kw := sj_k3 49 rfl rfl
theorem kw_537 : (Jvm.Cond.methodLink "SlopeJudge$Tape" (51 : Nat) ({ cls := "SlopeJudge$Tape", name := "sees", desc := "(I)Z" } : Jvm.MethodName)) ∈ sj_kw := sj_k3 57 rfl rfl
theorem kw_540 : (Jvm.Cond.code ({ cls := "SlopeJudge$Tape", name := "sees", desc := "(I)Z" } : Jvm.MethodName) prog_9_method_6_code (2 : Nat) (Option.some Jvm.ClassFile.FieldType.boolean)) ∈ sj_kw := sj_k3 60 rfl rfl
theorem ks_18 : (Cond.selects "SlopeJudge$Tape" ({ cls := "SlopeJudge$Tape", name := "sees", desc := "(I)Z" } : MethodName) ({ cls := "SlopeJudge$Tape", name := "sees", desc := "(I)Z" } : MethodName)) ∈ sj_kw := sj_ks 18 rfl rfl
theorem kw_539 : (Jvm.Cond.instanceMethod ({ cls := "SlopeJudge$Tape", name := "sees", desc := "(I)Z" } : Jvm.MethodName)) ∈ sj_kw := sj_k3 59 rfl rfl
theorem kw_459 : (Jvm.Cond.methodLink "SlopeJudge$Tape" (80 : Nat) ({ cls := "SlopeJudge$Tape", name := "readWord", desc := "()V" } : Jvm.MethodName)) ∈ sj_kw := sj_k2 219 rfl rfl
theorem kw_462 : (Jvm.Cond.code ({ cls := "SlopeJudge$Tape", name := "readWord", desc := "()V" } : Jvm.MethodName) prog_9_method_10_code (1 : Nat) (Option.none : Option Jvm.ClassFile.FieldType)) ∈ sj_kw := sj_k2 222 rfl rfl
theorem ks_12 : (Cond.selects "SlopeJudge$Tape" ({ cls := "SlopeJudge$Tape", name := "readWord", desc := "()V" } : MethodName) ({ cls := "SlopeJudge$Tape", name := "readWord", desc := "()V" } : MethodName)) ∈ sj_kw := sj_ks 12 rfl rfl
theorem kw_461 : (Jvm.Cond.instanceMethod ({ cls := "SlopeJudge$Tape", name := "readWord", desc := "()V" } : Jvm.MethodName)) ∈ sj_kw := sj_k2 221 rfl rfl
theorem kw_468 : (Jvm.Cond.methodLink "SlopeJudge$Tape" (85 : Nat) ({ cls := "SlopeJudge$Tape", name := "isWord", desc := "(Ljava/lang/String;)Z" } : Jvm.MethodName)) ∈ sj_kw := sj_k2 228 rfl rfl
theorem kw_471 : (Jvm.Cond.code ({ cls := "SlopeJudge$Tape", name := "isWord", desc := "(Ljava/lang/String;)Z" } : Jvm.MethodName) prog_9_method_11_code (3 : Nat) (Option.some Jvm.ClassFile.FieldType.boolean)) ∈ sj_kw := sj_k2 231 rfl rfl
theorem ks_14 : (Cond.selects "SlopeJudge$Tape" ({ cls := "SlopeJudge$Tape", name := "isWord", desc := "(Ljava/lang/String;)Z" } : MethodName) ({ cls := "SlopeJudge$Tape", name := "isWord", desc := "(Ljava/lang/String;)Z" } : MethodName)) ∈ sj_kw := sj_ks 14 rfl rfl
theorem kw_470 : (Jvm.Cond.instanceMethod ({ cls := "SlopeJudge$Tape", name := "isWord", desc := "(Ljava/lang/String;)Z" } : Jvm.MethodName)) ∈ sj_kw := sj_k2 230 rfl rfl
theorem kw_524 : (Jvm.Cond.methodLink "SlopeJudge$Tape" (89 : Nat) ({ cls := "SlopeJudge$Tape", name := "readNumbe\x72", desc := "(II)I" } : Jvm.MethodName)) ∈ sj_kw := sj_k3 44 rfl rfl
theorem kw_527 : (Jvm.Cond.code ({ cls := "SlopeJudge$Tape", name := "readNumbe\x72", desc := "(II)I" } : Jvm.MethodName) prog_9_method_9_code (4 : Nat) (Option.some Jvm.ClassFile.FieldType.int)) ∈ sj_kw := sj_k3 47 rfl rfl
theorem ks_16 : (Cond.selects "SlopeJudge$Tape" ({ cls := "SlopeJudge$Tape", name := "readNumbe\x72", desc := "(II)I" } : MethodName) ({ cls := "SlopeJudge$Tape", name := "readNumbe\x72", desc := "(II)I" } : MethodName)) ∈ sj_kw := sj_ks 16 rfl rfl
theorem kw_526 : (Jvm.Cond.instanceMethod ({ cls := "SlopeJudge$Tape", name := "readNumbe\x72", desc := "(II)I" } : Jvm.MethodName)) ∈ sj_kw := sj_k3 46 rfl rfl
theorem kw_532 : (Jvm.Cond.methodLinkNest "SlopeJudge$Tape" (92 : Nat) ({ cls := "SlopeJudge$Ground", name := "begin", desc := "(II)V" } : Jvm.MethodName) "SlopeJudge") ∈ sj_nest := sj_n3 52 rfl rfl
theorem kw_319 : (Jvm.Cond.code ({ cls := "SlopeJudge$Ground", name := "begin", desc := "(II)V" } : Jvm.MethodName) prog_2_method_2_code (3 : Nat) (Option.none : Option Jvm.ClassFile.FieldType)) ∈ sj_kw := sj_k2 79 rfl rfl
theorem ks_0 : (Cond.selects "SlopeJudge$Ground" ({ cls := "SlopeJudge$Ground", name := "begin", desc := "(II)V" } : MethodName) ({ cls := "SlopeJudge$Ground", name := "begin", desc := "(II)V" } : MethodName)) ∈ sj_kw := sj_ks 0 rfl rfl
theorem kw_318 : (Jvm.Cond.instanceMethod ({ cls := "SlopeJudge$Ground", name := "begin", desc := "(II)V" } : Jvm.MethodName)) ∈ sj_kw := sj_k2 78 rfl rfl
theorem kw_533 : (Jvm.Cond.methodLink "SlopeJudge$Tape" (95 : Nat) ({ cls := "SlopeJudge$Tape", name := "readEnd", desc := "()Z" } : Jvm.MethodName)) ∈ sj_kw := sj_k3 53 rfl rfl
theorem kw_536 : (Jvm.Cond.code ({ cls := "SlopeJudge$Tape", name := "readEnd", desc := "()Z" } : Jvm.MethodName) prog_9_method_8_code (1 : Nat) (Option.some Jvm.ClassFile.FieldType.boolean)) ∈ sj_kw := sj_k3 56 rfl rfl
theorem ks_17 : (Cond.selects "SlopeJudge$Tape" ({ cls := "SlopeJudge$Tape", name := "readEnd", desc := "()Z" } : MethodName) ({ cls := "SlopeJudge$Tape", name := "readEnd", desc := "()Z" } : MethodName)) ∈ sj_kw := sj_ks 17 rfl rfl
theorem kw_535 : (Jvm.Cond.instanceMethod ({ cls := "SlopeJudge$Tape", name := "readEnd", desc := "()Z" } : Jvm.MethodName)) ∈ sj_kw := sj_k3 55 rfl rfl
theorem kw_210 : (Jvm.Cond.fieldLink "SlopeJudge$Tape" (28 : Nat) "SlopeJudge$Tape" "told" "I") ∈ sj_kw := sj_k1 210 rfl rfl
theorem kw_557 : (Jvm.Cond.methodLink "SlopeJudge$Tape" (117 : Nat) ({ cls := "SlopeJudge$Tape", name := "isNew", desc := "(I)Z" } : Jvm.MethodName)) ∈ sj_kw := sj_k3 77 rfl rfl
theorem kw_560 : (Jvm.Cond.code ({ cls := "SlopeJudge$Tape", name := "isNew", desc := "(I)Z" } : Jvm.MethodName) prog_9_method_15_code (3 : Nat) (Option.some Jvm.ClassFile.FieldType.boolean)) ∈ sj_kw := sj_k3 80 rfl rfl
theorem ks_21 : (Cond.selects "SlopeJudge$Tape" ({ cls := "SlopeJudge$Tape", name := "isNew", desc := "(I)Z" } : MethodName) ({ cls := "SlopeJudge$Tape", name := "isNew", desc := "(I)Z" } : MethodName)) ∈ sj_kw := sj_ks 21 rfl rfl
theorem kw_559 : (Jvm.Cond.instanceMethod ({ cls := "SlopeJudge$Tape", name := "isNew", desc := "(I)Z" } : Jvm.MethodName)) ∈ sj_kw := sj_k3 79 rfl rfl
theorem kw_66 : (Jvm.Cond.fieldLinkNest "SlopeJudge$Tape" (122 : Nat) "SlopeJudge$Ground" "n" "I" "SlopeJudge") ∈ sj_nest := sj_n1 66 rfl rfl
theorem kw_112 : (Jvm.Cond.fieldLinkNest "SlopeJudge$Tape" (164 : Nat) "SlopeJudge$Ground" "anchorColumn" "[I" "SlopeJudge") ∈ sj_nest := sj_n1 112 rfl rfl
theorem kw_115 : (Jvm.Cond.fieldLinkNest "SlopeJudge$Tape" (167 : Nat) "SlopeJudge$Ground" "anchorHeight" "[I" "SlopeJudge") ∈ sj_nest := sj_n1 115 rfl rfl
theorem kw_118 : (Jvm.Cond.fieldLinkNest "SlopeJudge$Tape" (170 : Nat) "SlopeJudge$Ground" "anchorPull" "[I" "SlopeJudge") ∈ sj_nest := sj_n1 118 rfl rfl
theorem kw_99 : (Jvm.Cond.fieldLinkNest "SlopeJudge$Tape" (155 : Nat) "SlopeJudge$Ground" "weight" "[I" "SlopeJudge") ∈ sj_nest := sj_n1 99 rfl rfl
theorem kw_104 : (Jvm.Cond.fieldLinkNest "SlopeJudge$Tape" (158 : Nat) "SlopeJudge$Ground" "hold" "[I" "SlopeJudge") ∈ sj_nest := sj_n1 104 rfl rfl
theorem kw_109 : (Jvm.Cond.fieldLinkNest "SlopeJudge$Tape" (161 : Nat) "SlopeJudge$Ground" "rub" "[I" "SlopeJudge") ∈ sj_nest := sj_n1 109 rfl rfl
theorem kw_565 : (Jvm.Cond.methodLink "SlopeJudge$Tape" (173 : Nat) ({ cls := "SlopeJudge$Tape", name := "readTimes", desc := "(I)I" } : Jvm.MethodName)) ∈ sj_kw := sj_k3 85 rfl rfl
theorem kw_568 : (Jvm.Cond.code ({ cls := "SlopeJudge$Tape", name := "readTimes", desc := "(I)I" } : Jvm.MethodName) prog_9_method_21_code (2 : Nat) (Option.some Jvm.ClassFile.FieldType.int)) ∈ sj_kw := sj_k3 88 rfl rfl
theorem ks_23 : (Cond.selects "SlopeJudge$Tape" ({ cls := "SlopeJudge$Tape", name := "readTimes", desc := "(I)I" } : MethodName) ({ cls := "SlopeJudge$Tape", name := "readTimes", desc := "(I)I" } : MethodName)) ∈ sj_kw := sj_ks 23 rfl rfl
theorem kw_567 : (Jvm.Cond.instanceMethod ({ cls := "SlopeJudge$Tape", name := "readTimes", desc := "(I)I" } : Jvm.MethodName)) ∈ sj_kw := sj_k3 87 rfl rfl
theorem kw_96 : (Jvm.Cond.fieldLinkNest "SlopeJudge$Tape" (149 : Nat) "SlopeJudge$Ground" "tops" "[I" "SlopeJudge") ∈ sj_nest := sj_n1 96 rfl rfl
theorem kw_577 : (Jvm.Cond.methodLinkNest "SlopeJudge$Tape" (152 : Nat) ({ cls := "SlopeJudge", name := "topPlace", desc := "(II)I" } : Jvm.MethodName) "SlopeJudge") ∈ sj_nest := sj_n3 97 rfl rfl
theorem kw_561 : (Jvm.Cond.methodLink "SlopeJudge$Tape" (125 : Nat) ({ cls := "SlopeJudge$Tape", name := "readRow", desc := "([IIII)Z" } : Jvm.MethodName)) ∈ sj_kw := sj_k3 81 rfl rfl
theorem kw_564 : (Jvm.Cond.code ({ cls := "SlopeJudge$Tape", name := "readRow", desc := "([IIII)Z" } : Jvm.MethodName) prog_9_method_20_code (9 : Nat) (Option.some Jvm.ClassFile.FieldType.boolean)) ∈ sj_kw := sj_k3 84 rfl rfl
theorem ks_22 : (Cond.selects "SlopeJudge$Tape" ({ cls := "SlopeJudge$Tape", name := "readRow", desc := "([IIII)Z" } : MethodName) ({ cls := "SlopeJudge$Tape", name := "readRow", desc := "([IIII)Z" } : MethodName)) ∈ sj_kw := sj_ks 22 rfl rfl
theorem kw_563 : (Jvm.Cond.instanceMethod ({ cls := "SlopeJudge$Tape", name := "readRow", desc := "([IIII)Z" } : Jvm.MethodName)) ∈ sj_kw := sj_k3 83 rfl rfl
theorem kw_77 : (Jvm.Cond.fieldLinkNest "SlopeJudge$Tape" (147 : Nat) "SlopeJudge$Ground" "quake" "I" "SlopeJudge") ∈ sj_nest := sj_n1 77 rfl rfl
theorem kw_545 : (Jvm.Cond.methodLink "SlopeJudge$Tape" (114 : Nat) ({ cls := "SlopeJudge$Tape", name := "lineKind", desc := "()I" } : Jvm.MethodName)) ∈ sj_kw := sj_k3 65 rfl rfl
theorem kw_548 : (Jvm.Cond.code ({ cls := "SlopeJudge$Tape", name := "lineKind", desc := "()I" } : Jvm.MethodName) prog_9_method_13_code (1 : Nat) (Option.some Jvm.ClassFile.FieldType.int)) ∈ sj_kw := sj_k3 68 rfl rfl
theorem ks_20 : (Cond.selects "SlopeJudge$Tape" ({ cls := "SlopeJudge$Tape", name := "lineKind", desc := "()I" } : MethodName) ({ cls := "SlopeJudge$Tape", name := "lineKind", desc := "()I" } : MethodName)) ∈ sj_kw := sj_ks 20 rfl rfl
theorem kw_547 : (Jvm.Cond.instanceMethod ({ cls := "SlopeJudge$Tape", name := "lineKind", desc := "()I" } : Jvm.MethodName)) ∈ sj_kw := sj_k3 67 rfl rfl
theorem kw_82 : (Jvm.Cond.fieldLinkNest "SlopeJudge$Tape" (120 : Nat) "SlopeJudge$Ground" "ground" "[I" "SlopeJudge") ∈ sj_nest := sj_n1 82 rfl rfl
theorem kw_87 : (Jvm.Cond.fieldLinkNest "SlopeJudge$Tape" (129 : Nat) "SlopeJudge$Ground" "rock" "[I" "SlopeJudge") ∈ sj_nest := sj_n1 87 rfl rfl
theorem kw_90 : (Jvm.Cond.fieldLinkNest "SlopeJudge$Tape" (131 : Nat) "SlopeJudge$Ground" "wate\x72" "[I" "SlopeJudge") ∈ sj_nest := sj_n1 90 rfl rfl
theorem kw_93 : (Jvm.Cond.fieldLinkNest "SlopeJudge$Tape" (133 : Nat) "SlopeJudge$Ground" "load" "[I" "SlopeJudge") ∈ sj_nest := sj_n1 93 rfl rfl
theorem kw_569 : (Jvm.Cond.methodLink "SlopeJudge$Tape" (135 : Nat) ({ cls := "SlopeJudge$Tape", name := "readQuake", desc := "(LSlopeJudge$Ground;)Z" } : Jvm.MethodName)) ∈ sj_kw := sj_k3 89 rfl rfl
theorem kw_572 : (Jvm.Cond.code ({ cls := "SlopeJudge$Tape", name := "readQuake", desc := "(LSlopeJudge$Ground;)Z" } : Jvm.MethodName) prog_9_method_16_code (3 : Nat) (Option.some Jvm.ClassFile.FieldType.boolean)) ∈ sj_kw := sj_k3 92 rfl rfl
theorem ks_24 : (Cond.selects "SlopeJudge$Tape" ({ cls := "SlopeJudge$Tape", name := "readQuake", desc := "(LSlopeJudge$Ground;)Z" } : MethodName) ({ cls := "SlopeJudge$Tape", name := "readQuake", desc := "(LSlopeJudge$Ground;)Z" } : MethodName)) ∈ sj_kw := sj_ks 24 rfl rfl
theorem kw_571 : (Jvm.Cond.instanceMethod ({ cls := "SlopeJudge$Tape", name := "readQuake", desc := "(LSlopeJudge$Ground;)Z" } : Jvm.MethodName)) ∈ sj_kw := sj_k3 91 rfl rfl
theorem kw_573 : (Jvm.Cond.methodLink "SlopeJudge$Tape" (138 : Nat) ({ cls := "SlopeJudge$Tape", name := "readTop", desc := "(LSlopeJudge$Ground;)Z" } : Jvm.MethodName)) ∈ sj_kw := sj_k3 93 rfl rfl
theorem kw_576 : (Jvm.Cond.code ({ cls := "SlopeJudge$Tape", name := "readTop", desc := "(LSlopeJudge$Ground;)Z" } : Jvm.MethodName) prog_9_method_17_code (3 : Nat) (Option.some Jvm.ClassFile.FieldType.boolean)) ∈ sj_kw := sj_k3 96 rfl rfl
theorem ks_25 : (Cond.selects "SlopeJudge$Tape" ({ cls := "SlopeJudge$Tape", name := "readTop", desc := "(LSlopeJudge$Ground;)Z" } : MethodName) ({ cls := "SlopeJudge$Tape", name := "readTop", desc := "(LSlopeJudge$Ground;)Z" } : MethodName)) ∈ sj_kw := sj_ks 25 rfl rfl
theorem kw_575 : (Jvm.Cond.instanceMethod ({ cls := "SlopeJudge$Tape", name := "readTop", desc := "(LSlopeJudge$Ground;)Z" } : Jvm.MethodName)) ∈ sj_kw := sj_k3 95 rfl rfl
theorem kw_578 : (Jvm.Cond.methodLink "SlopeJudge$Tape" (141 : Nat) ({ cls := "SlopeJudge$Tape", name := "readSoil", desc := "(LSlopeJudge$Ground;)Z" } : Jvm.MethodName)) ∈ sj_kw := sj_k3 98 rfl rfl
theorem kw_581 : (Jvm.Cond.code ({ cls := "SlopeJudge$Tape", name := "readSoil", desc := "(LSlopeJudge$Ground;)Z" } : Jvm.MethodName) prog_9_method_18_code (6 : Nat) (Option.some Jvm.ClassFile.FieldType.boolean)) ∈ sj_kw := sj_k3 101 rfl rfl
theorem ks_26 : (Cond.selects "SlopeJudge$Tape" ({ cls := "SlopeJudge$Tape", name := "readSoil", desc := "(LSlopeJudge$Ground;)Z" } : MethodName) ({ cls := "SlopeJudge$Tape", name := "readSoil", desc := "(LSlopeJudge$Ground;)Z" } : MethodName)) ∈ sj_kw := sj_ks 26 rfl rfl
theorem kw_580 : (Jvm.Cond.instanceMethod ({ cls := "SlopeJudge$Tape", name := "readSoil", desc := "(LSlopeJudge$Ground;)Z" } : Jvm.MethodName)) ∈ sj_kw := sj_k3 100 rfl rfl
theorem kw_582 : (Jvm.Cond.methodLink "SlopeJudge$Tape" (144 : Nat) ({ cls := "SlopeJudge$Tape", name := "readAncho\x72", desc := "(LSlopeJudge$Ground;)Z" } : Jvm.MethodName)) ∈ sj_kw := sj_k3 102 rfl rfl
theorem kw_585 : (Jvm.Cond.code ({ cls := "SlopeJudge$Tape", name := "readAncho\x72", desc := "(LSlopeJudge$Ground;)Z" } : Jvm.MethodName) prog_9_method_19_code (6 : Nat) (Option.some Jvm.ClassFile.FieldType.boolean)) ∈ sj_kw := sj_k3 105 rfl rfl
theorem ks_27 : (Cond.selects "SlopeJudge$Tape" ({ cls := "SlopeJudge$Tape", name := "readAncho\x72", desc := "(LSlopeJudge$Ground;)Z" } : MethodName) ({ cls := "SlopeJudge$Tape", name := "readAncho\x72", desc := "(LSlopeJudge$Ground;)Z" } : MethodName)) ∈ sj_kw := sj_ks 27 rfl rfl
theorem kw_584 : (Jvm.Cond.instanceMethod ({ cls := "SlopeJudge$Tape", name := "readAncho\x72", desc := "(LSlopeJudge$Ground;)Z" } : Jvm.MethodName)) ∈ sj_kw := sj_k3 104 rfl rfl
theorem kw_586 : (Jvm.Cond.methodLinkNest "SlopeJudge$Tape" (41 : Nat) ({ cls := "SlopeJudge$Ground", name := "rockIsBelow", desc := "()Z" } : Jvm.MethodName) "SlopeJudge") ∈ sj_nest := sj_n3 106 rfl rfl
theorem kw_589 : (Jvm.Cond.code ({ cls := "SlopeJudge$Ground", name := "rockIsBelow", desc := "()Z" } : Jvm.MethodName) prog_2_method_6_code (2 : Nat) (Option.some Jvm.ClassFile.FieldType.boolean)) ∈ sj_kw := sj_k3 109 rfl rfl
theorem ks_28 : (Cond.selects "SlopeJudge$Ground" ({ cls := "SlopeJudge$Ground", name := "rockIsBelow", desc := "()Z" } : MethodName) ({ cls := "SlopeJudge$Ground", name := "rockIsBelow", desc := "()Z" } : MethodName)) ∈ sj_kw := sj_ks 28 rfl rfl
theorem kw_588 : (Jvm.Cond.instanceMethod ({ cls := "SlopeJudge$Ground", name := "rockIsBelow", desc := "()Z" } : Jvm.MethodName)) ∈ sj_kw := sj_k3 108 rfl rfl
theorem kw_541 : (Jvm.Cond.methodLink "SlopeJudge$Tape" (38 : Nat) ({ cls := "SlopeJudge$Tape", name := "readLine", desc := "(LSlopeJudge$Ground;)Z" } : Jvm.MethodName)) ∈ sj_kw := sj_k3 61 rfl rfl
theorem kw_544 : (Jvm.Cond.code ({ cls := "SlopeJudge$Tape", name := "readLine", desc := "(LSlopeJudge$Ground;)Z" } : Jvm.MethodName) prog_9_method_14_code (3 : Nat) (Option.some Jvm.ClassFile.FieldType.boolean)) ∈ sj_kw := sj_k3 64 rfl rfl
theorem ks_19 : (Cond.selects "SlopeJudge$Tape" ({ cls := "SlopeJudge$Tape", name := "readLine", desc := "(LSlopeJudge$Ground;)Z" } : MethodName) ({ cls := "SlopeJudge$Tape", name := "readLine", desc := "(LSlopeJudge$Ground;)Z" } : MethodName)) ∈ sj_kw := sj_ks 19 rfl rfl
theorem kw_543 : (Jvm.Cond.instanceMethod ({ cls := "SlopeJudge$Tape", name := "readLine", desc := "(LSlopeJudge$Ground;)Z" } : Jvm.MethodName)) ∈ sj_kw := sj_k3 63 rfl rfl
theorem kw_455 : (Jvm.Cond.methodLink "SlopeJudge$Tape" (34 : Nat) ({ cls := "SlopeJudge$Tape", name := "readColumns", desc := "(LSlopeJudge$Ground;)Z" } : Jvm.MethodName)) ∈ sj_kw := sj_k2 215 rfl rfl
theorem kw_458 : (Jvm.Cond.code ({ cls := "SlopeJudge$Tape", name := "readColumns", desc := "(LSlopeJudge$Ground;)Z" } : Jvm.MethodName) prog_9_method_12_code (4 : Nat) (Option.some Jvm.ClassFile.FieldType.boolean)) ∈ sj_kw := sj_k2 218 rfl rfl
theorem ks_11 : (Cond.selects "SlopeJudge$Tape" ({ cls := "SlopeJudge$Tape", name := "readColumns", desc := "(LSlopeJudge$Ground;)Z" } : MethodName) ({ cls := "SlopeJudge$Tape", name := "readColumns", desc := "(LSlopeJudge$Ground;)Z" } : MethodName)) ∈ sj_kw := sj_ks 11 rfl rfl
theorem kw_457 : (Jvm.Cond.instanceMethod ({ cls := "SlopeJudge$Tape", name := "readColumns", desc := "(LSlopeJudge$Ground;)Z" } : Jvm.MethodName)) ∈ sj_kw := sj_k2 217 rfl rfl
theorem kw_333 : (Jvm.Cond.fieldLink "SlopeJudge" (39 : Nat) "SlopeJudge" "acts" "[LSlopeJudge$Ground;") ∈ sj_kw := sj_k2 93 rfl rfl
theorem kw_26 : (Jvm.Cond.classLink "SlopeJudge" (9 : Nat) "SlopeJudge$Ground") ∈ sj_kw := sj_k1 26 rfl rfl
theorem kw_27 : (Jvm.Cond.instantiable "SlopeJudge$Ground" (15 : Nat)) ∈ sj_kw := sj_k1 27 rfl rfl
theorem kw_28 : (Jvm.Cond.methodLinkNest "SlopeJudge" (11 : Nat) ({ cls := "SlopeJudge$Ground", name := "<init>", desc := "()V" } : Jvm.MethodName) "SlopeJudge") ∈ sj_nest := sj_n1 28 rfl rfl
theorem kw_30 : (Jvm.Cond.code ({ cls := "SlopeJudge$Ground", name := "<init>", desc := "()V" } : Jvm.MethodName) prog_2_method_1_code (1 : Nat) (Option.none : Option Jvm.ClassFile.FieldType)) ∈ sj_kw := sj_k1 30 rfl rfl
theorem kw_29 : (Jvm.Cond.instanceMethod ({ cls := "SlopeJudge$Ground", name := "<init>", desc := "()V" } : Jvm.MethodName)) ∈ sj_kw := sj_k1 29 rfl rfl
theorem kw_23 : (Jvm.Cond.methodLink "SlopeJudge" (3 : Nat) ({ cls := "java/lang/Object", name := "<init>", desc := "()V" } : Jvm.MethodName)) ∈ sj_kw := sj_k1 23 rfl rfl
theorem kw_327 : (Jvm.Cond.fieldLink "SlopeJudge" (12 : Nat) "SlopeJudge" "now" "LSlopeJudge$Ground;") ∈ sj_kw := sj_k2 87 rfl rfl
theorem kw_328 : (Jvm.Cond.fieldLink "SlopeJudge" (16 : Nat) "SlopeJudge" "thought" "LSlopeJudge$Ground;") ∈ sj_kw := sj_k2 88 rfl rfl
theorem kw_329 : (Jvm.Cond.fieldLink "SlopeJudge" (19 : Nat) "SlopeJudge" "imageGround" "LSlopeJudge$Ground;") ∈ sj_kw := sj_k2 89 rfl rfl
theorem kw_152 : (Jvm.Cond.classLink "SlopeJudge" (22 : Nat) "SlopeJudge$Held") ∈ sj_kw := sj_k1 152 rfl rfl
theorem kw_153 : (Jvm.Cond.instantiable "SlopeJudge$Held" (4 : Nat)) ∈ sj_kw := sj_k1 153 rfl rfl
theorem kw_4 : (Jvm.Cond.initialized "SlopeJudge$Held") ∈ sj_kw := sj_k1 4 rfl rfl
theorem kw_154 : (Jvm.Cond.methodLinkNest "SlopeJudge" (24 : Nat) ({ cls := "SlopeJudge$Held", name := "<init>", desc := "()V" } : Jvm.MethodName) "SlopeJudge") ∈ sj_nest := sj_n1 154 rfl rfl
theorem kw_156 : (Jvm.Cond.code ({ cls := "SlopeJudge$Held", name := "<init>", desc := "()V" } : Jvm.MethodName) prog_3_method_1_code (1 : Nat) (Option.none : Option Jvm.ClassFile.FieldType)) ∈ sj_kw := sj_k1 156 rfl rfl
theorem kw_155 : (Jvm.Cond.instanceMethod ({ cls := "SlopeJudge$Held", name := "<init>", desc := "()V" } : Jvm.MethodName)) ∈ sj_kw := sj_k1 155 rfl rfl
theorem kw_330 : (Jvm.Cond.fieldLink "SlopeJudge" (25 : Nat) "SlopeJudge" "held" "LSlopeJudge$Held;") ∈ sj_kw := sj_k2 90 rfl rfl
theorem kw_331 : (Jvm.Cond.fieldLink "SlopeJudge" (29 : Nat) "SlopeJudge" "imageHeld" "LSlopeJudge$Held;") ∈ sj_kw := sj_k2 91 rfl rfl
theorem kw_178 : (Jvm.Cond.classLink "SlopeJudge" (32 : Nat) "SlopeJudge$Report") ∈ sj_kw := sj_k1 178 rfl rfl
theorem kw_179 : (Jvm.Cond.instantiable "SlopeJudge$Report" (2 : Nat)) ∈ sj_kw := sj_k1 179 rfl rfl
theorem kw_180 : (Jvm.Cond.methodLinkNest "SlopeJudge" (34 : Nat) ({ cls := "SlopeJudge$Report", name := "<init>", desc := "()V" } : Jvm.MethodName) "SlopeJudge") ∈ sj_nest := sj_n1 180 rfl rfl
theorem kw_182 : (Jvm.Cond.code ({ cls := "SlopeJudge$Report", name := "<init>", desc := "()V" } : Jvm.MethodName) prog_4_method_1_code (1 : Nat) (Option.none : Option Jvm.ClassFile.FieldType)) ∈ sj_kw := sj_k1 182 rfl rfl
theorem kw_181 : (Jvm.Cond.instanceMethod ({ cls := "SlopeJudge$Report", name := "<init>", desc := "()V" } : Jvm.MethodName)) ∈ sj_kw := sj_k1 181 rfl rfl
theorem kw_332 : (Jvm.Cond.fieldLink "SlopeJudge" (35 : Nat) "SlopeJudge" "chosen" "LSlopeJudge$Report;") ∈ sj_kw := sj_k2 92 rfl rfl
theorem kw_194 : (Jvm.Cond.classLink "SlopeJudge" (43 : Nat) "SlopeJudge$Tape") ∈ sj_kw := sj_k1 194 rfl rfl
theorem kw_195 : (Jvm.Cond.instantiable "SlopeJudge$Tape" (8 : Nat)) ∈ sj_kw := sj_k1 195 rfl rfl
theorem kw_196 : (Jvm.Cond.methodLinkNest "SlopeJudge" (45 : Nat) ({ cls := "SlopeJudge$Tape", name := "<init>", desc := "()V" } : Jvm.MethodName) "SlopeJudge") ∈ sj_nest := sj_n1 196 rfl rfl
theorem kw_198 : (Jvm.Cond.code ({ cls := "SlopeJudge$Tape", name := "<init>", desc := "()V" } : Jvm.MethodName) prog_9_method_1_code (1 : Nat) (Option.none : Option Jvm.ClassFile.FieldType)) ∈ sj_kw := sj_k1 198 rfl rfl
theorem kw_197 : (Jvm.Cond.instanceMethod ({ cls := "SlopeJudge$Tape", name := "<init>", desc := "()V" } : Jvm.MethodName)) ∈ sj_kw := sj_k1 197 rfl rfl
theorem kw_334 : (Jvm.Cond.fieldLink "SlopeJudge" (46 : Nat) "SlopeJudge" "tape" "LSlopeJudge$Tape;") ∈ sj_kw := sj_k2 94 rfl rfl
theorem kw_228 : (Jvm.Cond.classLink "SlopeJudge" (50 : Nat) "SlopeJudge$Slices") ∈ sj_kw := sj_k1 228 rfl rfl
theorem kw_230 : (Jvm.Cond.methodLinkNest "SlopeJudge" (52 : Nat) ({ cls := "SlopeJudge$Slices", name := "<init>", desc := "()V" } : Jvm.MethodName) "SlopeJudge") ∈ sj_nest := sj_n1 230 rfl rfl
theorem kw_335 : (Jvm.Cond.fieldLink "SlopeJudge" (53 : Nat) "SlopeJudge" "slices" "LSlopeJudge$Slices;") ∈ sj_kw := sj_k2 95 rfl rfl
theorem kw_277 : (Jvm.Cond.classLink "SlopeJudge" (57 : Nat) "SlopeJudge$Seeke\x72") ∈ sj_kw := sj_k2 37 rfl rfl
theorem kw_278 : (Jvm.Cond.instantiable "SlopeJudge$Seeke\x72" (7 : Nat)) ∈ sj_kw := sj_k2 38 rfl rfl
theorem kw_279 : (Jvm.Cond.methodLinkNest "SlopeJudge" (59 : Nat) ({ cls := "SlopeJudge$Seeke\x72", name := "<init>", desc := "()V" } : Jvm.MethodName) "SlopeJudge") ∈ sj_nest := sj_n2 39 rfl rfl
theorem kw_281 : (Jvm.Cond.code ({ cls := "SlopeJudge$Seeke\x72", name := "<init>", desc := "()V" } : Jvm.MethodName) prog_5_method_1_code (1 : Nat) (Option.none : Option Jvm.ClassFile.FieldType)) ∈ sj_kw := sj_k2 41 rfl rfl
theorem kw_280 : (Jvm.Cond.instanceMethod ({ cls := "SlopeJudge$Seeke\x72", name := "<init>", desc := "()V" } : Jvm.MethodName)) ∈ sj_kw := sj_k2 40 rfl rfl
theorem kw_336 : (Jvm.Cond.fieldLink "SlopeJudge" (60 : Nat) "SlopeJudge" "seeke\x72" "LSlopeJudge$Seeker;") ∈ sj_kw := sj_k2 96 rfl rfl
theorem kw_314 : (Jvm.Cond.classLink "SlopeJudge" (64 : Nat) "SlopeJudge$Slip") ∈ sj_kw := sj_k2 74 rfl rfl
theorem kw_315 : (Jvm.Cond.methodLinkNest "SlopeJudge" (66 : Nat) ({ cls := "SlopeJudge$Slip", name := "<init>", desc := "()V" } : Jvm.MethodName) "SlopeJudge") ∈ sj_nest := sj_n2 75 rfl rfl
theorem kw_337 : (Jvm.Cond.fieldLink "SlopeJudge" (67 : Nat) "SlopeJudge" "trial" "LSlopeJudge$Slip;") ∈ sj_kw := sj_k2 97 rfl rfl
theorem kw_316 : (Jvm.Cond.methodLinkNest "SlopeJudge" (71 : Nat) ({ cls := "SlopeJudge$Ground", name := "begin", desc := "(II)V" } : Jvm.MethodName) "SlopeJudge") ∈ sj_nest := sj_n2 76 rfl rfl
theorem kw_341 : (Jvm.Cond.fieldLink "SlopeJudge" (205 : Nat) "SlopeJudge" "nextAct" "I") ∈ sj_kw := sj_k2 101 rfl rfl
theorem kw_381 : (Jvm.Cond.methodLinkNest "SlopeJudge" (148 : Nat) ({ cls := "SlopeJudge$Ground", name := "copy", desc := "(LSlopeJudge$Ground;)V" } : Jvm.MethodName) "SlopeJudge") ∈ sj_nest := sj_n2 141 rfl rfl
theorem kw_384 : (Jvm.Cond.code ({ cls := "SlopeJudge$Ground", name := "copy", desc := "(LSlopeJudge$Ground;)V" } : Jvm.MethodName) prog_2_method_3_code (2 : Nat) (Option.none : Option Jvm.ClassFile.FieldType)) ∈ sj_kw := sj_k2 144 rfl rfl
theorem ks_3 : (Cond.selects "SlopeJudge$Ground" ({ cls := "SlopeJudge$Ground", name := "copy", desc := "(LSlopeJudge$Ground;)V" } : MethodName) ({ cls := "SlopeJudge$Ground", name := "copy", desc := "(LSlopeJudge$Ground;)V" } : MethodName)) ∈ sj_kw := sj_ks 3 rfl rfl
theorem kw_383 : (Jvm.Cond.instanceMethod ({ cls := "SlopeJudge$Ground", name := "copy", desc := "(LSlopeJudge$Ground;)V" } : Jvm.MethodName)) ∈ sj_kw := sj_k2 143 rfl rfl
theorem kw_340 : (Jvm.Cond.fieldLink "SlopeJudge" (208 : Nat) "SlopeJudge" "actsKept" "I") ∈ sj_kw := sj_k2 100 rfl rfl
theorem kw_377 : (Jvm.Cond.methodLink "SlopeJudge" (75 : Nat) ({ cls := "SlopeJudge", name := "keepAct", desc := "()V" } : Jvm.MethodName)) ∈ sj_kw := sj_k2 137 rfl rfl
theorem kw_380 : (Jvm.Cond.code ({ cls := "SlopeJudge", name := "keepAct", desc := "()V" } : Jvm.MethodName) prog_1_method_19_code (1 : Nat) (Option.none : Option Jvm.ClassFile.FieldType)) ∈ sj_kw := sj_k2 140 rfl rfl
theorem ks_2 : (Cond.selects "SlopeJudge" ({ cls := "SlopeJudge", name := "keepAct", desc := "()V" } : MethodName) ({ cls := "SlopeJudge", name := "keepAct", desc := "()V" } : MethodName)) ∈ sj_kw := sj_ks 2 rfl rfl
theorem kw_379 : (Jvm.Cond.instanceMethod ({ cls := "SlopeJudge", name := "keepAct", desc := "()V" } : Jvm.MethodName)) ∈ sj_kw := sj_k2 139 rfl rfl
theorem kw_80 : (Jvm.Cond.fieldLinkNest "SlopeJudge" (100 : Nat) "SlopeJudge$Ground" "ground" "[I" "SlopeJudge") ∈ sj_nest := sj_n1 80 rfl rfl
theorem kw_85 : (Jvm.Cond.fieldLinkNest "SlopeJudge" (103 : Nat) "SlopeJudge$Ground" "rock" "[I" "SlopeJudge") ∈ sj_nest := sj_n1 85 rfl rfl
theorem kw_120 : (Jvm.Cond.fieldLinkNest "SlopeJudge" (106 : Nat) "SlopeJudge$Ground" "slip" "LSlopeJudge$Slip;" "SlopeJudge") ∈ sj_nest := sj_n1 120 rfl rfl
theorem kw_405 : (Jvm.Cond.methodLinkNest "SlopeJudge" (109 : Nat) ({ cls := "SlopeJudge$Slip", name := "drop", desc := "()V" } : Jvm.MethodName) "SlopeJudge") ∈ sj_nest := sj_n2 165 rfl rfl
theorem kw_95 : (Jvm.Cond.fieldLinkNest "SlopeJudge" (93 : Nat) "SlopeJudge$Ground" "tops" "[I" "SlopeJudge") ∈ sj_nest := sj_n1 95 rfl rfl
theorem kw_406 : (Jvm.Cond.methodLink "SlopeJudge" (96 : Nat) ({ cls := "SlopeJudge", name := "topPlace", desc := "(II)I" } : Jvm.MethodName)) ∈ sj_kw := sj_k2 166 rfl rfl
theorem kw_92 : (Jvm.Cond.fieldLinkNest "SlopeJudge" (90 : Nat) "SlopeJudge$Ground" "load" "[I" "SlopeJudge") ∈ sj_nest := sj_n1 92 rfl rfl
theorem kw_89 : (Jvm.Cond.fieldLinkNest "SlopeJudge" (86 : Nat) "SlopeJudge$Ground" "wate\x72" "[I" "SlopeJudge") ∈ sj_nest := sj_n1 89 rfl rfl
theorem kw_397 : (Jvm.Cond.methodLinkNest "SlopeJudge" (78 : Nat) ({ cls := "SlopeJudge$Ground", name := "hasColumn", desc := "(I)Z" } : Jvm.MethodName) "SlopeJudge") ∈ sj_nest := sj_n2 157 rfl rfl
theorem kw_401 : (Jvm.Cond.methodLink "SlopeJudge" (82 : Nat) ({ cls := "SlopeJudge", name := "tellRock", desc := "(II)Z" } : Jvm.MethodName)) ∈ sj_kw := sj_k2 161 rfl rfl
theorem kw_404 : (Jvm.Cond.code ({ cls := "SlopeJudge", name := "tellRock", desc := "(II)Z" } : Jvm.MethodName) prog_1_method_4_code (3 : Nat) (Option.some Jvm.ClassFile.FieldType.boolean)) ∈ sj_kw := sj_k2 164 rfl rfl
theorem ks_6 : (Cond.selects "SlopeJudge" ({ cls := "SlopeJudge", name := "tellRock", desc := "(II)Z" } : MethodName) ({ cls := "SlopeJudge", name := "tellRock", desc := "(II)Z" } : MethodName)) ∈ sj_kw := sj_ks 6 rfl rfl
theorem kw_403 : (Jvm.Cond.instanceMethod ({ cls := "SlopeJudge", name := "tellRock", desc := "(II)Z" } : Jvm.MethodName)) ∈ sj_kw := sj_k2 163 rfl rfl
theorem kw_413 : (Jvm.Cond.methodLinkNest "SlopeJudge" (112 : Nat) ({ cls := "SlopeJudge$Ground", name := "canLowe\x72", desc := "(II)Z" } : Jvm.MethodName) "SlopeJudge") ∈ sj_nest := sj_n2 173 rfl rfl
theorem kw_416 : (Jvm.Cond.code ({ cls := "SlopeJudge$Ground", name := "canLowe\x72", desc := "(II)Z" } : Jvm.MethodName) prog_2_method_5_code (5 : Nat) (Option.some Jvm.ClassFile.FieldType.boolean)) ∈ sj_kw := sj_k2 176 rfl rfl
theorem ks_7 : (Cond.selects "SlopeJudge$Ground" ({ cls := "SlopeJudge$Ground", name := "canLowe\x72", desc := "(II)Z" } : MethodName) ({ cls := "SlopeJudge$Ground", name := "canLowe\x72", desc := "(II)Z" } : MethodName)) ∈ sj_kw := sj_ks 7 rfl rfl
theorem kw_415 : (Jvm.Cond.instanceMethod ({ cls := "SlopeJudge$Ground", name := "canLowe\x72", desc := "(II)Z" } : Jvm.MethodName)) ∈ sj_kw := sj_k2 175 rfl rfl
theorem kw_98 : (Jvm.Cond.fieldLinkNest "SlopeJudge" (115 : Nat) "SlopeJudge$Ground" "weight" "[I" "SlopeJudge") ∈ sj_nest := sj_n1 98 rfl rfl
theorem kw_102 : (Jvm.Cond.fieldLinkNest "SlopeJudge" (118 : Nat) "SlopeJudge$Ground" "hold" "[I" "SlopeJudge") ∈ sj_nest := sj_n1 102 rfl rfl
theorem kw_107 : (Jvm.Cond.fieldLinkNest "SlopeJudge" (121 : Nat) "SlopeJudge$Ground" "rub" "[I" "SlopeJudge") ∈ sj_nest := sj_n1 107 rfl rfl
theorem kw_75 : (Jvm.Cond.fieldLinkNest "SlopeJudge" (124 : Nat) "SlopeJudge$Ground" "quake" "I" "SlopeJudge") ∈ sj_nest := sj_n1 75 rfl rfl
theorem kw_111 : (Jvm.Cond.fieldLinkNest "SlopeJudge" (128 : Nat) "SlopeJudge$Ground" "anchorColumn" "[I" "SlopeJudge") ∈ sj_nest := sj_n1 111 rfl rfl
theorem kw_114 : (Jvm.Cond.fieldLinkNest "SlopeJudge" (131 : Nat) "SlopeJudge$Ground" "anchorHeight" "[I" "SlopeJudge") ∈ sj_nest := sj_n1 114 rfl rfl
theorem kw_117 : (Jvm.Cond.fieldLinkNest "SlopeJudge" (134 : Nat) "SlopeJudge$Ground" "anchorPull" "[I" "SlopeJudge") ∈ sj_nest := sj_n1 117 rfl rfl
theorem kw_202 : (Jvm.Cond.fieldLinkNest "SlopeJudge" (137 : Nat) "SlopeJudge$Tape" "length" "I" "SlopeJudge") ∈ sj_nest := sj_n1 202 rfl rfl
theorem kw_435 : (Jvm.Cond.methodLinkNest "SlopeJudge" (140 : Nat) ({ cls := "SlopeJudge$Tape", name := "put", desc := "(I)V" } : Jvm.MethodName) "SlopeJudge") ∈ sj_nest := sj_n2 195 rfl rfl
theorem kw_438 : (Jvm.Cond.code ({ cls := "SlopeJudge$Tape", name := "put", desc := "(I)V" } : Jvm.MethodName) prog_9_method_2_code (3 : Nat) (Option.none : Option Jvm.ClassFile.FieldType)) ∈ sj_kw := sj_k2 198 rfl rfl
theorem ks_8 : (Cond.selects "SlopeJudge$Tape" ({ cls := "SlopeJudge$Tape", name := "put", desc := "(I)V" } : MethodName) ({ cls := "SlopeJudge$Tape", name := "put", desc := "(I)V" } : MethodName)) ∈ sj_kw := sj_ks 8 rfl rfl
theorem kw_437 : (Jvm.Cond.instanceMethod ({ cls := "SlopeJudge$Tape", name := "put", desc := "(I)V" } : Jvm.MethodName)) ∈ sj_kw := sj_k2 197 rfl rfl
theorem kw_447 : (Jvm.Cond.methodLinkNest "SlopeJudge" (144 : Nat) ({ cls := "SlopeJudge$Tape", name := "read", desc := "(LSlopeJudge$Ground;)I" } : Jvm.MethodName) "SlopeJudge") ∈ sj_nest := sj_n2 207 rfl rfl
theorem kw_450 : (Jvm.Cond.code ({ cls := "SlopeJudge$Tape", name := "read", desc := "(LSlopeJudge$Ground;)I" } : Jvm.MethodName) prog_9_method_3_code (3 : Nat) (Option.some Jvm.ClassFile.FieldType.int)) ∈ sj_kw := sj_k2 210 rfl rfl
theorem ks_9 : (Cond.selects "SlopeJudge$Tape" ({ cls := "SlopeJudge$Tape", name := "read", desc := "(LSlopeJudge$Ground;)I" } : MethodName) ({ cls := "SlopeJudge$Tape", name := "read", desc := "(LSlopeJudge$Ground;)I" } : MethodName)) ∈ sj_kw := sj_ks 9 rfl rfl
theorem kw_449 : (Jvm.Cond.instanceMethod ({ cls := "SlopeJudge$Tape", name := "read", desc := "(LSlopeJudge$Ground;)I" } : Jvm.MethodName)) ∈ sj_kw := sj_k2 209 rfl rfl
theorem kw_207 : (Jvm.Cond.fieldLinkNest "SlopeJudge" (155 : Nat) "SlopeJudge$Tape" "place" "I" "SlopeJudge") ∈ sj_nest := sj_n1 207 rfl rfl
theorem kw_205 : (Jvm.Cond.fieldLinkNest "SlopeJudge" (152 : Nat) "SlopeJudge$Tape" "fault" "I" "SlopeJudge") ∈ sj_nest := sj_n1 205 rfl rfl
theorem kw_620 : (Jvm.Cond.methodLinkNest "SlopeJudge" (196 : Nat) ({ cls := "SlopeJudge$Slip", name := "copy", desc := "(LSlopeJudge$Slip;)V" } : Jvm.MethodName) "SlopeJudge") ∈ sj_nest := sj_n3 140 rfl rfl
theorem kw_621 : (Jvm.Cond.methodLinkNest "SlopeJudge" (199 : Nat) ({ cls := "SlopeJudge$Slip", name := "count", desc := "()I" } : Jvm.MethodName) "SlopeJudge") ∈ sj_nest := sj_n3 141 rfl rfl
theorem kw_599 : (Jvm.Cond.methodLink "SlopeJudge" (158 : Nat) ({ cls := "SlopeJudge", name := "isCircle", desc := "(III)Z" } : Jvm.MethodName)) ∈ sj_kw := sj_k3 119 rfl rfl
theorem kw_602 : (Jvm.Cond.methodLinkNest "SlopeJudge" (162 : Nat) ({ cls := "SlopeJudge$Slip", name := "cut", desc := "(LSlopeJudge$Ground;IIIZ)Z" } : Jvm.MethodName) "SlopeJudge") ∈ sj_nest := sj_n3 122 rfl rfl
theorem kw_616 : (Jvm.Cond.methodLink "SlopeJudge" (166 : Nat) ({ cls := "SlopeJudge", name := "takeTrial", desc := "()I" } : Jvm.MethodName)) ∈ sj_kw := sj_k3 136 rfl rfl
theorem kw_619 : (Jvm.Cond.code ({ cls := "SlopeJudge", name := "takeTrial", desc := "()I" } : Jvm.MethodName) prog_1_method_17_code (1 : Nat) (Option.some Jvm.ClassFile.FieldType.int)) ∈ sj_kw := sj_k3 139 rfl rfl
theorem ks_31 : (Cond.selects "SlopeJudge" ({ cls := "SlopeJudge", name := "takeTrial", desc := "()I" } : MethodName) ({ cls := "SlopeJudge", name := "takeTrial", desc := "()I" } : MethodName)) ∈ sj_kw := sj_ks 31 rfl rfl
theorem kw_618 : (Jvm.Cond.instanceMethod ({ cls := "SlopeJudge", name := "takeTrial", desc := "()I" } : Jvm.MethodName)) ∈ sj_kw := sj_k3 138 rfl rfl
theorem kw_166 : (Jvm.Cond.fieldLinkNest "SlopeJudge" (170 : Nat) "SlopeJudge$Held" "points" "I" "SlopeJudge") ∈ sj_nest := sj_n1 166 rfl rfl
theorem kw_160 : (Jvm.Cond.fieldLinkNest "SlopeJudge" (173 : Nat) "SlopeJudge$Held" "pointColumn" "[I" "SlopeJudge") ∈ sj_nest := sj_n1 160 rfl rfl
theorem kw_163 : (Jvm.Cond.fieldLinkNest "SlopeJudge" (176 : Nat) "SlopeJudge$Held" "pointHeight" "[I" "SlopeJudge") ∈ sj_nest := sj_n1 163 rfl rfl
theorem kw_633 : (Jvm.Cond.methodLinkNest "SlopeJudge" (179 : Nat) ({ cls := "SlopeJudge$Slip", name := "follow", desc := "(LSlopeJudge$Ground;LSlopeJudge$Held;Z)Z" } : Jvm.MethodName) "SlopeJudge") ∈ sj_nest := sj_n3 153 rfl rfl
theorem kw_636 : (Jvm.Cond.code ({ cls := "SlopeJudge$Slip", name := "follow", desc := "(LSlopeJudge$Ground;LSlopeJudge$Held;Z)Z" } : Jvm.MethodName) prog_7_method_10_code (10 : Nat) (Option.some Jvm.ClassFile.FieldType.boolean)) ∈ sj_kw := sj_k3 156 rfl rfl
theorem ks_33 : (Cond.selects "SlopeJudge$Slip" ({ cls := "SlopeJudge$Slip", name := "follow", desc := "(LSlopeJudge$Ground;LSlopeJudge$Held;Z)Z" } : MethodName) ({ cls := "SlopeJudge$Slip", name := "follow", desc := "(LSlopeJudge$Ground;LSlopeJudge$Held;Z)Z" } : MethodName)) ∈ sj_kw := sj_ks 33 rfl rfl
theorem kw_635 : (Jvm.Cond.instanceMethod ({ cls := "SlopeJudge$Slip", name := "follow", desc := "(LSlopeJudge$Ground;LSlopeJudge$Held;Z)Z" } : Jvm.MethodName)) ∈ sj_kw := sj_k3 155 rfl rfl
theorem kw_338 : (Jvm.Cond.fieldLink "SlopeJudge" (397 : Nat) "SlopeJudge" "table" "LSlopeJudge$Table;") ∈ sj_kw := sj_k2 98 rfl rfl
theorem kw_704 : (Jvm.Cond.methodLinkNest "SlopeJudge" (402 : Nat) ({ cls := "SlopeJudge$Table", name := "judge", desc := "(LSlopeJudge$Ground;IZ)V" } : Jvm.MethodName) "SlopeJudge") ∈ sj_nest := sj_n3 224 rfl rfl
theorem kw_707 : (Jvm.Cond.code ({ cls := "SlopeJudge$Table", name := "judge", desc := "(LSlopeJudge$Ground;IZ)V" } : Jvm.MethodName) prog_8_method_2_code (7 : Nat) (Option.none : Option Jvm.ClassFile.FieldType)) ∈ sj_kw := sj_k3 227 rfl rfl
theorem ks_35 : (Cond.selects "SlopeJudge$Table" ({ cls := "SlopeJudge$Table", name := "judge", desc := "(LSlopeJudge$Ground;IZ)V" } : MethodName) ({ cls := "SlopeJudge$Table", name := "judge", desc := "(LSlopeJudge$Ground;IZ)V" } : MethodName)) ∈ sj_kw := sj_ks 35 rfl rfl
theorem kw_706 : (Jvm.Cond.instanceMethod ({ cls := "SlopeJudge$Table", name := "judge", desc := "(LSlopeJudge$Ground;IZ)V" } : Jvm.MethodName)) ∈ sj_kw := sj_k3 226 rfl rfl
theorem kw_651 : (Jvm.Cond.classLink "SlopeJudge" (188 : Nat) "SlopeJudge$Table") ∈ sj_kw := sj_k3 171 rfl rfl
theorem kw_652 : (Jvm.Cond.instantiable "SlopeJudge$Table" (14 : Nat)) ∈ sj_kw := sj_k3 172 rfl rfl
theorem kw_653 : (Jvm.Cond.methodLinkNest "SlopeJudge" (401 : Nat) ({ cls := "SlopeJudge$Table", name := "<init>", desc := "()V" } : Jvm.MethodName) "SlopeJudge") ∈ sj_nest := sj_n3 173 rfl rfl
theorem kw_655 : (Jvm.Cond.code ({ cls := "SlopeJudge$Table", name := "<init>", desc := "()V" } : Jvm.MethodName) prog_8_method_1_code (1 : Nat) (Option.none : Option Jvm.ClassFile.FieldType)) ∈ sj_kw := sj_k3 175 rfl rfl
theorem kw_654 : (Jvm.Cond.instanceMethod ({ cls := "SlopeJudge$Table", name := "<init>", desc := "()V" } : Jvm.MethodName)) ∈ sj_kw := sj_k3 174 rfl rfl
theorem kw_647 : (Jvm.Cond.methodLink "SlopeJudge" (183 : Nat) ({ cls := "SlopeJudge", name := "tableOf", desc := "(IZ)LSlopeJudge$Table;" } : Jvm.MethodName)) ∈ sj_kw := sj_k3 167 rfl rfl
theorem kw_650 : (Jvm.Cond.code ({ cls := "SlopeJudge", name := "tableOf", desc := "(IZ)LSlopeJudge$Table;" } : Jvm.MethodName) prog_1_method_47_code (3 : Nat) (Option.some (Jvm.ClassFile.FieldType.object "SlopeJudge$Table"))) ∈ sj_kw := sj_k3 170 rfl rfl
theorem ks_34 : (Cond.selects "SlopeJudge" ({ cls := "SlopeJudge", name := "tableOf", desc := "(IZ)LSlopeJudge$Table;" } : MethodName) ({ cls := "SlopeJudge", name := "tableOf", desc := "(IZ)LSlopeJudge$Table;" } : MethodName)) ∈ sj_kw := sj_ks 34 rfl rfl
theorem kw_649 : (Jvm.Cond.instanceMethod ({ cls := "SlopeJudge", name := "tableOf", desc := "(IZ)LSlopeJudge$Table;" } : Jvm.MethodName)) ∈ sj_kw := sj_k3 169 rfl rfl
theorem kw_664 : (Jvm.Cond.fieldLinkNest "SlopeJudge" (187 : Nat) "SlopeJudge$Table" "found" "LSlopeJudge$Slip;" "SlopeJudge") ∈ sj_nest := sj_n3 184 rfl rfl
theorem kw_762 : (Jvm.Cond.methodLinkNest "SlopeJudge" (192 : Nat) ({ cls := "SlopeJudge$Slip", name := "isNone", desc := "()Z" } : Jvm.MethodName) "SlopeJudge") ∈ sj_nest := sj_n4 42 rfl rfl
theorem kw_770 : (Jvm.Cond.methodLinkNest "SlopeJudge" (202 : Nat) ({ cls := "SlopeJudge$Ground", name := "turn", desc := "()V" } : Jvm.MethodName) "SlopeJudge") ∈ sj_nest := sj_n4 50 rfl rfl
theorem kw_773 : (Jvm.Cond.code ({ cls := "SlopeJudge$Ground", name := "turn", desc := "()V" } : Jvm.MethodName) prog_2_method_22_code (2 : Nat) (Option.none : Option Jvm.ClassFile.FieldType)) ∈ sj_kw := sj_k4 53 rfl rfl
theorem ks_48 : (Cond.selects "SlopeJudge$Ground" ({ cls := "SlopeJudge$Ground", name := "turn", desc := "()V" } : MethodName) ({ cls := "SlopeJudge$Ground", name := "turn", desc := "()V" } : MethodName)) ∈ sj_kw := sj_ks 48 rfl rfl
theorem kw_772 : (Jvm.Cond.instanceMethod ({ cls := "SlopeJudge$Ground", name := "turn", desc := "()V" } : Jvm.MethodName)) ∈ sj_kw := sj_k4 52 rfl rfl
theorem kw_339 : (Jvm.Cond.fieldLink "SlopeJudge" (214 : Nat) "SlopeJudge" "imageTaken" "Z") ∈ sj_kw := sj_k2 99 rfl rfl
theorem kw_787 : (Jvm.Cond.methodLinkNest "SlopeJudge" (211 : Nat) ({ cls := "SlopeJudge$Held", name := "copy", desc := "(LSlopeJudge$Held;)V" } : Jvm.MethodName) "SlopeJudge") ∈ sj_nest := sj_n4 67 rfl rfl
theorem kw_790 : (Jvm.Cond.code ({ cls := "SlopeJudge$Held", name := "copy", desc := "(LSlopeJudge$Held;)V" } : Jvm.MethodName) prog_3_method_2_code (2 : Nat) (Option.none : Option Jvm.ClassFile.FieldType)) ∈ sj_kw := sj_k4 70 rfl rfl
theorem ks_50 : (Cond.selects "SlopeJudge$Held" ({ cls := "SlopeJudge$Held", name := "copy", desc := "(LSlopeJudge$Held;)V" } : MethodName) ({ cls := "SlopeJudge$Held", name := "copy", desc := "(LSlopeJudge$Held;)V" } : MethodName)) ∈ sj_kw := sj_ks 50 rfl rfl
theorem kw_789 : (Jvm.Cond.instanceMethod ({ cls := "SlopeJudge$Held", name := "copy", desc := "(LSlopeJudge$Held;)V" } : Jvm.MethodName)) ∈ sj_kw := sj_k4 69 rfl rfl
theorem kw_796 : (Jvm.Cond.methodLinkNest "SlopeJudge" (218 : Nat) ({ cls := "SlopeJudge$Ground", name := "waterAt", desc := "(I)I" } : Jvm.MethodName) "SlopeJudge") ∈ sj_nest := sj_n4 76 rfl rfl
theorem kw_799 : (Jvm.Cond.code ({ cls := "SlopeJudge$Ground", name := "waterAt", desc := "(I)I" } : Jvm.MethodName) prog_2_method_7_code (2 : Nat) (Option.some Jvm.ClassFile.FieldType.int)) ∈ sj_kw := sj_k4 79 rfl rfl
theorem ks_51 : (Cond.selects "SlopeJudge$Ground" ({ cls := "SlopeJudge$Ground", name := "waterAt", desc := "(I)I" } : MethodName) ({ cls := "SlopeJudge$Ground", name := "waterAt", desc := "(I)I" } : MethodName)) ∈ sj_kw := sj_ks 51 rfl rfl
theorem kw_798 : (Jvm.Cond.instanceMethod ({ cls := "SlopeJudge$Ground", name := "waterAt", desc := "(I)I" } : Jvm.MethodName)) ∈ sj_kw := sj_k4 78 rfl rfl
theorem kw_800 : (Jvm.Cond.methodLinkNest "SlopeJudge" (222 : Nat) ({ cls := "SlopeJudge$Ground", name := "topAt", desc := "(II)I" } : Jvm.MethodName) "SlopeJudge") ∈ sj_nest := sj_n4 80 rfl rfl
theorem kw_801 : (Jvm.Cond.methodLinkNest "SlopeJudge" (225 : Nat) ({ cls := "SlopeJudge$Slip", name := "baseAt", desc := "(I)I" } : Jvm.MethodName) "SlopeJudge") ∈ sj_nest := sj_n4 81 rfl rfl
theorem kw_804 : (Jvm.Cond.code ({ cls := "SlopeJudge$Slip", name := "baseAt", desc := "(I)I" } : Jvm.MethodName) prog_7_method_6_code (2 : Nat) (Option.some Jvm.ClassFile.FieldType.int)) ∈ sj_kw := sj_k4 84 rfl rfl
theorem ks_52 : (Cond.selects "SlopeJudge$Slip" ({ cls := "SlopeJudge$Slip", name := "baseAt", desc := "(I)I" } : MethodName) ({ cls := "SlopeJudge$Slip", name := "baseAt", desc := "(I)I" } : MethodName)) ∈ sj_kw := sj_ks 52 rfl rfl
theorem kw_803 : (Jvm.Cond.instanceMethod ({ cls := "SlopeJudge$Slip", name := "baseAt", desc := "(I)I" } : Jvm.MethodName)) ∈ sj_kw := sj_k4 83 rfl rfl
theorem kw_814 : (Jvm.Cond.methodLinkNest "SlopeJudge" (228 : Nat) ({ cls := "SlopeJudge$Ground", name := "anchorCounts", desc := "(ILSlopeJudge$Slip;)Z" } : Jvm.MethodName) "SlopeJudge") ∈ sj_nest := sj_n4 94 rfl rfl
theorem kw_67 : (Jvm.Cond.fieldLinkNest "SlopeJudge" (232 : Nat) "SlopeJudge$Ground" "n" "I" "SlopeJudge") ∈ sj_nest := sj_n1 67 rfl rfl
theorem kw_72 : (Jvm.Cond.fieldLinkNest "SlopeJudge" (235 : Nat) "SlopeJudge$Ground" "b" "I" "SlopeJudge") ∈ sj_nest := sj_n1 72 rfl rfl
theorem kw_822 : (Jvm.Cond.methodLinkNest "SlopeJudge" (238 : Nat) ({ cls := "SlopeJudge$Ground", name := "anchorSet", desc := "()I" } : Jvm.MethodName) "SlopeJudge") ∈ sj_nest := sj_n4 102 rfl rfl
theorem kw_825 : (Jvm.Cond.code ({ cls := "SlopeJudge$Ground", name := "anchorSet", desc := "()I" } : Jvm.MethodName) prog_2_method_14_code (3 : Nat) (Option.some Jvm.ClassFile.FieldType.int)) ∈ sj_kw := sj_k4 105 rfl rfl
theorem ks_54 : (Cond.selects "SlopeJudge$Ground" ({ cls := "SlopeJudge$Ground", name := "anchorSet", desc := "()I" } : MethodName) ({ cls := "SlopeJudge$Ground", name := "anchorSet", desc := "()I" } : MethodName)) ∈ sj_kw := sj_ks 54 rfl rfl
theorem kw_824 : (Jvm.Cond.instanceMethod ({ cls := "SlopeJudge$Ground", name := "anchorSet", desc := "()I" } : Jvm.MethodName)) ∈ sj_kw := sj_k4 104 rfl rfl
theorem kw_45 : (Jvm.Cond.fieldLinkNest "SlopeJudge" (241 : Nat) "SlopeJudge$Slip" "from" "I" "SlopeJudge") ∈ sj_nest := sj_n1 45 rfl rfl
theorem kw_48 : (Jvm.Cond.fieldLinkNest "SlopeJudge" (244 : Nat) "SlopeJudge$Slip" "to" "I" "SlopeJudge") ∈ sj_nest := sj_n1 48 rfl rfl
theorem kw_52 : (Jvm.Cond.fieldLinkNest "SlopeJudge" (247 : Nat) "SlopeJudge$Slip" "left" "Z" "SlopeJudge") ∈ sj_nest := sj_n1 52 rfl rfl
theorem kw_826 : (Jvm.Cond.methodLinkNest "SlopeJudge" (250 : Nat) ({ cls := "SlopeJudge$Ground", name := "greatestGround", desc := "()I" } : Jvm.MethodName) "SlopeJudge") ∈ sj_nest := sj_n4 106 rfl rfl
theorem kw_829 : (Jvm.Cond.code ({ cls := "SlopeJudge$Ground", name := "greatestGround", desc := "()I" } : Jvm.MethodName) prog_2_method_15_code (3 : Nat) (Option.some Jvm.ClassFile.FieldType.int)) ∈ sj_kw := sj_k4 109 rfl rfl
theorem ks_55 : (Cond.selects "SlopeJudge$Ground" ({ cls := "SlopeJudge$Ground", name := "greatestGround", desc := "()I" } : MethodName) ({ cls := "SlopeJudge$Ground", name := "greatestGround", desc := "()I" } : MethodName)) ∈ sj_kw := sj_ks 55 rfl rfl
theorem kw_828 : (Jvm.Cond.instanceMethod ({ cls := "SlopeJudge$Ground", name := "greatestGround", desc := "()I" } : Jvm.MethodName)) ∈ sj_kw := sj_k4 108 rfl rfl
theorem kw_830 : (Jvm.Cond.methodLinkNest "SlopeJudge" (253 : Nat) ({ cls := "SlopeJudge$Ground", name := "allSoil", desc := "()I" } : Jvm.MethodName) "SlopeJudge") ∈ sj_nest := sj_n4 110 rfl rfl
theorem kw_833 : (Jvm.Cond.code ({ cls := "SlopeJudge$Ground", name := "allSoil", desc := "()I" } : Jvm.MethodName) prog_2_method_16_code (3 : Nat) (Option.some Jvm.ClassFile.FieldType.int)) ∈ sj_kw := sj_k4 113 rfl rfl
theorem ks_56 : (Cond.selects "SlopeJudge$Ground" ({ cls := "SlopeJudge$Ground", name := "allSoil", desc := "()I" } : MethodName) ({ cls := "SlopeJudge$Ground", name := "allSoil", desc := "()I" } : MethodName)) ∈ sj_kw := sj_ks 56 rfl rfl
theorem kw_832 : (Jvm.Cond.instanceMethod ({ cls := "SlopeJudge$Ground", name := "allSoil", desc := "()I" } : Jvm.MethodName)) ∈ sj_kw := sj_k4 112 rfl rfl
theorem kw_168 : (Jvm.Cond.fieldLinkNest "SlopeJudge" (256 : Nat) "SlopeJudge$Held" "state" "I" "SlopeJudge") ∈ sj_nest := sj_n1 168 rfl rfl
theorem kw_842 : (Jvm.Cond.methodLinkNest "SlopeJudge" (259 : Nat) ({ cls := "SlopeJudge$Slices", name := "weigh", desc := "(LSlopeJudge$Ground;LSlopeJudge$Slip;)V" } : Jvm.MethodName) "SlopeJudge") ∈ sj_nest := sj_n4 122 rfl rfl
theorem kw_861 : (Jvm.Cond.methodLinkNest "SlopeJudge" (263 : Nat) ({ cls := "SlopeJudge$Slices", name := "settle", desc := "(LSlopeJudge$Ground;I)V" } : Jvm.MethodName) "SlopeJudge") ∈ sj_nest := sj_n4 141 rfl rfl
theorem kw_872 : (Jvm.Cond.constantLong "SlopeJudge" (270 : Nat) (-10000000000000 : Int64)) ∈ sj_kw := sj_k4 152 rfl rfl
theorem kw_838 : (Jvm.Cond.methodLink "SlopeJudge" (267 : Nat) ({ cls := "SlopeJudge", name := "cutUp", desc := "()Z" } : Jvm.MethodName)) ∈ sj_kw := sj_k4 118 rfl rfl
theorem kw_841 : (Jvm.Cond.code ({ cls := "SlopeJudge", name := "cutUp", desc := "()Z" } : Jvm.MethodName) prog_1_method_26_code (1 : Nat) (Option.some Jvm.ClassFile.FieldType.boolean)) ∈ sj_kw := sj_k4 121 rfl rfl
theorem ks_57 : (Cond.selects "SlopeJudge" ({ cls := "SlopeJudge", name := "cutUp", desc := "()Z" } : MethodName) ({ cls := "SlopeJudge", name := "cutUp", desc := "()Z" } : MethodName)) ∈ sj_kw := sj_ks 57 rfl rfl
theorem kw_840 : (Jvm.Cond.instanceMethod ({ cls := "SlopeJudge", name := "cutUp", desc := "()Z" } : Jvm.MethodName)) ∈ sj_kw := sj_k4 120 rfl rfl
theorem kw_235 : (Jvm.Cond.fieldLinkNest "SlopeJudge" (272 : Nat) "SlopeJudge$Slices" "rise" "[I" "SlopeJudge") ∈ sj_nest := sj_n1 235 rfl rfl
theorem kw_237 : (Jvm.Cond.fieldLinkNest "SlopeJudge" (275 : Nat) "SlopeJudge$Slices" "weight" "[I" "SlopeJudge") ∈ sj_nest := sj_n1 237 rfl rfl
theorem kw_239 : (Jvm.Cond.fieldLinkNest "SlopeJudge" (276 : Nat) "SlopeJudge$Slices" "lift" "[I" "SlopeJudge") ∈ sj_nest := sj_n1 239 rfl rfl
theorem kw_873 : (Jvm.Cond.methodLinkNest "SlopeJudge" (279 : Nat) ({ cls := "SlopeJudge$Slices", name := "press", desc := "(I)I" } : Jvm.MethodName) "SlopeJudge") ∈ sj_nest := sj_n4 153 rfl rfl
theorem kw_241 : (Jvm.Cond.fieldLinkNest "SlopeJudge" (282 : Nat) "SlopeJudge$Slices" "layerOf" "[I" "SlopeJudge") ∈ sj_nest := sj_n2 1 rfl rfl
theorem kw_243 : (Jvm.Cond.fieldLinkNest "SlopeJudge" (285 : Nat) "SlopeJudge$Slices" "strength" "[J" "SlopeJudge") ∈ sj_nest := sj_n2 3 rfl rfl
theorem kw_245 : (Jvm.Cond.fieldLinkNest "SlopeJudge" (289 : Nat) "SlopeJudge$Slices" "push" "[J" "SlopeJudge") ∈ sj_nest := sj_n2 5 rfl rfl
theorem kw_881 : (Jvm.Cond.constantLong "SlopeJudge" (295 : Nat) (-10 : Int64)) ∈ sj_kw := sj_k4 161 rfl rfl
theorem kw_878 : (Jvm.Cond.methodLink "SlopeJudge" (292 : Nat) ({ cls := "SlopeJudge", name := "isK", desc := "(I)Z" } : Jvm.MethodName)) ∈ sj_kw := sj_k4 158 rfl rfl
theorem kw_880 : (Jvm.Cond.code ({ cls := "SlopeJudge", name := "isK", desc := "(I)Z" } : Jvm.MethodName) prog_1_method_27_code (1 : Nat) (Option.some Jvm.ClassFile.FieldType.boolean)) ∈ sj_kw := sj_k4 160 rfl rfl
theorem kw_879 : (Jvm.Cond.static ({ cls := "SlopeJudge", name := "isK", desc := "(I)Z" } : Jvm.MethodName)) ∈ sj_kw := sj_k4 159 rfl rfl
theorem kw_882 : (Jvm.Cond.methodLinkNest "SlopeJudge" (297 : Nat) ({ cls := "SlopeJudge$Slices", name := "rubsOf", desc := "(II)J" } : Jvm.MethodName) "SlopeJudge") ∈ sj_nest := sj_n4 162 rfl rfl
theorem kw_891 : (Jvm.Cond.methodLinkNest "SlopeJudge" (301 : Nat) ({ cls := "SlopeJudge$Slices", name := "hold", desc := "(I)Z" } : Jvm.MethodName) "SlopeJudge") ∈ sj_nest := sj_n4 171 rfl rfl
theorem kw_904 : (Jvm.Cond.methodLinkNest "SlopeJudge" (303 : Nat) ({ cls := "SlopeJudge$Slices", name := "leastBound", desc := "(I)I" } : Jvm.MethodName) "SlopeJudge") ∈ sj_nest := sj_n4 184 rfl rfl
theorem kw_913 : (Jvm.Cond.methodLinkNest "SlopeJudge" (306 : Nat) ({ cls := "SlopeJudge$Slices", name := "allPushes", desc := "()J" } : Jvm.MethodName) "SlopeJudge") ∈ sj_nest := sj_n4 193 rfl rfl
theorem kw_916 : (Jvm.Cond.code ({ cls := "SlopeJudge$Slices", name := "allPushes", desc := "()J" } : Jvm.MethodName) prog_6_method_12_code (4 : Nat) (Option.some Jvm.ClassFile.FieldType.long)) ∈ sj_kw := sj_k4 196 rfl rfl
theorem ks_67 : (Cond.selects "SlopeJudge$Slices" ({ cls := "SlopeJudge$Slices", name := "allPushes", desc := "()J" } : MethodName) ({ cls := "SlopeJudge$Slices", name := "allPushes", desc := "()J" } : MethodName)) ∈ sj_kw := sj_ks 67 rfl rfl
theorem kw_915 : (Jvm.Cond.instanceMethod ({ cls := "SlopeJudge$Slices", name := "allPushes", desc := "()J" } : Jvm.MethodName)) ∈ sj_kw := sj_k4 195 rfl rfl
theorem kw_252 : (Jvm.Cond.fieldLinkNest "SlopeJudge" (310 : Nat) "SlopeJudge$Slices" "pulls" "J" "SlopeJudge") ∈ sj_nest := sj_n2 12 rfl rfl
theorem kw_917 : (Jvm.Cond.methodLinkNest "SlopeJudge" (314 : Nat) ({ cls := "SlopeJudge$Slices", name := "allWeights", desc := "()J" } : Jvm.MethodName) "SlopeJudge") ∈ sj_nest := sj_n4 197 rfl rfl
theorem kw_920 : (Jvm.Cond.code ({ cls := "SlopeJudge$Slices", name := "allWeights", desc := "()J" } : Jvm.MethodName) prog_6_method_13_code (4 : Nat) (Option.some Jvm.ClassFile.FieldType.long)) ∈ sj_kw := sj_k4 200 rfl rfl
theorem ks_68 : (Cond.selects "SlopeJudge$Slices" ({ cls := "SlopeJudge$Slices", name := "allWeights", desc := "()J" } : MethodName) ({ cls := "SlopeJudge$Slices", name := "allWeights", desc := "()J" } : MethodName)) ∈ sj_kw := sj_ks 68 rfl rfl
theorem kw_919 : (Jvm.Cond.instanceMethod ({ cls := "SlopeJudge$Slices", name := "allWeights", desc := "()J" } : Jvm.MethodName)) ∈ sj_kw := sj_k4 199 rfl rfl
theorem kw_921 : (Jvm.Cond.methodLinkNest "SlopeJudge" (317 : Nat) ({ cls := "SlopeJudge$Slices", name := "allLifts", desc := "()J" } : Jvm.MethodName) "SlopeJudge") ∈ sj_nest := sj_n4 201 rfl rfl
theorem kw_924 : (Jvm.Cond.code ({ cls := "SlopeJudge$Slices", name := "allLifts", desc := "()J" } : Jvm.MethodName) prog_6_method_14_code (4 : Nat) (Option.some Jvm.ClassFile.FieldType.long)) ∈ sj_kw := sj_k4 204 rfl rfl
theorem ks_69 : (Cond.selects "SlopeJudge$Slices" ({ cls := "SlopeJudge$Slices", name := "allLifts", desc := "()J" } : MethodName) ({ cls := "SlopeJudge$Slices", name := "allLifts", desc := "()J" } : MethodName)) ∈ sj_kw := sj_ks 69 rfl rfl
theorem kw_923 : (Jvm.Cond.instanceMethod ({ cls := "SlopeJudge$Slices", name := "allLifts", desc := "()J" } : Jvm.MethodName)) ∈ sj_kw := sj_k4 203 rfl rfl
theorem kw_925 : (Jvm.Cond.methodLinkNest "SlopeJudge" (320 : Nat) ({ cls := "SlopeJudge$Slices", name := "allStrengths", desc := "()J" } : Jvm.MethodName) "SlopeJudge") ∈ sj_nest := sj_n4 205 rfl rfl
theorem kw_928 : (Jvm.Cond.code ({ cls := "SlopeJudge$Slices", name := "allStrengths", desc := "()J" } : Jvm.MethodName) prog_6_method_15_code (4 : Nat) (Option.some Jvm.ClassFile.FieldType.long)) ∈ sj_kw := sj_k4 208 rfl rfl
theorem ks_70 : (Cond.selects "SlopeJudge$Slices" ({ cls := "SlopeJudge$Slices", name := "allStrengths", desc := "()J" } : MethodName) ({ cls := "SlopeJudge$Slices", name := "allStrengths", desc := "()J" } : MethodName)) ∈ sj_kw := sj_ks 70 rfl rfl
theorem kw_927 : (Jvm.Cond.instanceMethod ({ cls := "SlopeJudge$Slices", name := "allStrengths", desc := "()J" } : Jvm.MethodName)) ∈ sj_kw := sj_k4 207 rfl rfl
theorem kw_933 : (Jvm.Cond.methodLinkNest "SlopeJudge" (323 : Nat) ({ cls := "SlopeJudge$Ground", name := "dryUp", desc := "()V" } : Jvm.MethodName) "SlopeJudge") ∈ sj_nest := sj_n4 213 rfl rfl
theorem kw_936 : (Jvm.Cond.code ({ cls := "SlopeJudge$Ground", name := "dryUp", desc := "()V" } : Jvm.MethodName) prog_2_method_20_code (1 : Nat) (Option.none : Option Jvm.ClassFile.FieldType)) ∈ sj_kw := sj_k4 216 rfl rfl
theorem ks_71 : (Cond.selects "SlopeJudge$Ground" ({ cls := "SlopeJudge$Ground", name := "dryUp", desc := "()V" } : MethodName) ({ cls := "SlopeJudge$Ground", name := "dryUp", desc := "()V" } : MethodName)) ∈ sj_kw := sj_ks 71 rfl rfl
theorem kw_935 : (Jvm.Cond.instanceMethod ({ cls := "SlopeJudge$Ground", name := "dryUp", desc := "()V" } : Jvm.MethodName)) ∈ sj_kw := sj_k4 215 rfl rfl
theorem kw_941 : (Jvm.Cond.methodLinkNest "SlopeJudge" (326 : Nat) ({ cls := "SlopeJudge$Ground", name := "raiseWate\x72", desc := "()V" } : Jvm.MethodName) "SlopeJudge") ∈ sj_nest := sj_n4 221 rfl rfl
theorem kw_944 : (Jvm.Cond.code ({ cls := "SlopeJudge$Ground", name := "raiseWate\x72", desc := "()V" } : Jvm.MethodName) prog_2_method_21_code (2 : Nat) (Option.none : Option Jvm.ClassFile.FieldType)) ∈ sj_kw := sj_k4 224 rfl rfl
theorem ks_72 : (Cond.selects "SlopeJudge$Ground" ({ cls := "SlopeJudge$Ground", name := "raiseWate\x72", desc := "()V" } : MethodName) ({ cls := "SlopeJudge$Ground", name := "raiseWate\x72", desc := "()V" } : MethodName)) ∈ sj_kw := sj_ks 72 rfl rfl
theorem kw_943 : (Jvm.Cond.instanceMethod ({ cls := "SlopeJudge$Ground", name := "raiseWate\x72", desc := "()V" } : Jvm.MethodName)) ∈ sj_kw := sj_k4 223 rfl rfl
theorem kw_953 : (Jvm.Cond.methodLinkNest "SlopeJudge" (329 : Nat) ({ cls := "SlopeJudge$Slices", name := "lack", desc := "(I)J" } : Jvm.MethodName) "SlopeJudge") ∈ sj_nest := sj_n4 233 rfl rfl
theorem kw_954 : (Jvm.Cond.constantLong "SlopeJudge" (333 : Nat) (2000 : Int64)) ∈ sj_kw := sj_k4 234 rfl rfl
theorem kw_955 : (Jvm.Cond.constantLong "SlopeJudge" (335 : Nat) (20000 : Int64)) ∈ sj_kw := sj_k4 235 rfl rfl
theorem kw_960 : (Jvm.Cond.methodLinkNest "SlopeJudge" (337 : Nat) ({ cls := "SlopeJudge$Slices", name := "burden", desc := "(III)V" } : Jvm.MethodName) "SlopeJudge") ∈ sj_nest := sj_n5 0 rfl rfl
theorem kw_963 : (Jvm.Cond.code ({ cls := "SlopeJudge$Slices", name := "burden", desc := "(III)V" } : Jvm.MethodName) prog_6_method_4_code (6 : Nat) (Option.none : Option Jvm.ClassFile.FieldType)) ∈ sj_kw := sj_k5 3 rfl rfl
theorem ks_73 : (Cond.selects "SlopeJudge$Slices" ({ cls := "SlopeJudge$Slices", name := "burden", desc := "(III)V" } : MethodName) ({ cls := "SlopeJudge$Slices", name := "burden", desc := "(III)V" } : MethodName)) ∈ sj_kw := sj_ks 73 rfl rfl
theorem kw_962 : (Jvm.Cond.instanceMethod ({ cls := "SlopeJudge$Slices", name := "burden", desc := "(III)V" } : Jvm.MethodName)) ∈ sj_kw := sj_k5 2 rfl rfl
theorem kw_968 : (Jvm.Cond.methodLinkNest "SlopeJudge" (341 : Nat) ({ cls := "SlopeJudge$Ground", name := "slipArea", desc := "()I" } : Jvm.MethodName) "SlopeJudge") ∈ sj_nest := sj_n5 8 rfl rfl
theorem kw_971 : (Jvm.Cond.code ({ cls := "SlopeJudge$Ground", name := "slipArea", desc := "()I" } : Jvm.MethodName) prog_2_method_19_code (3 : Nat) (Option.some Jvm.ClassFile.FieldType.int)) ∈ sj_kw := sj_k5 11 rfl rfl
theorem ks_74 : (Cond.selects "SlopeJudge$Ground" ({ cls := "SlopeJudge$Ground", name := "slipArea", desc := "()I" } : MethodName) ({ cls := "SlopeJudge$Ground", name := "slipArea", desc := "()I" } : MethodName)) ∈ sj_kw := sj_ks 74 rfl rfl
theorem kw_970 : (Jvm.Cond.instanceMethod ({ cls := "SlopeJudge$Ground", name := "slipArea", desc := "()I" } : Jvm.MethodName)) ∈ sj_kw := sj_k5 10 rfl rfl
theorem kw_976 : (Jvm.Cond.methodLinkNest "SlopeJudge" (344 : Nat) ({ cls := "SlopeJudge$Ground", name := "thickest", desc := "()I" } : Jvm.MethodName) "SlopeJudge") ∈ sj_nest := sj_n5 16 rfl rfl
theorem kw_979 : (Jvm.Cond.code ({ cls := "SlopeJudge$Ground", name := "thickest", desc := "()I" } : Jvm.MethodName) prog_2_method_18_code (3 : Nat) (Option.some Jvm.ClassFile.FieldType.int)) ∈ sj_kw := sj_k5 19 rfl rfl
theorem ks_76 : (Cond.selects "SlopeJudge$Ground" ({ cls := "SlopeJudge$Ground", name := "thickest", desc := "()I" } : MethodName) ({ cls := "SlopeJudge$Ground", name := "thickest", desc := "()I" } : MethodName)) ∈ sj_kw := sj_ks 76 rfl rfl
theorem kw_978 : (Jvm.Cond.instanceMethod ({ cls := "SlopeJudge$Ground", name := "thickest", desc := "()I" } : Jvm.MethodName)) ∈ sj_kw := sj_k5 18 rfl rfl
theorem kw_980 : (Jvm.Cond.methodLinkNest "SlopeJudge" (347 : Nat) ({ cls := "SlopeJudge$Ground", name := "thickAt", desc := "(I)I" } : Jvm.MethodName) "SlopeJudge") ∈ sj_nest := sj_n5 20 rfl rfl
theorem kw_981 : (Jvm.Cond.methodLinkNest "SlopeJudge" (350 : Nat) ({ cls := "SlopeJudge$Slip", name := "leastBase", desc := "()I" } : Jvm.MethodName) "SlopeJudge") ∈ sj_nest := sj_n5 21 rfl rfl
theorem kw_984 : (Jvm.Cond.code ({ cls := "SlopeJudge$Slip", name := "leastBase", desc := "()I" } : Jvm.MethodName) prog_7_method_7_code (3 : Nat) (Option.some Jvm.ClassFile.FieldType.int)) ∈ sj_kw := sj_k5 24 rfl rfl
theorem ks_77 : (Cond.selects "SlopeJudge$Slip" ({ cls := "SlopeJudge$Slip", name := "leastBase", desc := "()I" } : MethodName) ({ cls := "SlopeJudge$Slip", name := "leastBase", desc := "()I" } : MethodName)) ∈ sj_kw := sj_ks 77 rfl rfl
theorem kw_983 : (Jvm.Cond.instanceMethod ({ cls := "SlopeJudge$Slip", name := "leastBase", desc := "()I" } : Jvm.MethodName)) ∈ sj_kw := sj_k5 23 rfl rfl
theorem kw_986 : (Jvm.Cond.methodLinkNest "SlopeJudge" (353 : Nat) ({ cls := "SlopeJudge$Slices", name := "countFalling", desc := "()I" } : Jvm.MethodName) "SlopeJudge") ∈ sj_nest := sj_n5 26 rfl rfl
theorem kw_989 : (Jvm.Cond.code ({ cls := "SlopeJudge$Slices", name := "countFalling", desc := "()I" } : Jvm.MethodName) prog_6_method_16_code (3 : Nat) (Option.some Jvm.ClassFile.FieldType.int)) ∈ sj_kw := sj_k5 29 rfl rfl
theorem ks_78 : (Cond.selects "SlopeJudge$Slices" ({ cls := "SlopeJudge$Slices", name := "countFalling", desc := "()I" } : MethodName) ({ cls := "SlopeJudge$Slices", name := "countFalling", desc := "()I" } : MethodName)) ∈ sj_kw := sj_ks 78 rfl rfl
theorem kw_988 : (Jvm.Cond.instanceMethod ({ cls := "SlopeJudge$Slices", name := "countFalling", desc := "()I" } : Jvm.MethodName)) ∈ sj_kw := sj_k5 28 rfl rfl
theorem kw_990 : (Jvm.Cond.methodLinkNest "SlopeJudge" (356 : Nat) ({ cls := "SlopeJudge$Slices", name := "countAfloat", desc := "()I" } : Jvm.MethodName) "SlopeJudge") ∈ sj_nest := sj_n5 30 rfl rfl
theorem kw_993 : (Jvm.Cond.code ({ cls := "SlopeJudge$Slices", name := "countAfloat", desc := "()I" } : Jvm.MethodName) prog_6_method_17_code (3 : Nat) (Option.some Jvm.ClassFile.FieldType.int)) ∈ sj_kw := sj_k5 33 rfl rfl
theorem ks_79 : (Cond.selects "SlopeJudge$Slices" ({ cls := "SlopeJudge$Slices", name := "countAfloat", desc := "()I" } : MethodName) ({ cls := "SlopeJudge$Slices", name := "countAfloat", desc := "()I" } : MethodName)) ∈ sj_kw := sj_ks 79 rfl rfl
theorem kw_992 : (Jvm.Cond.instanceMethod ({ cls := "SlopeJudge$Slices", name := "countAfloat", desc := "()I" } : Jvm.MethodName)) ∈ sj_kw := sj_k5 32 rfl rfl
theorem kw_999 : (Jvm.Cond.methodLinkNest "SlopeJudge" (361 : Nat) ({ cls := "SlopeJudge$Slices", name := "isFast", desc := "(II)Z" } : Jvm.MethodName) "SlopeJudge") ∈ sj_nest := sj_n5 39 rfl rfl
theorem kw_1002 : (Jvm.Cond.code ({ cls := "SlopeJudge$Slices", name := "isFast", desc := "(II)Z" } : Jvm.MethodName) prog_6_method_6_code (3 : Nat) (Option.some Jvm.ClassFile.FieldType.boolean)) ∈ sj_kw := sj_k5 42 rfl rfl
theorem ks_80 : (Cond.selects "SlopeJudge$Slices" ({ cls := "SlopeJudge$Slices", name := "isFast", desc := "(II)Z" } : MethodName) ({ cls := "SlopeJudge$Slices", name := "isFast", desc := "(II)Z" } : MethodName)) ∈ sj_kw := sj_ks 80 rfl rfl
theorem kw_1001 : (Jvm.Cond.instanceMethod ({ cls := "SlopeJudge$Slices", name := "isFast", desc := "(II)Z" } : Jvm.MethodName)) ∈ sj_kw := sj_k5 41 rfl rfl
theorem kw_1003 : (Jvm.Cond.methodLinkNest "SlopeJudge" (364 : Nat) ({ cls := "SlopeJudge$Slices", name := "thrustOf", desc := "(II)J" } : Jvm.MethodName) "SlopeJudge") ∈ sj_nest := sj_n5 43 rfl rfl
theorem kw_1006 : (Jvm.Cond.code ({ cls := "SlopeJudge$Slices", name := "thrustOf", desc := "(II)J" } : Jvm.MethodName) prog_6_method_8_code (3 : Nat) (Option.some Jvm.ClassFile.FieldType.long)) ∈ sj_kw := sj_k5 46 rfl rfl
theorem ks_81 : (Cond.selects "SlopeJudge$Slices" ({ cls := "SlopeJudge$Slices", name := "thrustOf", desc := "(II)J" } : MethodName) ({ cls := "SlopeJudge$Slices", name := "thrustOf", desc := "(II)J" } : MethodName)) ∈ sj_kw := sj_ks 81 rfl rfl
theorem kw_1005 : (Jvm.Cond.instanceMethod ({ cls := "SlopeJudge$Slices", name := "thrustOf", desc := "(II)J" } : Jvm.MethodName)) ∈ sj_kw := sj_k5 45 rfl rfl
theorem kw_998 : (Jvm.Cond.constantLong "SlopeJudge" (359 : Nat) (-10000000000000000 : Int64)) ∈ sj_kw := sj_k5 38 rfl rfl
theorem kw_249 : (Jvm.Cond.fieldLinkNest "SlopeJudge" (367 : Nat) "SlopeJudge$Slices" "count" "I" "SlopeJudge") ∈ sj_nest := sj_n2 9 rfl rfl
theorem kw_1019 : (Jvm.Cond.methodLinkNest "SlopeJudge" (369 : Nat) ({ cls := "SlopeJudge$Seeke\x72", name := "ask", desc := "(LSlopeJudge$Ground;IIIZI)I" } : Jvm.MethodName) "SlopeJudge") ∈ sj_nest := sj_n5 59 rfl rfl
theorem kw_1032 : (Jvm.Cond.methodLinkNest "SlopeJudge" (373 : Nat) ({ cls := "SlopeJudge$Seeke\x72", name := "seek", desc := "(LSlopeJudge$Ground;IIIIZ)Z" } : Jvm.MethodName) "SlopeJudge") ∈ sj_nest := sj_n5 72 rfl rfl
theorem kw_1035 : (Jvm.Cond.code ({ cls := "SlopeJudge$Seeke\x72", name := "seek", desc := "(LSlopeJudge$Ground;IIIIZ)Z" } : Jvm.MethodName) prog_5_method_3_code (9 : Nat) (Option.some Jvm.ClassFile.FieldType.boolean)) ∈ sj_kw := sj_k5 75 rfl rfl
theorem ks_83 : (Cond.selects "SlopeJudge$Seeke\x72" ({ cls := "SlopeJudge$Seeke\x72", name := "seek", desc := "(LSlopeJudge$Ground;IIIIZ)Z" } : MethodName) ({ cls := "SlopeJudge$Seeke\x72", name := "seek", desc := "(LSlopeJudge$Ground;IIIIZ)Z" } : MethodName)) ∈ sj_kw := sj_ks 83 rfl rfl
theorem kw_1034 : (Jvm.Cond.instanceMethod ({ cls := "SlopeJudge$Seeke\x72", name := "seek", desc := "(LSlopeJudge$Ground;IIIIZ)Z" } : Jvm.MethodName)) ∈ sj_kw := sj_k5 74 rfl rfl
theorem kw_296 : (Jvm.Cond.fieldLinkNest "SlopeJudge" (377 : Nat) "SlopeJudge$Seeke\x72" "least" "I" "SlopeJudge") ∈ sj_nest := sj_n2 56 rfl rfl
theorem kw_290 : (Jvm.Cond.fieldLinkNest "SlopeJudge" (380 : Nat) "SlopeJudge$Seeke\x72" "x" "I" "SlopeJudge") ∈ sj_nest := sj_n2 50 rfl rfl
theorem kw_292 : (Jvm.Cond.fieldLinkNest "SlopeJudge" (383 : Nat) "SlopeJudge$Seeke\x72" "y" "I" "SlopeJudge") ∈ sj_nest := sj_n2 52 rfl rfl
theorem kw_294 : (Jvm.Cond.fieldLinkNest "SlopeJudge" (386 : Nat) "SlopeJudge$Seeke\x72" "\x72" "I" "SlopeJudge") ∈ sj_nest := sj_n2 54 rfl rfl
theorem kw_298 : (Jvm.Cond.fieldLinkNest "SlopeJudge" (389 : Nat) "SlopeJudge$Seeke\x72" "rounds" "I" "SlopeJudge") ∈ sj_nest := sj_n2 58 rfl rfl
theorem kw_1052 : (Jvm.Cond.methodLink "SlopeJudge" (392 : Nat) ({ cls := "java/lang/Math", name := "min", desc := "(II)I" } : Jvm.MethodName)) ∈ sj_kw := sj_k5 92 rfl rfl
theorem kw_670 : (Jvm.Cond.fieldLinkNest "SlopeJudge" (406 : Nat) "SlopeJudge$Table" "allStand" "I" "SlopeJudge") ∈ sj_nest := sj_n3 190 rfl rfl
theorem kw_1069 : (Jvm.Cond.methodLinkNest "SlopeJudge" (409 : Nat) ({ cls := "SlopeJudge$Held", name := "draw", desc := "(I)I" } : Jvm.MethodName) "SlopeJudge") ∈ sj_nest := sj_n5 109 rfl rfl
theorem kw_1072 : (Jvm.Cond.code ({ cls := "SlopeJudge$Held", name := "draw", desc := "(I)I" } : Jvm.MethodName) prog_3_method_3_code (2 : Nat) (Option.some Jvm.ClassFile.FieldType.int)) ∈ sj_kw := sj_k5 112 rfl rfl
theorem ks_85 : (Cond.selects "SlopeJudge$Held" ({ cls := "SlopeJudge$Held", name := "draw", desc := "(I)I" } : MethodName) ({ cls := "SlopeJudge$Held", name := "draw", desc := "(I)I" } : MethodName)) ∈ sj_kw := sj_ks 85 rfl rfl
theorem kw_1071 : (Jvm.Cond.instanceMethod ({ cls := "SlopeJudge$Held", name := "draw", desc := "(I)I" } : Jvm.MethodName)) ∈ sj_kw := sj_k5 111 rfl rfl
theorem kw_1091 : (Jvm.Cond.methodLinkNest "SlopeJudge" (416 : Nat) ({ cls := "SlopeJudge$Report", name := "write", desc := "(I)V" } : Jvm.MethodName) "SlopeJudge") ∈ sj_nest := sj_n5 131 rfl rfl
theorem kw_187 : (Jvm.Cond.fieldLinkNest "SlopeJudge" (412 : Nat) "SlopeJudge$Report" "length" "I" "SlopeJudge") ∈ sj_nest := sj_n1 187 rfl rfl
theorem kw_1079 : (Jvm.Cond.methodLinkNest "SlopeJudge" (413 : Nat) ({ cls := "SlopeJudge$Report", name := "writeFacto\x72", desc := "(I)V" } : Jvm.MethodName) "SlopeJudge") ∈ sj_nest := sj_n5 119 rfl rfl
theorem kw_1082 : (Jvm.Cond.code ({ cls := "SlopeJudge$Report", name := "writeFacto\x72", desc := "(I)V" } : Jvm.MethodName) prog_4_method_3_code (2 : Nat) (Option.none : Option Jvm.ClassFile.FieldType)) ∈ sj_kw := sj_k5 122 rfl rfl
theorem ks_86 : (Cond.selects "SlopeJudge$Report" ({ cls := "SlopeJudge$Report", name := "writeFacto\x72", desc := "(I)V" } : MethodName) ({ cls := "SlopeJudge$Report", name := "writeFacto\x72", desc := "(I)V" } : MethodName)) ∈ sj_kw := sj_ks 86 rfl rfl
theorem kw_1081 : (Jvm.Cond.instanceMethod ({ cls := "SlopeJudge$Report", name := "writeFacto\x72", desc := "(I)V" } : Jvm.MethodName)) ∈ sj_kw := sj_k5 121 rfl rfl
theorem kw_1092 : (Jvm.Cond.methodLinkNest "SlopeJudge" (419 : Nat) ({ cls := "SlopeJudge$Report", name := "writeNumbe\x72", desc := "(I)V" } : Jvm.MethodName) "SlopeJudge") ∈ sj_nest := sj_n5 132 rfl rfl
theorem kw_185 : (Jvm.Cond.fieldLinkNest "SlopeJudge" (422 : Nat) "SlopeJudge$Report" "signs" "[I" "SlopeJudge") ∈ sj_nest := sj_n1 185 rfl rfl
theorem kw_1107 : (Jvm.Cond.fieldLink "SlopeJudgeModel" (9 : Nat) "SlopeJudgeModel" "w" "[I") ∈ sj_kw := sj_k5 147 rfl rfl
theorem kw_1102 : (Jvm.Cond.methodLink "SlopeJudgeModel" (3 : Nat) ({ cls := "java/lang/Object", name := "<init>", desc := "()V" } : Jvm.MethodName)) ∈ sj_kw := sj_k5 142 rfl rfl
theorem kw_1108 : (Jvm.Cond.fieldLink "SlopeJudgeModel" (13 : Nat) "SlopeJudgeModel" "aside" "[I") ∈ sj_kw := sj_k5 148 rfl rfl
theorem kw_1109 : (Jvm.Cond.fieldLink "SlopeJudgeModel" (16 : Nat) "SlopeJudgeModel" "kept" "[I") ∈ sj_kw := sj_k5 149 rfl rfl
theorem kw_1110 : (Jvm.Cond.fieldLink "SlopeJudgeModel" (19 : Nat) "SlopeJudgeModel" "undos" "[I") ∈ sj_kw := sj_k5 150 rfl rfl
theorem kw_1120 : (Jvm.Cond.fieldLink "SlopeJudgeModel" (22 : Nat) "SlopeJudgeModel" "from" "I") ∈ sj_kw := sj_k5 160 rfl rfl
theorem kw_1123 : (Jvm.Cond.fieldLink "SlopeJudgeModel" (26 : Nat) "SlopeJudgeModel" "base" "[I") ∈ sj_kw := sj_k5 163 rfl rfl
theorem kw_1129 : (Jvm.Cond.fieldLink "SlopeJudgeModel" (29 : Nat) "SlopeJudgeModel" "ove\x72" "[J") ∈ sj_kw := sj_k5 169 rfl rfl
theorem kw_1130 : (Jvm.Cond.fieldLink "SlopeJudgeModel" (33 : Nat) "SlopeJudgeModel" "back" "[I") ∈ sj_kw := sj_k5 170 rfl rfl
theorem kw_1131 : (Jvm.Cond.fieldLink "SlopeJudgeModel" (36 : Nat) "SlopeJudgeModel" "ends" "[J") ∈ sj_kw := sj_k5 171 rfl rfl
theorem kw_1132 : (Jvm.Cond.fieldLink "SlopeJudgeModel" (39 : Nat) "SlopeJudgeModel" "signs" "[I") ∈ sj_kw := sj_k5 172 rfl rfl
theorem kw_590 : (Jvm.Cond.arrayClass Jvm.ClassFile.FieldType.byte) ∈ sj_kw := sj_k3 110 rfl rfl
theorem kw_1134 : (Jvm.Cond.fieldLink "SlopeJudgeModel" (42 : Nat) "SlopeJudgeModel" "tape" "[B") ∈ sj_kw := sj_k5 174 rfl rfl
theorem kw_1138 : (Jvm.Cond.fieldLink "SlopeJudgeModel" (46 : Nat) "SlopeJudgeModel" "faultPlace" "I") ∈ sj_kw := sj_k5 178 rfl rfl
theorem kw_1213 : (Jvm.Cond.arrayClass Jvm.ClassFile.FieldType.boolean) ∈ sj_kw := sj_k6 13 rfl rfl
theorem kw_1141 : (Jvm.Cond.fieldLink "SlopeJudgeModel" (49 : Nat) "SlopeJudgeModel" "isTold" "[Z") ∈ sj_kw := sj_k5 181 rfl rfl
theorem kw_1103 : (Jvm.Cond.methodLink "SlopeJudgeModel" (53 : Nat) ({ cls := "SlopeJudgeModel", name := "begins", desc := "(II)V" } : Jvm.MethodName)) ∈ sj_kw := sj_k5 143 rfl rfl
theorem kw_1106 : (Jvm.Cond.code ({ cls := "SlopeJudgeModel", name := "begins", desc := "(II)V" } : Jvm.MethodName) prog_11_method_5_code (4 : Nat) (Option.none : Option Jvm.ClassFile.FieldType)) ∈ sj_kw := sj_k5 146 rfl rfl
theorem kw_10 : (Jvm.Cond.initialized "SlopeJudgeModel") ∈ sj_kw := sj_k1 10 rfl rfl
theorem ks_89 : (Cond.selects "SlopeJudgeModel" ({ cls := "SlopeJudgeModel", name := "begins", desc := "(II)V" } : MethodName) ({ cls := "SlopeJudgeModel", name := "begins", desc := "(II)V" } : MethodName)) ∈ sj_kw := sj_ks 89 rfl rfl
theorem kw_1105 : (Jvm.Cond.instanceMethod ({ cls := "SlopeJudgeModel", name := "begins", desc := "(II)V" } : Jvm.MethodName)) ∈ sj_kw := sj_k5 145 rfl rfl
theorem kw_1299 : (Jvm.Cond.methodLink "SlopeJudgeModel" (111 : Nat) ({ cls := "SlopeJudgeModel", name := "most", desc := "(II)I" } : Jvm.MethodName)) ∈ sj_kw := sj_k6 99 rfl rfl
theorem kw_1301 : (Jvm.Cond.code ({ cls := "SlopeJudgeModel", name := "most", desc := "(II)I" } : Jvm.MethodName) prog_11_method_3_code (2 : Nat) (Option.some Jvm.ClassFile.FieldType.int)) ∈ sj_kw := sj_k6 101 rfl rfl
theorem kw_1300 : (Jvm.Cond.static ({ cls := "SlopeJudgeModel", name := "most", desc := "(II)I" } : Jvm.MethodName)) ∈ sj_kw := sj_k6 100 rfl rfl
theorem kw_1240 : (Jvm.Cond.constantLong "SlopeJudgeModel" (78 : Nat) (5 : Int64)) ∈ sj_kw := sj_k6 40 rfl rfl
theorem kw_1224 : (Jvm.Cond.methodLink "SlopeJudgeModel" (57 : Nat) ({ cls := "SlopeJudgeModel", name := "isIn", desc := "(JJJ)Z" } : Jvm.MethodName)) ∈ sj_kw := sj_k6 24 rfl rfl
theorem kw_1226 : (Jvm.Cond.code ({ cls := "SlopeJudgeModel", name := "isIn", desc := "(JJJ)Z" } : Jvm.MethodName) prog_11_method_1_code (6 : Nat) (Option.some Jvm.ClassFile.FieldType.boolean)) ∈ sj_kw := sj_k6 26 rfl rfl
theorem kw_1225 : (Jvm.Cond.static ({ cls := "SlopeJudgeModel", name := "isIn", desc := "(JJJ)Z" } : Jvm.MethodName)) ∈ sj_kw := sj_k6 25 rfl rfl
theorem kw_1667 : (Jvm.Cond.methodLink "SlopeJudgeModel" (410 : Nat) ({ cls := "SlopeJudgeModel", name := "isAncho\x72", desc := "(I)Z" } : Jvm.MethodName)) ∈ sj_kw := sj_k7 227 rfl rfl
theorem kw_1670 : (Jvm.Cond.code ({ cls := "SlopeJudgeModel", name := "isAncho\x72", desc := "(I)Z" } : Jvm.MethodName) prog_11_method_110_code (2 : Nat) (Option.some Jvm.ClassFile.FieldType.boolean)) ∈ sj_kw := sj_k7 230 rfl rfl
theorem ks_147 : (Cond.selects "SlopeJudgeModel" ({ cls := "SlopeJudgeModel", name := "isAncho\x72", desc := "(I)Z" } : MethodName) ({ cls := "SlopeJudgeModel", name := "isAncho\x72", desc := "(I)Z" } : MethodName)) ∈ sj_kw := sj_ks 147 rfl rfl
theorem kw_1669 : (Jvm.Cond.instanceMethod ({ cls := "SlopeJudgeModel", name := "isAncho\x72", desc := "(I)Z" } : Jvm.MethodName)) ∈ sj_kw := sj_k7 229 rfl rfl
theorem kw_1679 : (Jvm.Cond.methodLink "SlopeJudgeModel" (416 : Nat) ({ cls := "SlopeJudgeModel", name := "anchorSet", desc := "()I" } : Jvm.MethodName)) ∈ sj_kw := sj_k7 239 rfl rfl
theorem kw_1682 : (Jvm.Cond.code ({ cls := "SlopeJudgeModel", name := "anchorSet", desc := "()I" } : Jvm.MethodName) prog_11_method_113_code (3 : Nat) (Option.some Jvm.ClassFile.FieldType.int)) ∈ sj_kw := sj_k8 2 rfl rfl
theorem ks_148 : (Cond.selects "SlopeJudgeModel" ({ cls := "SlopeJudgeModel", name := "anchorSet", desc := "()I" } : MethodName) ({ cls := "SlopeJudgeModel", name := "anchorSet", desc := "()I" } : MethodName)) ∈ sj_kw := sj_ks 148 rfl rfl
theorem kw_1681 : (Jvm.Cond.instanceMethod ({ cls := "SlopeJudgeModel", name := "anchorSet", desc := "()I" } : Jvm.MethodName)) ∈ sj_kw := sj_k8 1 rfl rfl
theorem kw_1259 : (Jvm.Cond.methodLink "SlopeJudgeModel" (92 : Nat) ({ cls := "SlopeJudgeModel", name := "hasSlip", desc := "()Z" } : Jvm.MethodName)) ∈ sj_kw := sj_k6 59 rfl rfl
theorem kw_1262 : (Jvm.Cond.code ({ cls := "SlopeJudgeModel", name := "hasSlip", desc := "()Z" } : Jvm.MethodName) prog_11_method_7_code (1 : Nat) (Option.some Jvm.ClassFile.FieldType.boolean)) ∈ sj_kw := sj_k6 62 rfl rfl
theorem ks_94 : (Cond.selects "SlopeJudgeModel" ({ cls := "SlopeJudgeModel", name := "hasSlip", desc := "()Z" } : MethodName) ({ cls := "SlopeJudgeModel", name := "hasSlip", desc := "()Z" } : MethodName)) ∈ sj_kw := sj_ks 94 rfl rfl
theorem kw_1261 : (Jvm.Cond.instanceMethod ({ cls := "SlopeJudgeModel", name := "hasSlip", desc := "()Z" } : Jvm.MethodName)) ∈ sj_kw := sj_k6 61 rfl rfl
theorem kw_1111 : (Jvm.Cond.fieldLink "SlopeJudgeModel" (61 : Nat) "SlopeJudgeModel" "undoMany" "I") ∈ sj_kw := sj_k5 151 rfl rfl
theorem kw_1135 : (Jvm.Cond.fieldLink "SlopeJudgeModel" (337 : Nat) "SlopeJudgeModel" "taped" "I") ∈ sj_kw := sj_k5 175 rfl rfl
theorem kw_1683 : (Jvm.Cond.methodLink "SlopeJudgeModel" (419 : Nat) ({ cls := "SlopeJudgeModel", name := "highest", desc := "()I" } : Jvm.MethodName)) ∈ sj_kw := sj_k8 3 rfl rfl
theorem kw_1686 : (Jvm.Cond.code ({ cls := "SlopeJudgeModel", name := "highest", desc := "()I" } : Jvm.MethodName) prog_11_method_114_code (3 : Nat) (Option.some Jvm.ClassFile.FieldType.int)) ∈ sj_kw := sj_k8 6 rfl rfl
theorem ks_149 : (Cond.selects "SlopeJudgeModel" ({ cls := "SlopeJudgeModel", name := "highest", desc := "()I" } : MethodName) ({ cls := "SlopeJudgeModel", name := "highest", desc := "()I" } : MethodName)) ∈ sj_kw := sj_ks 149 rfl rfl
theorem kw_1685 : (Jvm.Cond.instanceMethod ({ cls := "SlopeJudgeModel", name := "highest", desc := "()I" } : Jvm.MethodName)) ∈ sj_kw := sj_k8 5 rfl rfl
theorem kw_1687 : (Jvm.Cond.methodLink "SlopeJudgeModel" (422 : Nat) ({ cls := "SlopeJudgeModel", name := "soilOve\x72", desc := "()I" } : Jvm.MethodName)) ∈ sj_kw := sj_k8 7 rfl rfl
theorem kw_1690 : (Jvm.Cond.code ({ cls := "SlopeJudgeModel", name := "soilOve\x72", desc := "()I" } : Jvm.MethodName) prog_11_method_115_code (3 : Nat) (Option.some Jvm.ClassFile.FieldType.int)) ∈ sj_kw := sj_k8 10 rfl rfl
theorem ks_150 : (Cond.selects "SlopeJudgeModel" ({ cls := "SlopeJudgeModel", name := "soilOve\x72", desc := "()I" } : MethodName) ({ cls := "SlopeJudgeModel", name := "soilOve\x72", desc := "()I" } : MethodName)) ∈ sj_kw := sj_ks 150 rfl rfl
theorem kw_1689 : (Jvm.Cond.instanceMethod ({ cls := "SlopeJudgeModel", name := "soilOve\x72", desc := "()I" } : Jvm.MethodName)) ∈ sj_kw := sj_k8 9 rfl rfl
theorem kw_1112 : (Jvm.Cond.fieldLink "SlopeJudgeModel" (413 : Nat) "SlopeJudgeModel" "hasImage" "Z") ∈ sj_kw := sj_k5 152 rfl rfl
theorem kw_1133 : (Jvm.Cond.fieldLink "SlopeJudgeModel" (325 : Nat) "SlopeJudgeModel" "signMany" "I") ∈ sj_kw := sj_k5 173 rfl rfl
theorem kw_1122 : (Jvm.Cond.fieldLink "SlopeJudgeModel" (153 : Nat) "SlopeJudgeModel" "left" "Z") ∈ sj_kw := sj_k5 162 rfl rfl
theorem kw_1121 : (Jvm.Cond.fieldLink "SlopeJudgeModel" (150 : Nat) "SlopeJudgeModel" "to" "I") ∈ sj_kw := sj_k5 161 rfl rfl
theorem kw_1330 : (Jvm.Cond.methodLink "SlopeJudgeModel" (161 : Nat) ({ cls := "SlopeJudgeModel", name := "isCounting", desc := "(I)Z" } : Jvm.MethodName)) ∈ sj_kw := sj_k6 130 rfl rfl
theorem kw_1333 : (Jvm.Cond.code ({ cls := "SlopeJudgeModel", name := "isCounting", desc := "(I)Z" } : Jvm.MethodName) prog_11_method_27_code (3 : Nat) (Option.some Jvm.ClassFile.FieldType.boolean)) ∈ sj_kw := sj_k6 133 rfl rfl
theorem ks_103 : (Cond.selects "SlopeJudgeModel" ({ cls := "SlopeJudgeModel", name := "isCounting", desc := "(I)Z" } : MethodName) ({ cls := "SlopeJudgeModel", name := "isCounting", desc := "(I)Z" } : MethodName)) ∈ sj_kw := sj_ks 103 rfl rfl
theorem kw_1332 : (Jvm.Cond.instanceMethod ({ cls := "SlopeJudgeModel", name := "isCounting", desc := "(I)Z" } : Jvm.MethodName)) ∈ sj_kw := sj_k6 132 rfl rfl
theorem kw_1334 : (Jvm.Cond.constantLong "SlopeJudgeModel" (138 : Nat) (2000 : Int64)) ∈ sj_kw := sj_k6 134 rfl rfl
theorem kw_1351 : (Jvm.Cond.methodLink "SlopeJudgeModel" (104 : Nat) ({ cls := "SlopeJudgeModel", name := "least", desc := "(II)I" } : Jvm.MethodName)) ∈ sj_kw := sj_k6 151 rfl rfl
theorem kw_1353 : (Jvm.Cond.code ({ cls := "SlopeJudgeModel", name := "least", desc := "(II)I" } : Jvm.MethodName) prog_11_method_2_code (2 : Nat) (Option.some Jvm.ClassFile.FieldType.int)) ∈ sj_kw := sj_k6 153 rfl rfl
theorem kw_1352 : (Jvm.Cond.static ({ cls := "SlopeJudgeModel", name := "least", desc := "(II)I" } : Jvm.MethodName)) ∈ sj_kw := sj_k6 152 rfl rfl
theorem kw_1347 : (Jvm.Cond.methodLink "SlopeJudgeModel" (108 : Nat) ({ cls := "SlopeJudgeModel", name := "top", desc := "(II)I" } : Jvm.MethodName)) ∈ sj_kw := sj_k6 147 rfl rfl
theorem kw_1350 : (Jvm.Cond.code ({ cls := "SlopeJudgeModel", name := "top", desc := "(II)I" } : Jvm.MethodName) prog_11_method_19_code (5 : Nat) (Option.some Jvm.ClassFile.FieldType.int)) ∈ sj_kw := sj_k6 150 rfl rfl
theorem ks_107 : (Cond.selects "SlopeJudgeModel" ({ cls := "SlopeJudgeModel", name := "top", desc := "(II)I" } : MethodName) ({ cls := "SlopeJudgeModel", name := "top", desc := "(II)I" } : MethodName)) ∈ sj_kw := sj_ks 107 rfl rfl
theorem kw_1349 : (Jvm.Cond.instanceMethod ({ cls := "SlopeJudgeModel", name := "top", desc := "(II)I" } : Jvm.MethodName)) ∈ sj_kw := sj_k6 149 rfl rfl
theorem kw_1117 : (Jvm.Cond.fieldLink "SlopeJudgeModel" (135 : Nat) "SlopeJudgeModel" "press" "J") ∈ sj_kw := sj_k5 157 rfl rfl
theorem kw_1114 : (Jvm.Cond.fieldLink "SlopeJudgeModel" (117 : Nat) "SlopeJudgeModel" "laye\x72" "I") ∈ sj_kw := sj_k5 154 rfl rfl
theorem kw_1118 : (Jvm.Cond.fieldLink "SlopeJudgeModel" (140 : Nat) "SlopeJudgeModel" "strength" "J") ∈ sj_kw := sj_k5 158 rfl rfl
theorem kw_1115 : (Jvm.Cond.fieldLink "SlopeJudgeModel" (124 : Nat) "SlopeJudgeModel" "weight" "J") ∈ sj_kw := sj_k5 155 rfl rfl
theorem kw_1358 : (Jvm.Cond.constantLong "SlopeJudgeModel" (143 : Nat) (1000 : Int64)) ∈ sj_kw := sj_k6 158 rfl rfl
theorem kw_1113 : (Jvm.Cond.fieldLink "SlopeJudgeModel" (114 : Nat) "SlopeJudgeModel" "rise" "I") ∈ sj_kw := sj_k5 153 rfl rfl
theorem kw_1119 : (Jvm.Cond.fieldLink "SlopeJudgeModel" (145 : Nat) "SlopeJudgeModel" "push" "J") ∈ sj_kw := sj_k5 159 rfl rfl
theorem kw_1227 : (Jvm.Cond.constantLong "SlopeJudgeModel" (68 : Nat) (10 : Int64)) ∈ sj_kw := sj_k6 27 rfl rfl
theorem kw_1354 : (Jvm.Cond.methodLink "SlopeJudgeModel" (128 : Nat) ({ cls := "SlopeJudgeModel", name := "wate\x72", desc := "(I)I" } : Jvm.MethodName)) ∈ sj_kw := sj_k6 154 rfl rfl
theorem kw_1357 : (Jvm.Cond.code ({ cls := "SlopeJudgeModel", name := "wate\x72", desc := "(I)I" } : Jvm.MethodName) prog_11_method_20_code (2 : Nat) (Option.some Jvm.ClassFile.FieldType.int)) ∈ sj_kw := sj_k6 157 rfl rfl
theorem ks_108 : (Cond.selects "SlopeJudgeModel" ({ cls := "SlopeJudgeModel", name := "wate\x72", desc := "(I)I" } : MethodName) ({ cls := "SlopeJudgeModel", name := "wate\x72", desc := "(I)I" } : MethodName)) ∈ sj_kw := sj_ks 108 rfl rfl
theorem kw_1356 : (Jvm.Cond.instanceMethod ({ cls := "SlopeJudgeModel", name := "wate\x72", desc := "(I)I" } : Jvm.MethodName)) ∈ sj_kw := sj_k6 156 rfl rfl
theorem kw_1116 : (Jvm.Cond.fieldLink "SlopeJudgeModel" (132 : Nat) "SlopeJudgeModel" "lift" "J") ∈ sj_kw := sj_k5 156 rfl rfl
theorem kw_1343 : (Jvm.Cond.methodLink "SlopeJudgeModel" (120 : Nat) ({ cls := "SlopeJudgeModel", name := "thick", desc := "(III)I" } : Jvm.MethodName)) ∈ sj_kw := sj_k6 143 rfl rfl
theorem kw_1346 : (Jvm.Cond.code ({ cls := "SlopeJudgeModel", name := "thick", desc := "(III)I" } : Jvm.MethodName) prog_11_method_21_code (6 : Nat) (Option.some Jvm.ClassFile.FieldType.int)) ∈ sj_kw := sj_k6 146 rfl rfl
theorem ks_106 : (Cond.selects "SlopeJudgeModel" ({ cls := "SlopeJudgeModel", name := "thick", desc := "(III)I" } : MethodName) ({ cls := "SlopeJudgeModel", name := "thick", desc := "(III)I" } : MethodName)) ∈ sj_kw := sj_ks 106 rfl rfl
theorem kw_1345 : (Jvm.Cond.instanceMethod ({ cls := "SlopeJudgeModel", name := "thick", desc := "(III)I" } : Jvm.MethodName)) ∈ sj_kw := sj_k6 145 rfl rfl
theorem kw_1339 : (Jvm.Cond.methodLink "SlopeJudgeModel" (157 : Nat) ({ cls := "SlopeJudgeModel", name := "laysSlice", desc := "(IIIZ)V" } : Jvm.MethodName)) ∈ sj_kw := sj_k6 139 rfl rfl
theorem kw_1342 : (Jvm.Cond.code ({ cls := "SlopeJudgeModel", name := "laysSlice", desc := "(IIIZ)V" } : Jvm.MethodName) prog_11_method_22_code (8 : Nat) (Option.none : Option Jvm.ClassFile.FieldType)) ∈ sj_kw := sj_k6 142 rfl rfl
theorem ks_105 : (Cond.selects "SlopeJudgeModel" ({ cls := "SlopeJudgeModel", name := "laysSlice", desc := "(IIIZ)V" } : MethodName) ({ cls := "SlopeJudgeModel", name := "laysSlice", desc := "(IIIZ)V" } : MethodName)) ∈ sj_kw := sj_ks 105 rfl rfl
theorem kw_1341 : (Jvm.Cond.instanceMethod ({ cls := "SlopeJudgeModel", name := "laysSlice", desc := "(IIIZ)V" } : Jvm.MethodName)) ∈ sj_kw := sj_k6 141 rfl rfl
theorem kw_1363 : (Jvm.Cond.constantLong "SlopeJudgeModel" (148 : Nat) (-1 : Int64)) ∈ sj_kw := sj_k6 163 rfl rfl
theorem kw_1364 : (Jvm.Cond.methodLink "SlopeJudgeModel" (175 : Nat) ({ cls := "SlopeJudgeModel", name := "upwards", desc := "(JJ)J" } : Jvm.MethodName)) ∈ sj_kw := sj_k6 164 rfl rfl
theorem kw_1366 : (Jvm.Cond.code ({ cls := "SlopeJudgeModel", name := "upwards", desc := "(JJ)J" } : Jvm.MethodName) prog_11_method_29_code (4 : Nat) (Option.some Jvm.ClassFile.FieldType.long)) ∈ sj_kw := sj_k6 166 rfl rfl
theorem kw_1365 : (Jvm.Cond.static ({ cls := "SlopeJudgeModel", name := "upwards", desc := "(JJ)J" } : Jvm.MethodName)) ∈ sj_kw := sj_k6 165 rfl rfl
theorem kw_1335 : (Jvm.Cond.methodLink "SlopeJudgeModel" (168 : Nat) ({ cls := "SlopeJudgeModel", name := "laysAt", desc := "(I)V" } : Jvm.MethodName)) ∈ sj_kw := sj_k6 135 rfl rfl
theorem kw_1338 : (Jvm.Cond.code ({ cls := "SlopeJudgeModel", name := "laysAt", desc := "(I)V" } : Jvm.MethodName) prog_11_method_26_code (2 : Nat) (Option.none : Option Jvm.ClassFile.FieldType)) ∈ sj_kw := sj_k6 138 rfl rfl
theorem ks_104 : (Cond.selects "SlopeJudgeModel" ({ cls := "SlopeJudgeModel", name := "laysAt", desc := "(I)V" } : MethodName) ({ cls := "SlopeJudgeModel", name := "laysAt", desc := "(I)V" } : MethodName)) ∈ sj_kw := sj_ks 104 rfl rfl
theorem kw_1337 : (Jvm.Cond.instanceMethod ({ cls := "SlopeJudgeModel", name := "laysAt", desc := "(I)V" } : Jvm.MethodName)) ∈ sj_kw := sj_k6 137 rfl rfl
theorem kw_1359 : (Jvm.Cond.methodLink "SlopeJudgeModel" (171 : Nat) ({ cls := "SlopeJudgeModel", name := "rubsOf", desc := "(I)J" } : Jvm.MethodName)) ∈ sj_kw := sj_k6 159 rfl rfl
theorem kw_1362 : (Jvm.Cond.code ({ cls := "SlopeJudgeModel", name := "rubsOf", desc := "(I)J" } : Jvm.MethodName) prog_11_method_23_code (4 : Nat) (Option.some Jvm.ClassFile.FieldType.long)) ∈ sj_kw := sj_k6 162 rfl rfl
theorem ks_109 : (Cond.selects "SlopeJudgeModel" ({ cls := "SlopeJudgeModel", name := "rubsOf", desc := "(I)J" } : MethodName) ({ cls := "SlopeJudgeModel", name := "rubsOf", desc := "(I)J" } : MethodName)) ∈ sj_kw := sj_ks 109 rfl rfl
theorem kw_1361 : (Jvm.Cond.instanceMethod ({ cls := "SlopeJudgeModel", name := "rubsOf", desc := "(I)J" } : Jvm.MethodName)) ∈ sj_kw := sj_k6 161 rfl rfl
theorem kw_1326 : (Jvm.Cond.methodLink "SlopeJudgeModel" (164 : Nat) ({ cls := "SlopeJudgeModel", name := "pulls", desc := "()J" } : Jvm.MethodName)) ∈ sj_kw := sj_k6 126 rfl rfl
theorem kw_1329 : (Jvm.Cond.code ({ cls := "SlopeJudgeModel", name := "pulls", desc := "()J" } : Jvm.MethodName) prog_11_method_28_code (4 : Nat) (Option.some Jvm.ClassFile.FieldType.long)) ∈ sj_kw := sj_k6 129 rfl rfl
theorem ks_102 : (Cond.selects "SlopeJudgeModel" ({ cls := "SlopeJudgeModel", name := "pulls", desc := "()J" } : MethodName) ({ cls := "SlopeJudgeModel", name := "pulls", desc := "()J" } : MethodName)) ∈ sj_kw := sj_ks 102 rfl rfl
theorem kw_1328 : (Jvm.Cond.instanceMethod ({ cls := "SlopeJudgeModel", name := "pulls", desc := "()J" } : Jvm.MethodName)) ∈ sj_kw := sj_k6 128 rfl rfl
theorem kw_1322 : (Jvm.Cond.methodLink "SlopeJudgeModel" (179 : Nat) ({ cls := "SlopeJudgeModel", name := "standsWith", desc := "(IJ)Z" } : Jvm.MethodName)) ∈ sj_kw := sj_k6 122 rfl rfl
theorem kw_1325 : (Jvm.Cond.code ({ cls := "SlopeJudgeModel", name := "standsWith", desc := "(IJ)Z" } : Jvm.MethodName) prog_11_method_31_code (11 : Nat) (Option.some Jvm.ClassFile.FieldType.boolean)) ∈ sj_kw := sj_k6 125 rfl rfl
theorem ks_101 : (Cond.selects "SlopeJudgeModel" ({ cls := "SlopeJudgeModel", name := "standsWith", desc := "(IJ)Z" } : MethodName) ({ cls := "SlopeJudgeModel", name := "standsWith", desc := "(IJ)Z" } : MethodName)) ∈ sj_kw := sj_ks 101 rfl rfl
theorem kw_1324 : (Jvm.Cond.instanceMethod ({ cls := "SlopeJudgeModel", name := "standsWith", desc := "(IJ)Z" } : Jvm.MethodName)) ∈ sj_kw := sj_k6 124 rfl rfl
theorem kw_1318 : (Jvm.Cond.methodLink "SlopeJudgeModel" (183 : Nat) ({ cls := "SlopeJudgeModel", name := "isStanding", desc := "(I)Z" } : Jvm.MethodName)) ∈ sj_kw := sj_k6 118 rfl rfl
theorem kw_1321 : (Jvm.Cond.code ({ cls := "SlopeJudgeModel", name := "isStanding", desc := "(I)Z" } : Jvm.MethodName) prog_11_method_32_code (2 : Nat) (Option.some Jvm.ClassFile.FieldType.boolean)) ∈ sj_kw := sj_k6 121 rfl rfl
theorem ks_100 : (Cond.selects "SlopeJudgeModel" ({ cls := "SlopeJudgeModel", name := "isStanding", desc := "(I)Z" } : MethodName) ({ cls := "SlopeJudgeModel", name := "isStanding", desc := "(I)Z" } : MethodName)) ∈ sj_kw := sj_ks 100 rfl rfl
theorem kw_1320 : (Jvm.Cond.instanceMethod ({ cls := "SlopeJudgeModel", name := "isStanding", desc := "(I)Z" } : Jvm.MethodName)) ∈ sj_kw := sj_k6 120 rfl rfl
theorem kw_1436 : (Jvm.Cond.methodLink "SlopeJudgeModel" (277 : Nat) ({ cls := "SlopeJudgeModel", name := "takesSlip", desc := "()Z" } : Jvm.MethodName)) ∈ sj_kw := sj_k6 236 rfl rfl
theorem kw_1439 : (Jvm.Cond.code ({ cls := "SlopeJudgeModel", name := "takesSlip", desc := "()Z" } : Jvm.MethodName) prog_11_method_24_code (2 : Nat) (Option.some Jvm.ClassFile.FieldType.boolean)) ∈ sj_kw := sj_k6 239 rfl rfl
theorem ks_119 : (Cond.selects "SlopeJudgeModel" ({ cls := "SlopeJudgeModel", name := "takesSlip", desc := "()Z" } : MethodName) ({ cls := "SlopeJudgeModel", name := "takesSlip", desc := "()Z" } : MethodName)) ∈ sj_kw := sj_ks 119 rfl rfl
theorem kw_1438 : (Jvm.Cond.instanceMethod ({ cls := "SlopeJudgeModel", name := "takesSlip", desc := "()Z" } : Jvm.MethodName)) ∈ sj_kw := sj_k6 238 rfl rfl
theorem kw_1314 : (Jvm.Cond.methodLink "SlopeJudgeModel" (209 : Nat) ({ cls := "SlopeJudgeModel", name := "factorOf", desc := "()I" } : Jvm.MethodName)) ∈ sj_kw := sj_k6 114 rfl rfl
theorem kw_1317 : (Jvm.Cond.code ({ cls := "SlopeJudgeModel", name := "factorOf", desc := "()I" } : Jvm.MethodName) prog_11_method_33_code (4 : Nat) (Option.some Jvm.ClassFile.FieldType.int)) ∈ sj_kw := sj_k6 117 rfl rfl
theorem ks_99 : (Cond.selects "SlopeJudgeModel" ({ cls := "SlopeJudgeModel", name := "factorOf", desc := "()I" } : MethodName) ({ cls := "SlopeJudgeModel", name := "factorOf", desc := "()I" } : MethodName)) ∈ sj_kw := sj_ks 99 rfl rfl
theorem kw_1316 : (Jvm.Cond.instanceMethod ({ cls := "SlopeJudgeModel", name := "factorOf", desc := "()I" } : Jvm.MethodName)) ∈ sj_kw := sj_k6 116 rfl rfl
theorem kw_1562 : (Jvm.Cond.methodLink "SlopeJudgeModel" (331 : Nat) ({ cls := "SlopeJudgeModel", name := "says", desc := "(I)V" } : Jvm.MethodName)) ∈ sj_kw := sj_k7 122 rfl rfl
theorem kw_1565 : (Jvm.Cond.code ({ cls := "SlopeJudgeModel", name := "says", desc := "(I)V" } : Jvm.MethodName) prog_11_method_84_code (2 : Nat) (Option.none : Option Jvm.ClassFile.FieldType)) ∈ sj_kw := sj_k7 125 rfl rfl
theorem ks_130 : (Cond.selects "SlopeJudgeModel" ({ cls := "SlopeJudgeModel", name := "says", desc := "(I)V" } : MethodName) ({ cls := "SlopeJudgeModel", name := "says", desc := "(I)V" } : MethodName)) ∈ sj_kw := sj_ks 130 rfl rfl
theorem kw_1564 : (Jvm.Cond.instanceMethod ({ cls := "SlopeJudgeModel", name := "says", desc := "(I)V" } : Jvm.MethodName)) ∈ sj_kw := sj_k7 124 rfl rfl
theorem kw_1558 : (Jvm.Cond.methodLink "SlopeJudgeModel" (328 : Nat) ({ cls := "SlopeJudgeModel", name := "saysNumbe\x72", desc := "(I)V" } : Jvm.MethodName)) ∈ sj_kw := sj_k7 118 rfl rfl
theorem kw_1561 : (Jvm.Cond.code ({ cls := "SlopeJudgeModel", name := "saysNumbe\x72", desc := "(I)V" } : Jvm.MethodName) prog_11_method_85_code (2 : Nat) (Option.none : Option Jvm.ClassFile.FieldType)) ∈ sj_kw := sj_k7 121 rfl rfl
theorem ks_129 : (Cond.selects "SlopeJudgeModel" ({ cls := "SlopeJudgeModel", name := "saysNumbe\x72", desc := "(I)V" } : MethodName) ({ cls := "SlopeJudgeModel", name := "saysNumbe\x72", desc := "(I)V" } : MethodName)) ∈ sj_kw := sj_ks 129 rfl rfl
theorem kw_1560 : (Jvm.Cond.instanceMethod ({ cls := "SlopeJudgeModel", name := "saysNumbe\x72", desc := "(I)V" } : Jvm.MethodName)) ∈ sj_kw := sj_k7 120 rfl rfl
theorem kw_1557 : (Jvm.Cond.methodLink "SlopeJudgeModel" (334 : Nat) ({ cls := "SlopeJudgeModel", name := "facto\x72", desc := "()I" } : Jvm.MethodName)) ∈ sj_kw := sj_k7 117 rfl rfl
theorem kw_1457 : (Jvm.Cond.code ({ cls := "SlopeJudgeModel", name := "facto\x72", desc := "()I" } : Jvm.MethodName) prog_11_method_60_code (1 : Nat) (Option.some Jvm.ClassFile.FieldType.int)) ∈ sj_kw := sj_k7 17 rfl rfl
theorem kw_1456 : (Jvm.Cond.selects "SlopeJudgeModel" ({ cls := "SlopeJudgeModel", name := "facto\x72", desc := "()I" } : Jvm.MethodName) ({ cls := "SlopeJudgeModel", name := "facto\x72", desc := "()I" } : Jvm.MethodName)) ∈ sj_kw := sj_k7 16 rfl rfl
theorem kw_1455 : (Jvm.Cond.instanceMethod ({ cls := "SlopeJudgeModel", name := "facto\x72", desc := "()I" } : Jvm.MethodName)) ∈ sj_kw := sj_k7 15 rfl rfl
theorem kw_1448 : (Jvm.Cond.constantLong "SlopeJudgeModel" (285 : Nat) (20000 : Int64)) ∈ sj_kw := sj_k7 8 rfl rfl
theorem kw_1551 : (Jvm.Cond.constant "SlopeJudgeModel" (320 : Nat) (1664525 : Int32)) ∈ sj_kw := sj_k7 111 rfl rfl
theorem kw_1552 : (Jvm.Cond.constant "SlopeJudgeModel" (321 : Nat) (1013904223 : Int32)) ∈ sj_kw := sj_k7 112 rfl rfl
theorem kw_1547 : (Jvm.Cond.methodLink "SlopeJudgeModel" (322 : Nat) ({ cls := "SlopeJudgeModel", name := "draw", desc := "(I)I" } : Jvm.MethodName)) ∈ sj_kw := sj_k7 107 rfl rfl
theorem kw_1550 : (Jvm.Cond.code ({ cls := "SlopeJudgeModel", name := "draw", desc := "(I)I" } : Jvm.MethodName) prog_11_method_82_code (2 : Nat) (Option.some Jvm.ClassFile.FieldType.int)) ∈ sj_kw := sj_k7 110 rfl rfl
theorem ks_128 : (Cond.selects "SlopeJudgeModel" ({ cls := "SlopeJudgeModel", name := "draw", desc := "(I)I" } : MethodName) ({ cls := "SlopeJudgeModel", name := "draw", desc := "(I)I" } : MethodName)) ∈ sj_kw := sj_ks 128 rfl rfl
theorem kw_1549 : (Jvm.Cond.instanceMethod ({ cls := "SlopeJudgeModel", name := "draw", desc := "(I)I" } : Jvm.MethodName)) ∈ sj_kw := sj_k7 109 rfl rfl
theorem kw_1487 : (Jvm.Cond.methodLink "SlopeJudgeModel" (304 : Nat) ({ cls := "SlopeJudgeModel", name := "comesBack", desc := "()V" } : Jvm.MethodName)) ∈ sj_kw := sj_k7 47 rfl rfl
theorem kw_1490 : (Jvm.Cond.code ({ cls := "SlopeJudgeModel", name := "comesBack", desc := "()V" } : Jvm.MethodName) prog_11_method_67_code (2 : Nat) (Option.none : Option Jvm.ClassFile.FieldType)) ∈ sj_kw := sj_k7 50 rfl rfl
theorem ks_123 : (Cond.selects "SlopeJudgeModel" ({ cls := "SlopeJudgeModel", name := "comesBack", desc := "()V" } : MethodName) ({ cls := "SlopeJudgeModel", name := "comesBack", desc := "()V" } : MethodName)) ∈ sj_kw := sj_ks 123 rfl rfl
theorem kw_1489 : (Jvm.Cond.instanceMethod ({ cls := "SlopeJudgeModel", name := "comesBack", desc := "()V" } : Jvm.MethodName)) ∈ sj_kw := sj_k7 49 rfl rfl
theorem kw_1223 : (Jvm.Cond.constantLong "SlopeJudgeModel" (66 : Nat) (40 : Int64)) ∈ sj_kw := sj_k6 23 rfl rfl
theorem kw_1401 : (Jvm.Cond.constantLong "SlopeJudgeModel" (267 : Nat) (50 : Int64)) ∈ sj_kw := sj_k6 201 rfl rfl
theorem kw_1445 : (Jvm.Cond.methodLink "SlopeJudgeModel" (287 : Nat) ({ cls := "SlopeJudgeModel", name := "isK", desc := "(I)Z" } : Jvm.MethodName)) ∈ sj_kw := sj_k7 5 rfl rfl
theorem kw_1447 : (Jvm.Cond.code ({ cls := "SlopeJudgeModel", name := "isK", desc := "(I)Z" } : Jvm.MethodName) prog_11_method_57_code (1 : Nat) (Option.some Jvm.ClassFile.FieldType.boolean)) ∈ sj_kw := sj_k7 7 rfl rfl
theorem kw_1446 : (Jvm.Cond.static ({ cls := "SlopeJudgeModel", name := "isK", desc := "(I)Z" } : Jvm.MethodName)) ∈ sj_kw := sj_k7 6 rfl rfl
theorem kw_1483 : (Jvm.Cond.methodLink "SlopeJudgeModel" (301 : Nat) ({ cls := "SlopeJudgeModel", name := "laysAside", desc := "()V" } : Jvm.MethodName)) ∈ sj_kw := sj_k7 43 rfl rfl
theorem kw_1486 : (Jvm.Cond.code ({ cls := "SlopeJudgeModel", name := "laysAside", desc := "()V" } : Jvm.MethodName) prog_11_method_66_code (2 : Nat) (Option.none : Option Jvm.ClassFile.FieldType)) ∈ sj_kw := sj_k7 46 rfl rfl
theorem ks_122 : (Cond.selects "SlopeJudgeModel" ({ cls := "SlopeJudgeModel", name := "laysAside", desc := "()V" } : MethodName) ({ cls := "SlopeJudgeModel", name := "laysAside", desc := "()V" } : MethodName)) ∈ sj_kw := sj_ks 122 rfl rfl
theorem kw_1485 : (Jvm.Cond.instanceMethod ({ cls := "SlopeJudgeModel", name := "laysAside", desc := "()V" } : Jvm.MethodName)) ∈ sj_kw := sj_k7 45 rfl rfl
theorem kw_1286 : (Jvm.Cond.constantLong "SlopeJudgeModel" (186 : Nat) (-50 : Int64)) ∈ sj_kw := sj_k6 86 rfl rfl
theorem kw_1287 : (Jvm.Cond.constantLong "SlopeJudgeModel" (188 : Nat) (450 : Int64)) ∈ sj_kw := sj_k6 87 rfl rfl
theorem kw_1241 : (Jvm.Cond.constantLong "SlopeJudgeModel" (80 : Nat) (500 : Int64)) ∈ sj_kw := sj_k6 41 rfl rfl
theorem kw_1296 : (Jvm.Cond.methodLink "SlopeJudgeModel" (190 : Nat) ({ cls := "SlopeJudgeModel", name := "root", desc := "(I)I" } : Jvm.MethodName)) ∈ sj_kw := sj_k6 96 rfl rfl
theorem kw_1298 : (Jvm.Cond.code ({ cls := "SlopeJudgeModel", name := "root", desc := "(I)I" } : Jvm.MethodName) prog_11_method_34_code (2 : Nat) (Option.some Jvm.ClassFile.FieldType.int)) ∈ sj_kw := sj_k6 98 rfl rfl
theorem kw_1297 : (Jvm.Cond.static ({ cls := "SlopeJudgeModel", name := "root", desc := "(I)I" } : Jvm.MethodName)) ∈ sj_kw := sj_k6 97 rfl rfl
theorem kw_1292 : (Jvm.Cond.methodLink "SlopeJudgeModel" (193 : Nat) ({ cls := "SlopeJudgeModel", name := "isBelow", desc := "(IIII)Z" } : Jvm.MethodName)) ∈ sj_kw := sj_k6 92 rfl rfl
theorem kw_1295 : (Jvm.Cond.code ({ cls := "SlopeJudgeModel", name := "isBelow", desc := "(IIII)Z" } : Jvm.MethodName) prog_11_method_36_code (7 : Nat) (Option.some Jvm.ClassFile.FieldType.boolean)) ∈ sj_kw := sj_k6 95 rfl rfl
theorem ks_96 : (Cond.selects "SlopeJudgeModel" ({ cls := "SlopeJudgeModel", name := "isBelow", desc := "(IIII)Z" } : MethodName) ({ cls := "SlopeJudgeModel", name := "isBelow", desc := "(IIII)Z" } : MethodName)) ∈ sj_kw := sj_ks 96 rfl rfl
theorem kw_1294 : (Jvm.Cond.instanceMethod ({ cls := "SlopeJudgeModel", name := "isBelow", desc := "(IIII)Z" } : Jvm.MethodName)) ∈ sj_kw := sj_k6 94 rfl rfl
theorem kw_1283 : (Jvm.Cond.methodLink "SlopeJudgeModel" (197 : Nat) ({ cls := "SlopeJudgeModel", name := "isCircle", desc := "(III)Z" } : Jvm.MethodName)) ∈ sj_kw := sj_k6 83 rfl rfl
theorem kw_1285 : (Jvm.Cond.code ({ cls := "SlopeJudgeModel", name := "isCircle", desc := "(III)Z" } : Jvm.MethodName) prog_11_method_35_code (3 : Nat) (Option.some Jvm.ClassFile.FieldType.boolean)) ∈ sj_kw := sj_k6 85 rfl rfl
theorem kw_1284 : (Jvm.Cond.static ({ cls := "SlopeJudgeModel", name := "isCircle", desc := "(III)Z" } : Jvm.MethodName)) ∈ sj_kw := sj_k6 84 rfl rfl
theorem kw_1288 : (Jvm.Cond.methodLink "SlopeJudgeModel" (201 : Nat) ({ cls := "SlopeJudgeModel", name := "cuts", desc := "(IIIZ)Z" } : Jvm.MethodName)) ∈ sj_kw := sj_k6 88 rfl rfl
theorem kw_1291 : (Jvm.Cond.code ({ cls := "SlopeJudgeModel", name := "cuts", desc := "(IIIZ)Z" } : Jvm.MethodName) prog_11_method_37_code (7 : Nat) (Option.some Jvm.ClassFile.FieldType.boolean)) ∈ sj_kw := sj_k6 91 rfl rfl
theorem ks_95 : (Cond.selects "SlopeJudgeModel" ({ cls := "SlopeJudgeModel", name := "cuts", desc := "(IIIZ)Z" } : MethodName) ({ cls := "SlopeJudgeModel", name := "cuts", desc := "(IIIZ)Z" } : MethodName)) ∈ sj_kw := sj_ks 95 rfl rfl
theorem kw_1290 : (Jvm.Cond.instanceMethod ({ cls := "SlopeJudgeModel", name := "cuts", desc := "(IIIZ)Z" } : Jvm.MethodName)) ∈ sj_kw := sj_k6 90 rfl rfl
theorem kw_1310 : (Jvm.Cond.methodLink "SlopeJudgeModel" (212 : Nat) ({ cls := "SlopeJudgeModel", name := "factorBy", desc := "(IIIZ)I" } : Jvm.MethodName)) ∈ sj_kw := sj_k6 110 rfl rfl
theorem kw_1313 : (Jvm.Cond.code ({ cls := "SlopeJudgeModel", name := "factorBy", desc := "(IIIZ)I" } : Jvm.MethodName) prog_11_method_39_code (5 : Nat) (Option.some Jvm.ClassFile.FieldType.int)) ∈ sj_kw := sj_k6 113 rfl rfl
theorem ks_98 : (Cond.selects "SlopeJudgeModel" ({ cls := "SlopeJudgeModel", name := "factorBy", desc := "(IIIZ)I" } : MethodName) ({ cls := "SlopeJudgeModel", name := "factorBy", desc := "(IIIZ)I" } : MethodName)) ∈ sj_kw := sj_ks 98 rfl rfl
theorem kw_1312 : (Jvm.Cond.instanceMethod ({ cls := "SlopeJudgeModel", name := "factorBy", desc := "(IIIZ)I" } : Jvm.MethodName)) ∈ sj_kw := sj_k6 112 rfl rfl
theorem kw_1386 : (Jvm.Cond.constantLong "SlopeJudgeModel" (241 : Nat) (64 : Int64)) ∈ sj_kw := sj_k6 186 rfl rfl
theorem kw_1127 : (Jvm.Cond.fieldLink "SlopeJudgeModel" (231 : Nat) "SlopeJudgeModel" "hand" "I") ∈ sj_kw := sj_k5 167 rfl rfl
theorem kw_1124 : (Jvm.Cond.fieldLink "SlopeJudgeModel" (222 : Nat) "SlopeJudgeModel" "handX" "I") ∈ sj_kw := sj_k5 164 rfl rfl
theorem kw_1125 : (Jvm.Cond.fieldLink "SlopeJudgeModel" (225 : Nat) "SlopeJudgeModel" "handY" "I") ∈ sj_kw := sj_k5 165 rfl rfl
theorem kw_1126 : (Jvm.Cond.fieldLink "SlopeJudgeModel" (228 : Nat) "SlopeJudgeModel" "handR" "I") ∈ sj_kw := sj_k5 166 rfl rfl
theorem kw_1128 : (Jvm.Cond.fieldLink "SlopeJudgeModel" (234 : Nat) "SlopeJudgeModel" "rounds" "I") ∈ sj_kw := sj_k5 168 rfl rfl
theorem kw_1391 : (Jvm.Cond.methodLink "SlopeJudgeModel" (237 : Nat) ({ cls := "SlopeJudgeModel", name := "isBette\x72", desc := "(IZ)Z" } : Jvm.MethodName)) ∈ sj_kw := sj_k6 191 rfl rfl
theorem kw_1394 : (Jvm.Cond.code ({ cls := "SlopeJudgeModel", name := "isBette\x72", desc := "(IZ)Z" } : Jvm.MethodName) prog_11_method_44_code (12 : Nat) (Option.some Jvm.ClassFile.FieldType.boolean)) ∈ sj_kw := sj_k6 194 rfl rfl
theorem ks_112 : (Cond.selects "SlopeJudgeModel" ({ cls := "SlopeJudgeModel", name := "isBette\x72", desc := "(IZ)Z" } : MethodName) ({ cls := "SlopeJudgeModel", name := "isBette\x72", desc := "(IZ)Z" } : MethodName)) ∈ sj_kw := sj_ks 112 rfl rfl
theorem kw_1393 : (Jvm.Cond.instanceMethod ({ cls := "SlopeJudgeModel", name := "isBette\x72", desc := "(IZ)Z" } : Jvm.MethodName)) ∈ sj_kw := sj_k6 193 rfl rfl
theorem kw_1387 : (Jvm.Cond.methodLink "SlopeJudgeModel" (243 : Nat) ({ cls := "SlopeJudgeModel", name := "searches", desc := "(IIIIZ)I" } : Jvm.MethodName)) ∈ sj_kw := sj_k6 187 rfl rfl
theorem kw_1390 : (Jvm.Cond.code ({ cls := "SlopeJudgeModel", name := "searches", desc := "(IIIIZ)I" } : Jvm.MethodName) prog_11_method_45_code (7 : Nat) (Option.some Jvm.ClassFile.FieldType.int)) ∈ sj_kw := sj_k6 190 rfl rfl
theorem ks_111 : (Cond.selects "SlopeJudgeModel" ({ cls := "SlopeJudgeModel", name := "searches", desc := "(IIIIZ)I" } : MethodName) ({ cls := "SlopeJudgeModel", name := "searches", desc := "(IIIIZ)I" } : MethodName)) ∈ sj_kw := sj_ks 111 rfl rfl
theorem kw_1389 : (Jvm.Cond.instanceMethod ({ cls := "SlopeJudgeModel", name := "searches", desc := "(IIIIZ)I" } : Jvm.MethodName)) ∈ sj_kw := sj_k6 189 rfl rfl
theorem kw_1236 : (Jvm.Cond.methodLink "SlopeJudgeModel" (74 : Nat) ({ cls := "SlopeJudgeModel", name := "isColumn", desc := "(I)Z" } : Jvm.MethodName)) ∈ sj_kw := sj_k6 36 rfl rfl
theorem kw_1239 : (Jvm.Cond.code ({ cls := "SlopeJudgeModel", name := "isColumn", desc := "(I)Z" } : Jvm.MethodName) prog_11_method_6_code (2 : Nat) (Option.some Jvm.ClassFile.FieldType.boolean)) ∈ sj_kw := sj_k6 39 rfl rfl
theorem ks_91 : (Cond.selects "SlopeJudgeModel" ({ cls := "SlopeJudgeModel", name := "isColumn", desc := "(I)Z" } : MethodName) ({ cls := "SlopeJudgeModel", name := "isColumn", desc := "(I)Z" } : MethodName)) ∈ sj_kw := sj_ks 91 rfl rfl
theorem kw_1238 : (Jvm.Cond.instanceMethod ({ cls := "SlopeJudgeModel", name := "isColumn", desc := "(I)Z" } : Jvm.MethodName)) ∈ sj_kw := sj_k6 38 rfl rfl
theorem kw_1379 : (Jvm.Cond.methodLink "SlopeJudgeModel" (216 : Nat) ({ cls := "SlopeJudgeModel", name := "downwards", desc := "(JJ)J" } : Jvm.MethodName)) ∈ sj_kw := sj_k6 179 rfl rfl
theorem kw_1381 : (Jvm.Cond.code ({ cls := "SlopeJudgeModel", name := "downwards", desc := "(JJ)J" } : Jvm.MethodName) prog_11_method_30_code (4 : Nat) (Option.some Jvm.ClassFile.FieldType.long)) ∈ sj_kw := sj_k6 181 rfl rfl
theorem kw_1380 : (Jvm.Cond.static ({ cls := "SlopeJudgeModel", name := "downwards", desc := "(JJ)J" } : Jvm.MethodName)) ∈ sj_kw := sj_k6 180 rfl rfl
theorem kw_1470 : (Jvm.Cond.methodLink "SlopeJudgeModel" (295 : Nat) ({ cls := "SlopeJudgeModel", name := "thrustOf", desc := "(II)J" } : Jvm.MethodName)) ∈ sj_kw := sj_k7 30 rfl rfl
theorem kw_1473 : (Jvm.Cond.code ({ cls := "SlopeJudgeModel", name := "thrustOf", desc := "(II)J" } : Jvm.MethodName) prog_11_method_63_code (6 : Nat) (Option.some Jvm.ClassFile.FieldType.long)) ∈ sj_kw := sj_k7 33 rfl rfl
theorem ks_121 : (Cond.selects "SlopeJudgeModel" ({ cls := "SlopeJudgeModel", name := "thrustOf", desc := "(II)J" } : MethodName) ({ cls := "SlopeJudgeModel", name := "thrustOf", desc := "(II)J" } : MethodName)) ∈ sj_kw := sj_ks 121 rfl rfl
theorem kw_1472 : (Jvm.Cond.instanceMethod ({ cls := "SlopeJudgeModel", name := "thrustOf", desc := "(II)J" } : Jvm.MethodName)) ∈ sj_kw := sj_k7 32 rfl rfl
theorem kw_1466 : (Jvm.Cond.methodLink "SlopeJudgeModel" (292 : Nat) ({ cls := "SlopeJudgeModel", name := "hasFast", desc := "(II)Z" } : Jvm.MethodName)) ∈ sj_kw := sj_k7 26 rfl rfl
theorem kw_1469 : (Jvm.Cond.code ({ cls := "SlopeJudgeModel", name := "hasFast", desc := "(II)Z" } : Jvm.MethodName) prog_11_method_62_code (4 : Nat) (Option.some Jvm.ClassFile.FieldType.boolean)) ∈ sj_kw := sj_k7 29 rfl rfl
theorem ks_120 : (Cond.selects "SlopeJudgeModel" ({ cls := "SlopeJudgeModel", name := "hasFast", desc := "(II)Z" } : MethodName) ({ cls := "SlopeJudgeModel", name := "hasFast", desc := "(II)Z" } : MethodName)) ∈ sj_kw := sj_ks 120 rfl rfl
theorem kw_1468 : (Jvm.Cond.instanceMethod ({ cls := "SlopeJudgeModel", name := "hasFast", desc := "(II)Z" } : Jvm.MethodName)) ∈ sj_kw := sj_k7 28 rfl rfl
theorem kw_1432 : (Jvm.Cond.methodLink "SlopeJudgeModel" (280 : Nat) ({ cls := "SlopeJudgeModel", name := "isSlice", desc := "(I)Z" } : Jvm.MethodName)) ∈ sj_kw := sj_k6 232 rfl rfl
theorem kw_1435 : (Jvm.Cond.code ({ cls := "SlopeJudgeModel", name := "isSlice", desc := "(I)Z" } : Jvm.MethodName) prog_11_method_55_code (2 : Nat) (Option.some Jvm.ClassFile.FieldType.boolean)) ∈ sj_kw := sj_k6 235 rfl rfl
theorem ks_118 : (Cond.selects "SlopeJudgeModel" ({ cls := "SlopeJudgeModel", name := "isSlice", desc := "(I)Z" } : MethodName) ({ cls := "SlopeJudgeModel", name := "isSlice", desc := "(I)Z" } : MethodName)) ∈ sj_kw := sj_ks 118 rfl rfl
theorem kw_1434 : (Jvm.Cond.instanceMethod ({ cls := "SlopeJudgeModel", name := "isSlice", desc := "(I)Z" } : Jvm.MethodName)) ∈ sj_kw := sj_k6 234 rfl rfl
theorem kw_1474 : (Jvm.Cond.constantLong "SlopeJudgeModel" (299 : Nat) (-10000000000000000 : Int64)) ∈ sj_kw := sj_k7 34 rfl rfl
theorem kw_1507 : (Jvm.Cond.methodLink "SlopeJudgeModel" (307 : Nat) ({ cls := "SlopeJudgeModel", name := "bodyOf", desc := "()I" } : Jvm.MethodName)) ∈ sj_kw := sj_k7 67 rfl rfl
theorem kw_1510 : (Jvm.Cond.code ({ cls := "SlopeJudgeModel", name := "bodyOf", desc := "()I" } : Jvm.MethodName) prog_11_method_73_code (3 : Nat) (Option.some Jvm.ClassFile.FieldType.int)) ∈ sj_kw := sj_k7 70 rfl rfl
theorem ks_124 : (Cond.selects "SlopeJudgeModel" ({ cls := "SlopeJudgeModel", name := "bodyOf", desc := "()I" } : MethodName) ({ cls := "SlopeJudgeModel", name := "bodyOf", desc := "()I" } : MethodName)) ∈ sj_kw := sj_ks 124 rfl rfl
theorem kw_1509 : (Jvm.Cond.instanceMethod ({ cls := "SlopeJudgeModel", name := "bodyOf", desc := "()I" } : Jvm.MethodName)) ∈ sj_kw := sj_k7 69 rfl rfl
theorem kw_1511 : (Jvm.Cond.methodLink "SlopeJudgeModel" (310 : Nat) ({ cls := "SlopeJudgeModel", name := "deepest", desc := "()I" } : Jvm.MethodName)) ∈ sj_kw := sj_k7 71 rfl rfl
theorem kw_1514 : (Jvm.Cond.code ({ cls := "SlopeJudgeModel", name := "deepest", desc := "()I" } : Jvm.MethodName) prog_11_method_72_code (3 : Nat) (Option.some Jvm.ClassFile.FieldType.int)) ∈ sj_kw := sj_k7 74 rfl rfl
theorem ks_125 : (Cond.selects "SlopeJudgeModel" ({ cls := "SlopeJudgeModel", name := "deepest", desc := "()I" } : MethodName) ({ cls := "SlopeJudgeModel", name := "deepest", desc := "()I" } : MethodName)) ∈ sj_kw := sj_ks 125 rfl rfl
theorem kw_1513 : (Jvm.Cond.instanceMethod ({ cls := "SlopeJudgeModel", name := "deepest", desc := "()I" } : Jvm.MethodName)) ∈ sj_kw := sj_k7 73 rfl rfl
theorem kw_1515 : (Jvm.Cond.methodLink "SlopeJudgeModel" (313 : Nat) ({ cls := "SlopeJudgeModel", name := "leastBase", desc := "()I" } : Jvm.MethodName)) ∈ sj_kw := sj_k7 75 rfl rfl
theorem kw_1518 : (Jvm.Cond.code ({ cls := "SlopeJudgeModel", name := "leastBase", desc := "()I" } : Jvm.MethodName) prog_11_method_74_code (3 : Nat) (Option.some Jvm.ClassFile.FieldType.int)) ∈ sj_kw := sj_k7 78 rfl rfl
theorem ks_126 : (Cond.selects "SlopeJudgeModel" ({ cls := "SlopeJudgeModel", name := "leastBase", desc := "()I" } : MethodName) ({ cls := "SlopeJudgeModel", name := "leastBase", desc := "()I" } : MethodName)) ∈ sj_kw := sj_ks 126 rfl rfl
theorem kw_1517 : (Jvm.Cond.instanceMethod ({ cls := "SlopeJudgeModel", name := "leastBase", desc := "()I" } : Jvm.MethodName)) ∈ sj_kw := sj_k7 77 rfl rfl
theorem kw_1519 : (Jvm.Cond.methodLink "SlopeJudgeModel" (316 : Nat) ({ cls := "SlopeJudgeModel", name := "slicesOf", desc := "(Z)I" } : Jvm.MethodName)) ∈ sj_kw := sj_k7 79 rfl rfl
theorem kw_1522 : (Jvm.Cond.code ({ cls := "SlopeJudgeModel", name := "slicesOf", desc := "(Z)I" } : Jvm.MethodName) prog_11_method_75_code (4 : Nat) (Option.some Jvm.ClassFile.FieldType.int)) ∈ sj_kw := sj_k7 82 rfl rfl
theorem ks_127 : (Cond.selects "SlopeJudgeModel" ({ cls := "SlopeJudgeModel", name := "slicesOf", desc := "(Z)I" } : MethodName) ({ cls := "SlopeJudgeModel", name := "slicesOf", desc := "(Z)I" } : MethodName)) ∈ sj_kw := sj_ks 127 rfl rfl
theorem kw_1521 : (Jvm.Cond.instanceMethod ({ cls := "SlopeJudgeModel", name := "slicesOf", desc := "(Z)I" } : Jvm.MethodName)) ∈ sj_kw := sj_k7 81 rfl rfl
theorem kw_1255 : (Jvm.Cond.methodLink "SlopeJudgeModel" (88 : Nat) ({ cls := "SlopeJudgeModel", name := "turnsRound", desc := "(I)V" } : Jvm.MethodName)) ∈ sj_kw := sj_k6 55 rfl rfl
theorem kw_1258 : (Jvm.Cond.code ({ cls := "SlopeJudgeModel", name := "turnsRound", desc := "(I)V" } : Jvm.MethodName) prog_11_method_14_code (5 : Nat) (Option.none : Option Jvm.ClassFile.FieldType)) ∈ sj_kw := sj_k6 58 rfl rfl
theorem ks_93 : (Cond.selects "SlopeJudgeModel" ({ cls := "SlopeJudgeModel", name := "turnsRound", desc := "(I)V" } : MethodName) ({ cls := "SlopeJudgeModel", name := "turnsRound", desc := "(I)V" } : MethodName)) ∈ sj_kw := sj_ks 93 rfl rfl
theorem kw_1257 : (Jvm.Cond.instanceMethod ({ cls := "SlopeJudgeModel", name := "turnsRound", desc := "(I)V" } : Jvm.MethodName)) ∈ sj_kw := sj_k6 57 rfl rfl
theorem kw_1228 : (Jvm.Cond.methodLink "SlopeJudgeModel" (70 : Nat) ({ cls := "SlopeJudgeModel", name := "remembers", desc := "([I)V" } : Jvm.MethodName)) ∈ sj_kw := sj_k6 28 rfl rfl
theorem kw_1231 : (Jvm.Cond.code ({ cls := "SlopeJudgeModel", name := "remembers", desc := "([I)V" } : Jvm.MethodName) prog_11_method_8_code (3 : Nat) (Option.none : Option Jvm.ClassFile.FieldType)) ∈ sj_kw := sj_k6 31 rfl rfl
theorem ks_90 : (Cond.selects "SlopeJudgeModel" ({ cls := "SlopeJudgeModel", name := "remembers", desc := "([I)V" } : MethodName) ({ cls := "SlopeJudgeModel", name := "remembers", desc := "([I)V" } : MethodName)) ∈ sj_kw := sj_ks 90 rfl rfl
theorem kw_1230 : (Jvm.Cond.instanceMethod ({ cls := "SlopeJudgeModel", name := "remembers", desc := "([I)V" } : Jvm.MethodName)) ∈ sj_kw := sj_k6 30 rfl rfl
theorem kw_1242 : (Jvm.Cond.constantLong "SlopeJudgeModel" (82 : Nat) (100 : Int64)) ∈ sj_kw := sj_k6 42 rfl rfl
theorem kw_1247 : (Jvm.Cond.methodLink "SlopeJudgeModel" (84 : Nat) ({ cls := "SlopeJudgeModel", name := "canDig", desc := "(II)Z" } : Jvm.MethodName)) ∈ sj_kw := sj_k6 47 rfl rfl
theorem kw_1250 : (Jvm.Cond.code ({ cls := "SlopeJudgeModel", name := "canDig", desc := "(II)Z" } : Jvm.MethodName) prog_11_method_12_code (3 : Nat) (Option.some Jvm.ClassFile.FieldType.boolean)) ∈ sj_kw := sj_k6 50 rfl rfl
theorem ks_92 : (Cond.selects "SlopeJudgeModel" ({ cls := "SlopeJudgeModel", name := "canDig", desc := "(II)Z" } : MethodName) ({ cls := "SlopeJudgeModel", name := "canDig", desc := "(II)Z" } : MethodName)) ∈ sj_kw := sj_ks 92 rfl rfl
theorem kw_1249 : (Jvm.Cond.instanceMethod ({ cls := "SlopeJudgeModel", name := "canDig", desc := "(II)Z" } : Jvm.MethodName)) ∈ sj_kw := sj_k6 49 rfl rfl
theorem kw_1410 : (Jvm.Cond.constantLong "SlopeJudgeModel" (249 : Nat) (4000000000000000000 : Int64)) ∈ sj_kw := sj_k6 210 rfl rfl
theorem kw_1419 : (Jvm.Cond.constantLong "SlopeJudgeModel" (247 : Nat) (10000000000000 : Int64)) ∈ sj_kw := sj_k6 219 rfl rfl
theorem kw_1415 : (Jvm.Cond.methodLink "SlopeJudgeModel" (255 : Nat) ({ cls := "SlopeJudgeModel", name := "adds", desc := "(IIIZI)J" } : Jvm.MethodName)) ∈ sj_kw := sj_k6 215 rfl rfl
theorem kw_1418 : (Jvm.Cond.code ({ cls := "SlopeJudgeModel", name := "adds", desc := "(IIIZI)J" } : Jvm.MethodName) prog_11_method_48_code (8 : Nat) (Option.some Jvm.ClassFile.FieldType.long)) ∈ sj_kw := sj_k6 218 rfl rfl
theorem ks_116 : (Cond.selects "SlopeJudgeModel" ({ cls := "SlopeJudgeModel", name := "adds", desc := "(IIIZI)J" } : MethodName) ({ cls := "SlopeJudgeModel", name := "adds", desc := "(IIIZI)J" } : MethodName)) ∈ sj_kw := sj_ks 116 rfl rfl
theorem kw_1417 : (Jvm.Cond.instanceMethod ({ cls := "SlopeJudgeModel", name := "adds", desc := "(IIIZI)J" } : Jvm.MethodName)) ∈ sj_kw := sj_k6 217 rfl rfl
theorem kw_1411 : (Jvm.Cond.methodLink "SlopeJudgeModel" (251 : Nat) ({ cls := "SlopeJudgeModel", name := "comes", desc := "(IIIZI)V" } : Jvm.MethodName)) ∈ sj_kw := sj_k6 211 rfl rfl
theorem kw_1414 : (Jvm.Cond.code ({ cls := "SlopeJudgeModel", name := "comes", desc := "(IIIZI)V" } : Jvm.MethodName) prog_11_method_50_code (12 : Nat) (Option.none : Option Jvm.ClassFile.FieldType)) ∈ sj_kw := sj_k6 214 rfl rfl
theorem ks_115 : (Cond.selects "SlopeJudgeModel" ({ cls := "SlopeJudgeModel", name := "comes", desc := "(IIIZI)V" } : MethodName) ({ cls := "SlopeJudgeModel", name := "comes", desc := "(IIIZI)V" } : MethodName)) ∈ sj_kw := sj_ks 115 rfl rfl
theorem kw_1413 : (Jvm.Cond.instanceMethod ({ cls := "SlopeJudgeModel", name := "comes", desc := "(IIIZI)V" } : Jvm.MethodName)) ∈ sj_kw := sj_k6 213 rfl rfl
theorem kw_1406 : (Jvm.Cond.methodLink "SlopeJudgeModel" (259 : Nat) ({ cls := "SlopeJudgeModel", name := "goes", desc := "(IZIZI)J" } : Jvm.MethodName)) ∈ sj_kw := sj_k6 206 rfl rfl
theorem kw_1409 : (Jvm.Cond.code ({ cls := "SlopeJudgeModel", name := "goes", desc := "(IZIZI)J" } : Jvm.MethodName) prog_11_method_49_code (10 : Nat) (Option.some Jvm.ClassFile.FieldType.long)) ∈ sj_kw := sj_k6 209 rfl rfl
theorem ks_114 : (Cond.selects "SlopeJudgeModel" ({ cls := "SlopeJudgeModel", name := "goes", desc := "(IZIZI)J" } : MethodName) ({ cls := "SlopeJudgeModel", name := "goes", desc := "(IZIZI)J" } : MethodName)) ∈ sj_kw := sj_ks 114 rfl rfl
theorem kw_1408 : (Jvm.Cond.instanceMethod ({ cls := "SlopeJudgeModel", name := "goes", desc := "(IZIZI)J" } : Jvm.MethodName)) ∈ sj_kw := sj_k6 208 rfl rfl
theorem kw_1402 : (Jvm.Cond.methodLink "SlopeJudgeModel" (269 : Nat) ({ cls := "SlopeJudgeModel", name := "tableK", desc := "(IZ)I" } : Jvm.MethodName)) ∈ sj_kw := sj_k6 202 rfl rfl
theorem kw_1405 : (Jvm.Cond.code ({ cls := "SlopeJudgeModel", name := "tableK", desc := "(IZ)I" } : Jvm.MethodName) prog_11_method_51_code (6 : Nat) (Option.some Jvm.ClassFile.FieldType.int)) ∈ sj_kw := sj_k6 205 rfl rfl
theorem ks_113 : (Cond.selects "SlopeJudgeModel" ({ cls := "SlopeJudgeModel", name := "tableK", desc := "(IZ)I" } : MethodName) ({ cls := "SlopeJudgeModel", name := "tableK", desc := "(IZ)I" } : MethodName)) ∈ sj_kw := sj_ks 113 rfl rfl
theorem kw_1404 : (Jvm.Cond.instanceMethod ({ cls := "SlopeJudgeModel", name := "tableK", desc := "(IZ)I" } : Jvm.MethodName)) ∈ sj_kw := sj_k6 204 rfl rfl
theorem kw_1420 : (Jvm.Cond.methodLink "SlopeJudgeModel" (273 : Nat) ({ cls := "SlopeJudgeModel", name := "findsWorst", desc := "(IZI)Z" } : Jvm.MethodName)) ∈ sj_kw := sj_k6 220 rfl rfl
theorem kw_1423 : (Jvm.Cond.code ({ cls := "SlopeJudgeModel", name := "findsWorst", desc := "(IZI)Z" } : Jvm.MethodName) prog_11_method_52_code (9 : Nat) (Option.some Jvm.ClassFile.FieldType.boolean)) ∈ sj_kw := sj_k6 223 rfl rfl
theorem ks_117 : (Cond.selects "SlopeJudgeModel" ({ cls := "SlopeJudgeModel", name := "findsWorst", desc := "(IZI)Z" } : MethodName) ({ cls := "SlopeJudgeModel", name := "findsWorst", desc := "(IZI)Z" } : MethodName)) ∈ sj_kw := sj_ks 117 rfl rfl
theorem kw_1422 : (Jvm.Cond.instanceMethod ({ cls := "SlopeJudgeModel", name := "findsWorst", desc := "(IZI)Z" } : Jvm.MethodName)) ∈ sj_kw := sj_k6 222 rfl rfl
theorem kw_1399 : (Jvm.Cond.constantLong "SlopeJudgeModel" (263 : Nat) (12 : Int64)) ∈ sj_kw := sj_k6 199 rfl rfl
theorem kw_1400 : (Jvm.Cond.constantLong "SlopeJudgeModel" (265 : Nat) (2 : Int64)) ∈ sj_kw := sj_k6 200 rfl rfl
theorem kw_1222 : (Jvm.Cond.constantLong "SlopeJudgeModel" (64 : Nat) (4 : Int64)) ∈ sj_kw := sj_k6 22 rfl rfl
theorem kw_1440 : (Jvm.Cond.constantLong "SlopeJudgeModel" (283 : Nat) (-10000000000000 : Int64)) ∈ sj_kw := sj_k7 0 rfl rfl
theorem kw_1449 : (Jvm.Cond.constantLong "SlopeJudgeModel" (290 : Nat) (-10 : Int64)) ∈ sj_kw := sj_k7 9 rfl rfl
theorem kw_1267 : (Jvm.Cond.constantLong "SlopeJudgeModel" (96 : Nat) (3 : Int64)) ∈ sj_kw := sj_k6 67 rfl rfl
theorem kw_1302 : (Jvm.Cond.methodLink "SlopeJudgeModel" (205 : Nat) ({ cls := "SlopeJudgeModel", name := "keepsSlip", desc := "()I" } : Jvm.MethodName)) ∈ sj_kw := sj_k6 102 rfl rfl
theorem kw_1305 : (Jvm.Cond.code ({ cls := "SlopeJudgeModel", name := "keepsSlip", desc := "()I" } : Jvm.MethodName) prog_11_method_25_code (2 : Nat) (Option.some Jvm.ClassFile.FieldType.int)) ∈ sj_kw := sj_k6 105 rfl rfl
theorem ks_97 : (Cond.selects "SlopeJudgeModel" ({ cls := "SlopeJudgeModel", name := "keepsSlip", desc := "()I" } : MethodName) ({ cls := "SlopeJudgeModel", name := "keepsSlip", desc := "()I" } : MethodName)) ∈ sj_kw := sj_ks 97 rfl rfl
theorem kw_1304 : (Jvm.Cond.instanceMethod ({ cls := "SlopeJudgeModel", name := "keepsSlip", desc := "()I" } : Jvm.MethodName)) ∈ sj_kw := sj_k6 104 rfl rfl
theorem kw_1375 : (Jvm.Cond.methodLink "SlopeJudgeModel" (219 : Nat) ({ cls := "SlopeJudgeModel", name := "pointsCan", desc := "()Z" } : Jvm.MethodName)) ∈ sj_kw := sj_k6 175 rfl rfl
theorem kw_1378 : (Jvm.Cond.code ({ cls := "SlopeJudgeModel", name := "pointsCan", desc := "()Z" } : Jvm.MethodName) prog_11_method_42_code (6 : Nat) (Option.some Jvm.ClassFile.FieldType.boolean)) ∈ sj_kw := sj_k6 178 rfl rfl
theorem ks_110 : (Cond.selects "SlopeJudgeModel" ({ cls := "SlopeJudgeModel", name := "pointsCan", desc := "()Z" } : MethodName) ({ cls := "SlopeJudgeModel", name := "pointsCan", desc := "()Z" } : MethodName)) ∈ sj_kw := sj_ks 110 rfl rfl
theorem kw_1377 : (Jvm.Cond.instanceMethod ({ cls := "SlopeJudgeModel", name := "pointsCan", desc := "()Z" } : Jvm.MethodName)) ∈ sj_kw := sj_k6 177 rfl rfl
theorem kw_1137 : (Jvm.Cond.fieldLink "SlopeJudgeModel" (343 : Nat) "SlopeJudgeModel" "faultKind" "I") ∈ sj_kw := sj_k5 177 rfl rfl
theorem kw_1136 : (Jvm.Cond.fieldLink "SlopeJudgeModel" (349 : Nat) "SlopeJudgeModel" "at" "I") ∈ sj_kw := sj_k5 176 rfl rfl
theorem kw_1606 : (Jvm.Cond.constantLong "SlopeJudgeModel" (372 : Nat) (97 : Int64)) ∈ sj_kw := sj_k7 166 rfl rfl
theorem kw_1607 : (Jvm.Cond.constantLong "SlopeJudgeModel" (374 : Nat) (122 : Int64)) ∈ sj_kw := sj_k7 167 rfl rfl
theorem kw_1602 : (Jvm.Cond.methodLink "SlopeJudgeModel" (376 : Nat) ({ cls := "SlopeJudgeModel", name := "wordEnd", desc := "()I" } : Jvm.MethodName)) ∈ sj_kw := sj_k7 162 rfl rfl
theorem kw_1605 : (Jvm.Cond.code ({ cls := "SlopeJudgeModel", name := "wordEnd", desc := "()I" } : Jvm.MethodName) prog_11_method_98_code (2 : Nat) (Option.some Jvm.ClassFile.FieldType.int)) ∈ sj_kw := sj_k7 165 rfl rfl
theorem ks_135 : (Cond.selects "SlopeJudgeModel" ({ cls := "SlopeJudgeModel", name := "wordEnd", desc := "()I" } : MethodName) ({ cls := "SlopeJudgeModel", name := "wordEnd", desc := "()I" } : MethodName)) ∈ sj_kw := sj_ks 135 rfl rfl
theorem kw_1604 : (Jvm.Cond.instanceMethod ({ cls := "SlopeJudgeModel", name := "wordEnd", desc := "()I" } : Jvm.MethodName)) ∈ sj_kw := sj_k7 164 rfl rfl
theorem kw_1139 : (Jvm.Cond.fieldLink "SlopeJudgeModel" (346 : Nat) "SlopeJudgeModel" "isWrong" "Z") ∈ sj_kw := sj_k5 179 rfl rfl
theorem kw_1594 : (Jvm.Cond.methodLink "SlopeJudgeModel" (352 : Nat) ({ cls := "SlopeJudgeModel", name := "blanks", desc := "()V" } : Jvm.MethodName)) ∈ sj_kw := sj_k7 154 rfl rfl
theorem kw_1597 : (Jvm.Cond.code ({ cls := "SlopeJudgeModel", name := "blanks", desc := "()V" } : Jvm.MethodName) prog_11_method_93_code (1 : Nat) (Option.none : Option Jvm.ClassFile.FieldType)) ∈ sj_kw := sj_k7 157 rfl rfl
theorem ks_133 : (Cond.selects "SlopeJudgeModel" ({ cls := "SlopeJudgeModel", name := "blanks", desc := "()V" } : MethodName) ({ cls := "SlopeJudgeModel", name := "blanks", desc := "()V" } : MethodName)) ∈ sj_kw := sj_ks 133 rfl rfl
theorem kw_1596 : (Jvm.Cond.instanceMethod ({ cls := "SlopeJudgeModel", name := "blanks", desc := "()V" } : Jvm.MethodName)) ∈ sj_kw := sj_k7 156 rfl rfl
theorem kw_1620 : (Jvm.Cond.constantLong "SlopeJudgeModel" (355 : Nat) (48 : Int64)) ∈ sj_kw := sj_k7 180 rfl rfl
theorem kw_1621 : (Jvm.Cond.constantLong "SlopeJudgeModel" (357 : Nat) (57 : Int64)) ∈ sj_kw := sj_k7 181 rfl rfl
theorem kw_1140 : (Jvm.Cond.fieldLink "SlopeJudgeModel" (368 : Nat) "SlopeJudgeModel" "numberAt" "I") ∈ sj_kw := sj_k5 180 rfl rfl
theorem kw_1608 : (Jvm.Cond.methodLink "SlopeJudgeModel" (362 : Nat) ({ cls := "SlopeJudgeModel", name := "wrong", desc := "(II)V" } : Jvm.MethodName)) ∈ sj_kw := sj_k7 168 rfl rfl
theorem kw_1611 : (Jvm.Cond.code ({ cls := "SlopeJudgeModel", name := "wrong", desc := "(II)V" } : Jvm.MethodName) prog_11_method_92_code (3 : Nat) (Option.none : Option Jvm.ClassFile.FieldType)) ∈ sj_kw := sj_k7 171 rfl rfl
theorem ks_136 : (Cond.selects "SlopeJudgeModel" ({ cls := "SlopeJudgeModel", name := "wrong", desc := "(II)V" } : MethodName) ({ cls := "SlopeJudgeModel", name := "wrong", desc := "(II)V" } : MethodName)) ∈ sj_kw := sj_ks 136 rfl rfl
theorem kw_1610 : (Jvm.Cond.instanceMethod ({ cls := "SlopeJudgeModel", name := "wrong", desc := "(II)V" } : Jvm.MethodName)) ∈ sj_kw := sj_k7 170 rfl rfl
theorem kw_1622 : (Jvm.Cond.constant "SlopeJudgeModel" (371 : Nat) (1000000 : Int32)) ∈ sj_kw := sj_k7 182 rfl rfl
theorem kw_1616 : (Jvm.Cond.methodLink "SlopeJudgeModel" (365 : Nat) ({ cls := "SlopeJudgeModel", name := "isDigitNext", desc := "()Z" } : Jvm.MethodName)) ∈ sj_kw := sj_k7 176 rfl rfl
theorem kw_1619 : (Jvm.Cond.code ({ cls := "SlopeJudgeModel", name := "isDigitNext", desc := "()Z" } : Jvm.MethodName) prog_11_method_95_code (1 : Nat) (Option.some Jvm.ClassFile.FieldType.boolean)) ∈ sj_kw := sj_k7 179 rfl rfl
theorem ks_138 : (Cond.selects "SlopeJudgeModel" ({ cls := "SlopeJudgeModel", name := "isDigitNext", desc := "()Z" } : MethodName) ({ cls := "SlopeJudgeModel", name := "isDigitNext", desc := "()Z" } : MethodName)) ∈ sj_kw := sj_ks 138 rfl rfl
theorem kw_1618 : (Jvm.Cond.instanceMethod ({ cls := "SlopeJudgeModel", name := "isDigitNext", desc := "()Z" } : Jvm.MethodName)) ∈ sj_kw := sj_k7 178 rfl rfl
theorem kw_1627 : (Jvm.Cond.methodLink "SlopeJudgeModel" (359 : Nat) ({ cls := "SlopeJudgeModel", name := "isNext", desc := "(I)Z" } : Jvm.MethodName)) ∈ sj_kw := sj_k7 187 rfl rfl
theorem kw_1630 : (Jvm.Cond.code ({ cls := "SlopeJudgeModel", name := "isNext", desc := "(I)Z" } : Jvm.MethodName) prog_11_method_94_code (2 : Nat) (Option.some Jvm.ClassFile.FieldType.boolean)) ∈ sj_kw := sj_k7 190 rfl rfl
theorem ks_140 : (Cond.selects "SlopeJudgeModel" ({ cls := "SlopeJudgeModel", name := "isNext", desc := "(I)Z" } : MethodName) ({ cls := "SlopeJudgeModel", name := "isNext", desc := "(I)Z" } : MethodName)) ∈ sj_kw := sj_ks 140 rfl rfl
theorem kw_1629 : (Jvm.Cond.instanceMethod ({ cls := "SlopeJudgeModel", name := "isNext", desc := "(I)Z" } : Jvm.MethodName)) ∈ sj_kw := sj_k7 189 rfl rfl
theorem kw_1598 : (Jvm.Cond.methodLink "SlopeJudgeModel" (379 : Nat) ({ cls := "SlopeJudgeModel", name := "spells", desc := "(IIIIIIII)Z" } : Jvm.MethodName)) ∈ sj_kw := sj_k7 158 rfl rfl
theorem kw_1601 : (Jvm.Cond.code ({ cls := "SlopeJudgeModel", name := "spells", desc := "(IIIIIIII)Z" } : Jvm.MethodName) prog_11_method_99_code (9 : Nat) (Option.some Jvm.ClassFile.FieldType.boolean)) ∈ sj_kw := sj_k7 161 rfl rfl
theorem ks_134 : (Cond.selects "SlopeJudgeModel" ({ cls := "SlopeJudgeModel", name := "spells", desc := "(IIIIIIII)Z" } : MethodName) ({ cls := "SlopeJudgeModel", name := "spells", desc := "(IIIIIIII)Z" } : MethodName)) ∈ sj_kw := sj_ks 134 rfl rfl
theorem kw_1600 : (Jvm.Cond.instanceMethod ({ cls := "SlopeJudgeModel", name := "spells", desc := "(IIIIIIII)Z" } : Jvm.MethodName)) ∈ sj_kw := sj_k7 160 rfl rfl
theorem kw_1612 : (Jvm.Cond.methodLink "SlopeJudgeModel" (383 : Nat) ({ cls := "SlopeJudgeModel", name := "numbe\x72", desc := "(II)I" } : Jvm.MethodName)) ∈ sj_kw := sj_k7 172 rfl rfl
theorem kw_1615 : (Jvm.Cond.code ({ cls := "SlopeJudgeModel", name := "numbe\x72", desc := "(II)I" } : Jvm.MethodName) prog_11_method_97_code (5 : Nat) (Option.some Jvm.ClassFile.FieldType.int)) ∈ sj_kw := sj_k7 175 rfl rfl
theorem ks_137 : (Cond.selects "SlopeJudgeModel" ({ cls := "SlopeJudgeModel", name := "numbe\x72", desc := "(II)I" } : MethodName) ({ cls := "SlopeJudgeModel", name := "numbe\x72", desc := "(II)I" } : MethodName)) ∈ sj_kw := sj_ks 137 rfl rfl
theorem kw_1614 : (Jvm.Cond.instanceMethod ({ cls := "SlopeJudgeModel", name := "numbe\x72", desc := "(II)I" } : Jvm.MethodName)) ∈ sj_kw := sj_k7 174 rfl rfl
theorem kw_1639 : (Jvm.Cond.methodLink "SlopeJudgeModel" (386 : Nat) ({ cls := "SlopeJudgeModel", name := "tells", desc := "(II)V" } : Jvm.MethodName)) ∈ sj_kw := sj_k7 199 rfl rfl
theorem kw_1642 : (Jvm.Cond.code ({ cls := "SlopeJudgeModel", name := "tells", desc := "(II)V" } : Jvm.MethodName) prog_11_method_101_code (3 : Nat) (Option.none : Option Jvm.ClassFile.FieldType)) ∈ sj_kw := sj_k7 202 rfl rfl
theorem ks_143 : (Cond.selects "SlopeJudgeModel" ({ cls := "SlopeJudgeModel", name := "tells", desc := "(II)V" } : MethodName) ({ cls := "SlopeJudgeModel", name := "tells", desc := "(II)V" } : MethodName)) ∈ sj_kw := sj_ks 143 rfl rfl
theorem kw_1641 : (Jvm.Cond.instanceMethod ({ cls := "SlopeJudgeModel", name := "tells", desc := "(II)V" } : Jvm.MethodName)) ∈ sj_kw := sj_k7 201 rfl rfl
theorem kw_1623 : (Jvm.Cond.methodLink "SlopeJudgeModel" (401 : Nat) ({ cls := "SlopeJudgeModel", name := "must", desc := "(I)V" } : Jvm.MethodName)) ∈ sj_kw := sj_k7 183 rfl rfl
theorem kw_1626 : (Jvm.Cond.code ({ cls := "SlopeJudgeModel", name := "must", desc := "(I)V" } : Jvm.MethodName) prog_11_method_96_code (2 : Nat) (Option.none : Option Jvm.ClassFile.FieldType)) ∈ sj_kw := sj_k7 186 rfl rfl
theorem ks_139 : (Cond.selects "SlopeJudgeModel" ({ cls := "SlopeJudgeModel", name := "must", desc := "(I)V" } : MethodName) ({ cls := "SlopeJudgeModel", name := "must", desc := "(I)V" } : MethodName)) ∈ sj_kw := sj_ks 139 rfl rfl
theorem kw_1625 : (Jvm.Cond.instanceMethod ({ cls := "SlopeJudgeModel", name := "must", desc := "(I)V" } : Jvm.MethodName)) ∈ sj_kw := sj_k7 185 rfl rfl
theorem kw_1643 : (Jvm.Cond.methodLink "SlopeJudgeModel" (392 : Nat) ({ cls := "SlopeJudgeModel", name := "runs", desc := "(II)V" } : Jvm.MethodName)) ∈ sj_kw := sj_k7 203 rfl rfl
theorem kw_1646 : (Jvm.Cond.code ({ cls := "SlopeJudgeModel", name := "runs", desc := "(II)V" } : Jvm.MethodName) prog_11_method_102_code (7 : Nat) (Option.none : Option Jvm.ClassFile.FieldType)) ∈ sj_kw := sj_k7 206 rfl rfl
theorem ks_144 : (Cond.selects "SlopeJudgeModel" ({ cls := "SlopeJudgeModel", name := "runs", desc := "(II)V" } : MethodName) ({ cls := "SlopeJudgeModel", name := "runs", desc := "(II)V" } : MethodName)) ∈ sj_kw := sj_ks 144 rfl rfl
theorem kw_1645 : (Jvm.Cond.instanceMethod ({ cls := "SlopeJudgeModel", name := "runs", desc := "(II)V" } : Jvm.MethodName)) ∈ sj_kw := sj_k7 205 rfl rfl
theorem kw_1647 : (Jvm.Cond.methodLink "SlopeJudgeModel" (395 : Nat) ({ cls := "SlopeJudgeModel", name := "soilLine", desc := "()V" } : Jvm.MethodName)) ∈ sj_kw := sj_k7 207 rfl rfl
theorem kw_1650 : (Jvm.Cond.code ({ cls := "SlopeJudgeModel", name := "soilLine", desc := "()V" } : Jvm.MethodName) prog_11_method_103_code (2 : Nat) (Option.none : Option Jvm.ClassFile.FieldType)) ∈ sj_kw := sj_k7 210 rfl rfl
theorem ks_145 : (Cond.selects "SlopeJudgeModel" ({ cls := "SlopeJudgeModel", name := "soilLine", desc := "()V" } : MethodName) ({ cls := "SlopeJudgeModel", name := "soilLine", desc := "()V" } : MethodName)) ∈ sj_kw := sj_ks 145 rfl rfl
theorem kw_1649 : (Jvm.Cond.instanceMethod ({ cls := "SlopeJudgeModel", name := "soilLine", desc := "()V" } : Jvm.MethodName)) ∈ sj_kw := sj_k7 209 rfl rfl
theorem kw_1651 : (Jvm.Cond.methodLink "SlopeJudgeModel" (398 : Nat) ({ cls := "SlopeJudgeModel", name := "anchorLine", desc := "()V" } : Jvm.MethodName)) ∈ sj_kw := sj_k7 211 rfl rfl
theorem kw_1654 : (Jvm.Cond.code ({ cls := "SlopeJudgeModel", name := "anchorLine", desc := "()V" } : Jvm.MethodName) prog_11_method_104_code (2 : Nat) (Option.none : Option Jvm.ClassFile.FieldType)) ∈ sj_kw := sj_k7 214 rfl rfl
theorem ks_146 : (Cond.selects "SlopeJudgeModel" ({ cls := "SlopeJudgeModel", name := "anchorLine", desc := "()V" } : MethodName) ({ cls := "SlopeJudgeModel", name := "anchorLine", desc := "()V" } : MethodName)) ∈ sj_kw := sj_ks 146 rfl rfl
theorem kw_1653 : (Jvm.Cond.instanceMethod ({ cls := "SlopeJudgeModel", name := "anchorLine", desc := "()V" } : Jvm.MethodName)) ∈ sj_kw := sj_k7 213 rfl rfl
theorem kw_1635 : (Jvm.Cond.methodLink "SlopeJudgeModel" (389 : Nat) ({ cls := "SlopeJudgeModel", name := "word", desc := "()I" } : Jvm.MethodName)) ∈ sj_kw := sj_k7 195 rfl rfl
theorem kw_1638 : (Jvm.Cond.code ({ cls := "SlopeJudgeModel", name := "word", desc := "()I" } : Jvm.MethodName) prog_11_method_100_code (1 : Nat) (Option.some Jvm.ClassFile.FieldType.int)) ∈ sj_kw := sj_k7 198 rfl rfl
theorem ks_142 : (Cond.selects "SlopeJudgeModel" ({ cls := "SlopeJudgeModel", name := "word", desc := "()I" } : MethodName) ({ cls := "SlopeJudgeModel", name := "word", desc := "()I" } : MethodName)) ∈ sj_kw := sj_ks 142 rfl rfl
theorem kw_1637 : (Jvm.Cond.instanceMethod ({ cls := "SlopeJudgeModel", name := "word", desc := "()I" } : Jvm.MethodName)) ∈ sj_kw := sj_k7 197 rfl rfl
theorem kw_1631 : (Jvm.Cond.methodLink "SlopeJudgeModel" (404 : Nat) ({ cls := "SlopeJudgeModel", name := "line", desc := "()V" } : Jvm.MethodName)) ∈ sj_kw := sj_k7 191 rfl rfl
theorem kw_1634 : (Jvm.Cond.code ({ cls := "SlopeJudgeModel", name := "line", desc := "()V" } : Jvm.MethodName) prog_11_method_105_code (4 : Nat) (Option.none : Option Jvm.ClassFile.FieldType)) ∈ sj_kw := sj_k7 194 rfl rfl
theorem ks_141 : (Cond.selects "SlopeJudgeModel" ({ cls := "SlopeJudgeModel", name := "line", desc := "()V" } : MethodName) ({ cls := "SlopeJudgeModel", name := "line", desc := "()V" } : MethodName)) ∈ sj_kw := sj_ks 141 rfl rfl
theorem kw_1633 : (Jvm.Cond.instanceMethod ({ cls := "SlopeJudgeModel", name := "line", desc := "()V" } : Jvm.MethodName)) ∈ sj_kw := sj_k7 193 rfl rfl
theorem kw_1590 : (Jvm.Cond.methodLink "SlopeJudgeModel" (407 : Nat) ({ cls := "SlopeJudgeModel", name := "reads", desc := "()I" } : Jvm.MethodName)) ∈ sj_kw := sj_k7 150 rfl rfl
theorem kw_1593 : (Jvm.Cond.code ({ cls := "SlopeJudgeModel", name := "reads", desc := "()I" } : Jvm.MethodName) prog_11_method_106_code (5 : Nat) (Option.some Jvm.ClassFile.FieldType.int)) ∈ sj_kw := sj_k7 153 rfl rfl
theorem ks_132 : (Cond.selects "SlopeJudgeModel" ({ cls := "SlopeJudgeModel", name := "reads", desc := "()I" } : MethodName) ({ cls := "SlopeJudgeModel", name := "reads", desc := "()I" } : MethodName)) ∈ sj_kw := sj_ks 132 rfl rfl
theorem kw_1592 : (Jvm.Cond.instanceMethod ({ cls := "SlopeJudgeModel", name := "reads", desc := "()I" } : Jvm.MethodName)) ∈ sj_kw := sj_k7 152 rfl rfl
theorem kw_1574 : (Jvm.Cond.methodLink "SlopeJudgeModel" (340 : Nat) ({ cls := "SlopeJudgeModel", name := "comesWord", desc := "(I)V" } : Jvm.MethodName)) ∈ sj_kw := sj_k7 134 rfl rfl
theorem kw_1577 : (Jvm.Cond.code ({ cls := "SlopeJudgeModel", name := "comesWord", desc := "(I)V" } : Jvm.MethodName) prog_11_method_88_code (3 : Nat) (Option.none : Option Jvm.ClassFile.FieldType)) ∈ sj_kw := sj_k7 137 rfl rfl
theorem ks_131 : (Cond.selects "SlopeJudgeModel" ({ cls := "SlopeJudgeModel", name := "comesWord", desc := "(I)V" } : MethodName) ({ cls := "SlopeJudgeModel", name := "comesWord", desc := "(I)V" } : MethodName)) ∈ sj_kw := sj_ks 131 rfl rfl
theorem kw_1576 : (Jvm.Cond.instanceMethod ({ cls := "SlopeJudgeModel", name := "comesWord", desc := "(I)V" } : Jvm.MethodName)) ∈ sj_kw := sj_k7 136 rfl rfl
theorem kw_1268 : (Jvm.Cond.constantLong "SlopeJudgeModel" (98 : Nat) (30 : Int64)) ∈ sj_kw := sj_k6 68 rfl rfl
theorem kw_1269 : (Jvm.Cond.constantLong "SlopeJudgeModel" (100 : Nat) (200 : Int64)) ∈ sj_kw := sj_k6 69 rfl rfl
theorem kw_1270 : (Jvm.Cond.constantLong "SlopeJudgeModel" (102 : Nat) (1500 : Int64)) ∈ sj_kw := sj_k6 70 rfl rfl
theorem kw_1279 : (Jvm.Cond.methodLink "SlopeJudgeLaw" (65 : Nat) ({ cls := "SlopeJudgeModel", name := "circle", desc := "(IIIZ)I" } : Jvm.MethodName)) ∈ sj_kw := sj_k6 79 rfl rfl
theorem kw_1282 : (Jvm.Cond.code ({ cls := "SlopeJudgeModel", name := "circle", desc := "(IIIZ)I" } : Jvm.MethodName) prog_11_method_38_code (5 : Nat) (Option.some Jvm.ClassFile.FieldType.int)) ∈ sj_kw := sj_k6 82 rfl rfl
theorem kw_1281 : (Jvm.Cond.selects "SlopeJudgeModel" ({ cls := "SlopeJudgeModel", name := "circle", desc := "(IIIZ)I" } : Jvm.MethodName) ({ cls := "SlopeJudgeModel", name := "circle", desc := "(IIIZ)I" } : Jvm.MethodName)) ∈ sj_kw := sj_k6 81 rfl rfl
theorem kw_1280 : (Jvm.Cond.instanceMethod ({ cls := "SlopeJudgeModel", name := "circle", desc := "(IIIZ)I" } : Jvm.MethodName)) ∈ sj_kw := sj_k6 80 rfl rfl
theorem kw_595 : (Jvm.Cond.methodLink "SlopeJudgeLaw" (61 : Nat) ({ cls := "SlopeJudge", name := "circle", desc := "(IIIZ)I" } : Jvm.MethodName)) ∈ sj_kw := sj_k3 115 rfl rfl
theorem kw_598 : (Jvm.Cond.code ({ cls := "SlopeJudge", name := "circle", desc := "(IIIZ)I" } : Jvm.MethodName) prog_1_method_13_code (5 : Nat) (Option.some Jvm.ClassFile.FieldType.int)) ∈ sj_kw := sj_k3 118 rfl rfl
theorem kw_597 : (Jvm.Cond.selects "SlopeJudge" ({ cls := "SlopeJudge", name := "circle", desc := "(IIIZ)I" } : Jvm.MethodName) ({ cls := "SlopeJudge", name := "circle", desc := "(IIIZ)I" } : Jvm.MethodName)) ∈ sj_kw := sj_k3 117 rfl rfl
theorem kw_596 : (Jvm.Cond.instanceMethod ({ cls := "SlopeJudge", name := "circle", desc := "(IIIZ)I" } : Jvm.MethodName)) ∈ sj_kw := sj_k3 116 rfl rfl
theorem kw_1371 : (Jvm.Cond.methodLink "SlopeJudgeLaw" (74 : Nat) ({ cls := "SlopeJudgeModel", name := "points", desc := "(Z)I" } : Jvm.MethodName)) ∈ sj_kw := sj_k6 171 rfl rfl
theorem kw_1374 : (Jvm.Cond.code ({ cls := "SlopeJudgeModel", name := "points", desc := "(Z)I" } : Jvm.MethodName) prog_11_method_43_code (2 : Nat) (Option.some Jvm.ClassFile.FieldType.int)) ∈ sj_kw := sj_k6 174 rfl rfl
theorem kw_1373 : (Jvm.Cond.selects "SlopeJudgeModel" ({ cls := "SlopeJudgeModel", name := "points", desc := "(Z)I" } : Jvm.MethodName) ({ cls := "SlopeJudgeModel", name := "points", desc := "(Z)I" } : Jvm.MethodName)) ∈ sj_kw := sj_k6 173 rfl rfl
theorem kw_1372 : (Jvm.Cond.instanceMethod ({ cls := "SlopeJudgeModel", name := "points", desc := "(Z)I" } : Jvm.MethodName)) ∈ sj_kw := sj_k6 172 rfl rfl
theorem kw_629 : (Jvm.Cond.methodLink "SlopeJudgeLaw" (70 : Nat) ({ cls := "SlopeJudge", name := "points", desc := "(Z)I" } : Jvm.MethodName)) ∈ sj_kw := sj_k3 149 rfl rfl
theorem kw_632 : (Jvm.Cond.code ({ cls := "SlopeJudge", name := "points", desc := "(Z)I" } : Jvm.MethodName) prog_1_method_15_code (2 : Nat) (Option.some Jvm.ClassFile.FieldType.int)) ∈ sj_kw := sj_k3 152 rfl rfl
theorem kw_631 : (Jvm.Cond.selects "SlopeJudge" ({ cls := "SlopeJudge", name := "points", desc := "(Z)I" } : Jvm.MethodName) ({ cls := "SlopeJudge", name := "points", desc := "(Z)I" } : Jvm.MethodName)) ∈ sj_kw := sj_k3 151 rfl rfl
theorem kw_630 : (Jvm.Cond.instanceMethod ({ cls := "SlopeJudge", name := "points", desc := "(Z)I" } : Jvm.MethodName)) ∈ sj_kw := sj_k3 150 rfl rfl
theorem kw_1424 : (Jvm.Cond.methodLink "SlopeJudgeLaw" (79 : Nat) ({ cls := "SlopeJudgeModel", name := "worst", desc := "(IZ)I" } : Jvm.MethodName)) ∈ sj_kw := sj_k6 224 rfl rfl
theorem kw_1427 : (Jvm.Cond.code ({ cls := "SlopeJudgeModel", name := "worst", desc := "(IZ)I" } : Jvm.MethodName) prog_11_method_54_code (3 : Nat) (Option.some Jvm.ClassFile.FieldType.int)) ∈ sj_kw := sj_k6 227 rfl rfl
theorem kw_1426 : (Jvm.Cond.selects "SlopeJudgeModel" ({ cls := "SlopeJudgeModel", name := "worst", desc := "(IZ)I" } : Jvm.MethodName) ({ cls := "SlopeJudgeModel", name := "worst", desc := "(IZ)I" } : Jvm.MethodName)) ∈ sj_kw := sj_k6 226 rfl rfl
theorem kw_1425 : (Jvm.Cond.instanceMethod ({ cls := "SlopeJudgeModel", name := "worst", desc := "(IZ)I" } : Jvm.MethodName)) ∈ sj_kw := sj_k6 225 rfl rfl
theorem kw_643 : (Jvm.Cond.methodLink "SlopeJudgeLaw" (75 : Nat) ({ cls := "SlopeJudge", name := "worst", desc := "(IZ)I" } : Jvm.MethodName)) ∈ sj_kw := sj_k3 163 rfl rfl
theorem kw_646 : (Jvm.Cond.code ({ cls := "SlopeJudge", name := "worst", desc := "(IZ)I" } : Jvm.MethodName) prog_1_method_16_code (4 : Nat) (Option.some Jvm.ClassFile.FieldType.int)) ∈ sj_kw := sj_k3 166 rfl rfl
theorem kw_645 : (Jvm.Cond.selects "SlopeJudge" ({ cls := "SlopeJudge", name := "worst", desc := "(IZ)I" } : Jvm.MethodName) ({ cls := "SlopeJudge", name := "worst", desc := "(IZ)I" } : Jvm.MethodName)) ∈ sj_kw := sj_k3 165 rfl rfl
theorem kw_644 : (Jvm.Cond.instanceMethod ({ cls := "SlopeJudge", name := "worst", desc := "(IZ)I" } : Jvm.MethodName)) ∈ sj_kw := sj_k3 164 rfl rfl
theorem kw_1306 : (Jvm.Cond.methodLink "SlopeJudgeLaw" (137 : Nat) ({ cls := "SlopeJudgeModel", name := "tried", desc := "(IIIZ)I" } : Jvm.MethodName)) ∈ sj_kw := sj_k6 106 rfl rfl
theorem kw_1309 : (Jvm.Cond.code ({ cls := "SlopeJudgeModel", name := "tried", desc := "(IIIZ)I" } : Jvm.MethodName) prog_11_method_40_code (5 : Nat) (Option.some Jvm.ClassFile.FieldType.int)) ∈ sj_kw := sj_k6 109 rfl rfl
theorem kw_1308 : (Jvm.Cond.selects "SlopeJudgeModel" ({ cls := "SlopeJudgeModel", name := "tried", desc := "(IIIZ)I" } : Jvm.MethodName) ({ cls := "SlopeJudgeModel", name := "tried", desc := "(IIIZ)I" } : Jvm.MethodName)) ∈ sj_kw := sj_k6 108 rfl rfl
theorem kw_1307 : (Jvm.Cond.instanceMethod ({ cls := "SlopeJudgeModel", name := "tried", desc := "(IIIZ)I" } : Jvm.MethodName)) ∈ sj_kw := sj_k6 107 rfl rfl
theorem kw_1015 : (Jvm.Cond.methodLink "SlopeJudgeLaw" (134 : Nat) ({ cls := "SlopeJudge", name := "tried", desc := "(IIIZ)I" } : Jvm.MethodName)) ∈ sj_kw := sj_k5 55 rfl rfl
theorem kw_1018 : (Jvm.Cond.code ({ cls := "SlopeJudge", name := "tried", desc := "(IIIZ)I" } : Jvm.MethodName) prog_1_method_42_code (5 : Nat) (Option.some Jvm.ClassFile.FieldType.int)) ∈ sj_kw := sj_k5 58 rfl rfl
theorem kw_1017 : (Jvm.Cond.selects "SlopeJudge" ({ cls := "SlopeJudge", name := "tried", desc := "(IIIZ)I" } : Jvm.MethodName) ({ cls := "SlopeJudge", name := "tried", desc := "(IIIZ)I" } : Jvm.MethodName)) ∈ sj_kw := sj_k5 57 rfl rfl
theorem kw_1016 : (Jvm.Cond.instanceMethod ({ cls := "SlopeJudge", name := "tried", desc := "(IIIZ)I" } : Jvm.MethodName)) ∈ sj_kw := sj_k5 56 rfl rfl
theorem kw_1382 : (Jvm.Cond.methodLink "SlopeJudgeLaw" (142 : Nat) ({ cls := "SlopeJudgeModel", name := "boxes", desc := "(IIIIZI)I" } : Jvm.MethodName)) ∈ sj_kw := sj_k6 182 rfl rfl
theorem kw_1385 : (Jvm.Cond.code ({ cls := "SlopeJudgeModel", name := "boxes", desc := "(IIIIZI)I" } : Jvm.MethodName) prog_11_method_46_code (7 : Nat) (Option.some Jvm.ClassFile.FieldType.int)) ∈ sj_kw := sj_k6 185 rfl rfl
theorem kw_1384 : (Jvm.Cond.selects "SlopeJudgeModel" ({ cls := "SlopeJudgeModel", name := "boxes", desc := "(IIIIZI)I" } : Jvm.MethodName) ({ cls := "SlopeJudgeModel", name := "boxes", desc := "(IIIIZI)I" } : Jvm.MethodName)) ∈ sj_kw := sj_k6 184 rfl rfl
theorem kw_1383 : (Jvm.Cond.instanceMethod ({ cls := "SlopeJudgeModel", name := "boxes", desc := "(IIIIZI)I" } : Jvm.MethodName)) ∈ sj_kw := sj_k6 183 rfl rfl
theorem kw_1028 : (Jvm.Cond.methodLink "SlopeJudgeLaw" (138 : Nat) ({ cls := "SlopeJudge", name := "boxes", desc := "(IIIIZI)I" } : Jvm.MethodName)) ∈ sj_kw := sj_k5 68 rfl rfl
theorem kw_1031 : (Jvm.Cond.code ({ cls := "SlopeJudge", name := "boxes", desc := "(IIIIZI)I" } : Jvm.MethodName) prog_1_method_43_code (7 : Nat) (Option.some Jvm.ClassFile.FieldType.int)) ∈ sj_kw := sj_k5 71 rfl rfl
theorem kw_1030 : (Jvm.Cond.selects "SlopeJudge" ({ cls := "SlopeJudge", name := "boxes", desc := "(IIIIZI)I" } : Jvm.MethodName) ({ cls := "SlopeJudge", name := "boxes", desc := "(IIIIZI)I" } : Jvm.MethodName)) ∈ sj_kw := sj_k5 70 rfl rfl
theorem kw_1029 : (Jvm.Cond.instanceMethod ({ cls := "SlopeJudge", name := "boxes", desc := "(IIIIZI)I" } : Jvm.MethodName)) ∈ sj_kw := sj_k5 69 rfl rfl
theorem kw_1395 : (Jvm.Cond.methodLink "SlopeJudgeLaw" (147 : Nat) ({ cls := "SlopeJudgeModel", name := "tables", desc := "(IZI)I" } : Jvm.MethodName)) ∈ sj_kw := sj_k6 195 rfl rfl
theorem kw_1398 : (Jvm.Cond.code ({ cls := "SlopeJudgeModel", name := "tables", desc := "(IZI)I" } : Jvm.MethodName) prog_11_method_53_code (5 : Nat) (Option.some Jvm.ClassFile.FieldType.int)) ∈ sj_kw := sj_k6 198 rfl rfl
theorem kw_1397 : (Jvm.Cond.selects "SlopeJudgeModel" ({ cls := "SlopeJudgeModel", name := "tables", desc := "(IZI)I" } : Jvm.MethodName) ({ cls := "SlopeJudgeModel", name := "tables", desc := "(IZI)I" } : Jvm.MethodName)) ∈ sj_kw := sj_k6 197 rfl rfl
theorem kw_1396 : (Jvm.Cond.instanceMethod ({ cls := "SlopeJudgeModel", name := "tables", desc := "(IZI)I" } : Jvm.MethodName)) ∈ sj_kw := sj_k6 196 rfl rfl
theorem kw_1057 : (Jvm.Cond.methodLink "SlopeJudgeLaw" (143 : Nat) ({ cls := "SlopeJudge", name := "tables", desc := "(IZI)I" } : Jvm.MethodName)) ∈ sj_kw := sj_k5 97 rfl rfl
theorem kw_1060 : (Jvm.Cond.code ({ cls := "SlopeJudge", name := "tables", desc := "(IZI)I" } : Jvm.MethodName) prog_1_method_48_code (5 : Nat) (Option.some Jvm.ClassFile.FieldType.int)) ∈ sj_kw := sj_k5 100 rfl rfl
theorem kw_1059 : (Jvm.Cond.selects "SlopeJudge" ({ cls := "SlopeJudge", name := "tables", desc := "(IZI)I" } : Jvm.MethodName) ({ cls := "SlopeJudge", name := "tables", desc := "(IZI)I" } : Jvm.MethodName)) ∈ sj_kw := sj_k5 99 rfl rfl
theorem kw_1058 : (Jvm.Cond.instanceMethod ({ cls := "SlopeJudge", name := "tables", desc := "(IZI)I" } : Jvm.MethodName)) ∈ sj_kw := sj_k5 98 rfl rfl
theorem kw_1527 : (Jvm.Cond.methodLink "SlopeJudgeLaw" (152 : Nat) ({ cls := "SlopeJudgeModel", name := "dug", desc := "(IIIIIZ)I" } : Jvm.MethodName)) ∈ sj_kw := sj_k7 87 rfl rfl
theorem kw_1530 : (Jvm.Cond.code ({ cls := "SlopeJudgeModel", name := "dug", desc := "(IIIIIZ)I" } : Jvm.MethodName) prog_11_method_78_code (8 : Nat) (Option.some Jvm.ClassFile.FieldType.int)) ∈ sj_kw := sj_k7 90 rfl rfl
theorem kw_1529 : (Jvm.Cond.selects "SlopeJudgeModel" ({ cls := "SlopeJudgeModel", name := "dug", desc := "(IIIIIZ)I" } : Jvm.MethodName) ({ cls := "SlopeJudgeModel", name := "dug", desc := "(IIIIIZ)I" } : Jvm.MethodName)) ∈ sj_kw := sj_k7 89 rfl rfl
theorem kw_1528 : (Jvm.Cond.instanceMethod ({ cls := "SlopeJudgeModel", name := "dug", desc := "(IIIIIZ)I" } : Jvm.MethodName)) ∈ sj_kw := sj_k7 88 rfl rfl
theorem kw_1044 : (Jvm.Cond.methodLink "SlopeJudgeLaw" (148 : Nat) ({ cls := "SlopeJudge", name := "dug", desc := "(IIIIIZ)I" } : Jvm.MethodName)) ∈ sj_kw := sj_k5 84 rfl rfl
theorem kw_1047 : (Jvm.Cond.code ({ cls := "SlopeJudge", name := "dug", desc := "(IIIIIZ)I" } : Jvm.MethodName) prog_1_method_44_code (7 : Nat) (Option.some Jvm.ClassFile.FieldType.int)) ∈ sj_kw := sj_k5 87 rfl rfl
theorem kw_1046 : (Jvm.Cond.selects "SlopeJudge" ({ cls := "SlopeJudge", name := "dug", desc := "(IIIIIZ)I" } : Jvm.MethodName) ({ cls := "SlopeJudge", name := "dug", desc := "(IIIIIZ)I" } : Jvm.MethodName)) ∈ sj_kw := sj_k5 86 rfl rfl
theorem kw_1045 : (Jvm.Cond.instanceMethod ({ cls := "SlopeJudge", name := "dug", desc := "(IIIIIZ)I" } : Jvm.MethodName)) ∈ sj_kw := sj_k5 85 rfl rfl
theorem kw_1531 : (Jvm.Cond.methodLink "SlopeJudgeLaw" (178 : Nat) ({ cls := "SlopeJudgeModel", name := "deep", desc := "(IIIIIZ)I" } : Jvm.MethodName)) ∈ sj_kw := sj_k7 91 rfl rfl
theorem kw_1534 : (Jvm.Cond.code ({ cls := "SlopeJudgeModel", name := "deep", desc := "(IIIIIZ)I" } : Jvm.MethodName) prog_11_method_79_code (12 : Nat) (Option.some Jvm.ClassFile.FieldType.int)) ∈ sj_kw := sj_k7 94 rfl rfl
theorem kw_1533 : (Jvm.Cond.selects "SlopeJudgeModel" ({ cls := "SlopeJudgeModel", name := "deep", desc := "(IIIIIZ)I" } : Jvm.MethodName) ({ cls := "SlopeJudgeModel", name := "deep", desc := "(IIIIIZ)I" } : Jvm.MethodName)) ∈ sj_kw := sj_k7 93 rfl rfl
theorem kw_1532 : (Jvm.Cond.instanceMethod ({ cls := "SlopeJudgeModel", name := "deep", desc := "(IIIIIZ)I" } : Jvm.MethodName)) ∈ sj_kw := sj_k7 92 rfl rfl
theorem kw_1048 : (Jvm.Cond.methodLink "SlopeJudgeLaw" (175 : Nat) ({ cls := "SlopeJudge", name := "deep", desc := "(IIIIIZ)I" } : Jvm.MethodName)) ∈ sj_kw := sj_k5 88 rfl rfl
theorem kw_1051 : (Jvm.Cond.code ({ cls := "SlopeJudge", name := "deep", desc := "(IIIIIZ)I" } : Jvm.MethodName) prog_1_method_45_code (10 : Nat) (Option.some Jvm.ClassFile.FieldType.int)) ∈ sj_kw := sj_k5 91 rfl rfl
theorem kw_1050 : (Jvm.Cond.selects "SlopeJudge" ({ cls := "SlopeJudge", name := "deep", desc := "(IIIIIZ)I" } : Jvm.MethodName) ({ cls := "SlopeJudge", name := "deep", desc := "(IIIIIZ)I" } : Jvm.MethodName)) ∈ sj_kw := sj_k5 90 rfl rfl
theorem kw_1049 : (Jvm.Cond.instanceMethod ({ cls := "SlopeJudge", name := "deep", desc := "(IIIIIZ)I" } : Jvm.MethodName)) ∈ sj_kw := sj_k5 89 rfl rfl
theorem kw_1535 : (Jvm.Cond.methodLink "SlopeJudgeLaw" (183 : Nat) ({ cls := "SlopeJudgeModel", name := "scan", desc := "(IIIIZII)I" } : Jvm.MethodName)) ∈ sj_kw := sj_k7 95 rfl rfl
theorem kw_1538 : (Jvm.Cond.code ({ cls := "SlopeJudgeModel", name := "scan", desc := "(IIIIZII)I" } : Jvm.MethodName) prog_11_method_80_code (12 : Nat) (Option.some Jvm.ClassFile.FieldType.int)) ∈ sj_kw := sj_k7 98 rfl rfl
theorem kw_1537 : (Jvm.Cond.selects "SlopeJudgeModel" ({ cls := "SlopeJudgeModel", name := "scan", desc := "(IIIIZII)I" } : Jvm.MethodName) ({ cls := "SlopeJudgeModel", name := "scan", desc := "(IIIIZII)I" } : Jvm.MethodName)) ∈ sj_kw := sj_k7 97 rfl rfl
theorem kw_1536 : (Jvm.Cond.instanceMethod ({ cls := "SlopeJudgeModel", name := "scan", desc := "(IIIIZII)I" } : Jvm.MethodName)) ∈ sj_kw := sj_k7 96 rfl rfl
theorem kw_1053 : (Jvm.Cond.methodLink "SlopeJudgeLaw" (179 : Nat) ({ cls := "SlopeJudge", name := "scan", desc := "(IIIIZII)I" } : Jvm.MethodName)) ∈ sj_kw := sj_k5 93 rfl rfl
theorem kw_1056 : (Jvm.Cond.code ({ cls := "SlopeJudge", name := "scan", desc := "(IIIIZII)I" } : Jvm.MethodName) prog_1_method_46_code (12 : Nat) (Option.some Jvm.ClassFile.FieldType.int)) ∈ sj_kw := sj_k5 96 rfl rfl
theorem kw_1055 : (Jvm.Cond.selects "SlopeJudge" ({ cls := "SlopeJudge", name := "scan", desc := "(IIIIZII)I" } : Jvm.MethodName) ({ cls := "SlopeJudge", name := "scan", desc := "(IIIIZII)I" } : Jvm.MethodName)) ∈ sj_kw := sj_k5 95 rfl rfl
theorem kw_1054 : (Jvm.Cond.instanceMethod ({ cls := "SlopeJudge", name := "scan", desc := "(IIIIZII)I" } : Jvm.MethodName)) ∈ sj_kw := sj_k5 94 rfl rfl
theorem kw_1671 : (Jvm.Cond.methodLink "SlopeJudgeLaw" (204 : Nat) ({ cls := "SlopeJudgeModel", name := "image", desc := "(Z)Z" } : Jvm.MethodName)) ∈ sj_kw := sj_k7 231 rfl rfl
theorem kw_1674 : (Jvm.Cond.code ({ cls := "SlopeJudgeModel", name := "image", desc := "(Z)Z" } : Jvm.MethodName) prog_11_method_112_code (3 : Nat) (Option.some Jvm.ClassFile.FieldType.boolean)) ∈ sj_kw := sj_k7 234 rfl rfl
theorem kw_1673 : (Jvm.Cond.selects "SlopeJudgeModel" ({ cls := "SlopeJudgeModel", name := "image", desc := "(Z)Z" } : Jvm.MethodName) ({ cls := "SlopeJudgeModel", name := "image", desc := "(Z)Z" } : Jvm.MethodName)) ∈ sj_kw := sj_k7 233 rfl rfl
theorem kw_1672 : (Jvm.Cond.instanceMethod ({ cls := "SlopeJudgeModel", name := "image", desc := "(Z)Z" } : Jvm.MethodName)) ∈ sj_kw := sj_k7 232 rfl rfl
theorem kw_783 : (Jvm.Cond.methodLink "SlopeJudgeLaw" (200 : Nat) ({ cls := "SlopeJudge", name := "image", desc := "(Z)Z" } : Jvm.MethodName)) ∈ sj_kw := sj_k4 63 rfl rfl
theorem kw_786 : (Jvm.Cond.code ({ cls := "SlopeJudge", name := "image", desc := "(Z)Z" } : Jvm.MethodName) prog_1_method_21_code (2 : Nat) (Option.some Jvm.ClassFile.FieldType.boolean)) ∈ sj_kw := sj_k4 66 rfl rfl
theorem kw_785 : (Jvm.Cond.selects "SlopeJudge" ({ cls := "SlopeJudge", name := "image", desc := "(Z)Z" } : Jvm.MethodName) ({ cls := "SlopeJudge", name := "image", desc := "(Z)Z" } : Jvm.MethodName)) ∈ sj_kw := sj_k4 65 rfl rfl
theorem kw_784 : (Jvm.Cond.instanceMethod ({ cls := "SlopeJudge", name := "image", desc := "(Z)Z" } : Jvm.MethodName)) ∈ sj_kw := sj_k4 64 rfl rfl
theorem kw_373 : (Jvm.Cond.methodLink "SlopeJudgeLaw" (13 : Nat) ({ cls := "SlopeJudge", name := "size", desc := "(II)Z" } : Jvm.MethodName)) ∈ sj_kw := sj_k2 133 rfl rfl
theorem kw_376 : (Jvm.Cond.code ({ cls := "SlopeJudge", name := "size", desc := "(II)Z" } : Jvm.MethodName) prog_1_method_2_code (3 : Nat) (Option.some Jvm.ClassFile.FieldType.boolean)) ∈ sj_kw := sj_k2 136 rfl rfl
theorem kw_375 : (Jvm.Cond.selects "SlopeJudge" ({ cls := "SlopeJudge", name := "size", desc := "(II)Z" } : Jvm.MethodName) ({ cls := "SlopeJudge", name := "size", desc := "(II)Z" } : Jvm.MethodName)) ∈ sj_kw := sj_k2 135 rfl rfl
theorem kw_374 : (Jvm.Cond.instanceMethod ({ cls := "SlopeJudge", name := "size", desc := "(II)Z" } : Jvm.MethodName)) ∈ sj_kw := sj_k2 134 rfl rfl
theorem kw_1218 : (Jvm.Cond.methodLink "SlopeJudgeLaw" (17 : Nat) ({ cls := "SlopeJudgeModel", name := "size", desc := "(II)Z" } : Jvm.MethodName)) ∈ sj_kw := sj_k6 18 rfl rfl
theorem kw_1221 : (Jvm.Cond.code ({ cls := "SlopeJudgeModel", name := "size", desc := "(II)Z" } : Jvm.MethodName) prog_11_method_10_code (3 : Nat) (Option.some Jvm.ClassFile.FieldType.boolean)) ∈ sj_kw := sj_k6 21 rfl rfl
theorem kw_1220 : (Jvm.Cond.selects "SlopeJudgeModel" ({ cls := "SlopeJudgeModel", name := "size", desc := "(II)Z" } : Jvm.MethodName) ({ cls := "SlopeJudgeModel", name := "size", desc := "(II)Z" } : Jvm.MethodName)) ∈ sj_kw := sj_k6 20 rfl rfl
theorem kw_1219 : (Jvm.Cond.instanceMethod ({ cls := "SlopeJudgeModel", name := "size", desc := "(II)Z" } : Jvm.MethodName)) ∈ sj_kw := sj_k6 19 rfl rfl
theorem kw_393 : (Jvm.Cond.methodLink "SlopeJudgeLaw" (18 : Nat) ({ cls := "SlopeJudge", name := "tell", desc := "(III)Z" } : Jvm.MethodName)) ∈ sj_kw := sj_k2 153 rfl rfl
theorem kw_396 : (Jvm.Cond.code ({ cls := "SlopeJudge", name := "tell", desc := "(III)Z" } : Jvm.MethodName) prog_1_method_3_code (4 : Nat) (Option.some Jvm.ClassFile.FieldType.boolean)) ∈ sj_kw := sj_k2 156 rfl rfl
theorem kw_395 : (Jvm.Cond.selects "SlopeJudge" ({ cls := "SlopeJudge", name := "tell", desc := "(III)Z" } : Jvm.MethodName) ({ cls := "SlopeJudge", name := "tell", desc := "(III)Z" } : Jvm.MethodName)) ∈ sj_kw := sj_k2 155 rfl rfl
theorem kw_394 : (Jvm.Cond.instanceMethod ({ cls := "SlopeJudge", name := "tell", desc := "(III)Z" } : Jvm.MethodName)) ∈ sj_kw := sj_k2 154 rfl rfl
theorem kw_1232 : (Jvm.Cond.methodLink "SlopeJudgeLaw" (22 : Nat) ({ cls := "SlopeJudgeModel", name := "tell", desc := "(III)Z" } : Jvm.MethodName)) ∈ sj_kw := sj_k6 32 rfl rfl
theorem kw_1235 : (Jvm.Cond.code ({ cls := "SlopeJudgeModel", name := "tell", desc := "(III)Z" } : Jvm.MethodName) prog_11_method_11_code (4 : Nat) (Option.some Jvm.ClassFile.FieldType.boolean)) ∈ sj_kw := sj_k6 35 rfl rfl
theorem kw_1234 : (Jvm.Cond.selects "SlopeJudgeModel" ({ cls := "SlopeJudgeModel", name := "tell", desc := "(III)Z" } : Jvm.MethodName) ({ cls := "SlopeJudgeModel", name := "tell", desc := "(III)Z" } : Jvm.MethodName)) ∈ sj_kw := sj_k6 34 rfl rfl
theorem kw_1233 : (Jvm.Cond.instanceMethod ({ cls := "SlopeJudgeModel", name := "tell", desc := "(III)Z" } : Jvm.MethodName)) ∈ sj_kw := sj_k6 33 rfl rfl
theorem kw_409 : (Jvm.Cond.methodLink "SlopeJudgeLaw" (23 : Nat) ({ cls := "SlopeJudge", name := "dig", desc := "(II)I" } : Jvm.MethodName)) ∈ sj_kw := sj_k2 169 rfl rfl
theorem kw_412 : (Jvm.Cond.code ({ cls := "SlopeJudge", name := "dig", desc := "(II)I" } : Jvm.MethodName) prog_1_method_5_code (3 : Nat) (Option.some Jvm.ClassFile.FieldType.int)) ∈ sj_kw := sj_k2 172 rfl rfl
theorem kw_411 : (Jvm.Cond.selects "SlopeJudge" ({ cls := "SlopeJudge", name := "dig", desc := "(II)I" } : Jvm.MethodName) ({ cls := "SlopeJudge", name := "dig", desc := "(II)I" } : Jvm.MethodName)) ∈ sj_kw := sj_k2 171 rfl rfl
theorem kw_410 : (Jvm.Cond.instanceMethod ({ cls := "SlopeJudge", name := "dig", desc := "(II)I" } : Jvm.MethodName)) ∈ sj_kw := sj_k2 170 rfl rfl
theorem kw_1243 : (Jvm.Cond.methodLink "SlopeJudgeLaw" (27 : Nat) ({ cls := "SlopeJudgeModel", name := "dig", desc := "(II)I" } : Jvm.MethodName)) ∈ sj_kw := sj_k6 43 rfl rfl
theorem kw_1246 : (Jvm.Cond.code ({ cls := "SlopeJudgeModel", name := "dig", desc := "(II)I" } : Jvm.MethodName) prog_11_method_13_code (3 : Nat) (Option.some Jvm.ClassFile.FieldType.int)) ∈ sj_kw := sj_k6 46 rfl rfl
theorem kw_1245 : (Jvm.Cond.selects "SlopeJudgeModel" ({ cls := "SlopeJudgeModel", name := "dig", desc := "(II)I" } : Jvm.MethodName) ({ cls := "SlopeJudgeModel", name := "dig", desc := "(II)I" } : Jvm.MethodName)) ∈ sj_kw := sj_k6 45 rfl rfl
theorem kw_1244 : (Jvm.Cond.instanceMethod ({ cls := "SlopeJudgeModel", name := "dig", desc := "(II)I" } : Jvm.MethodName)) ∈ sj_kw := sj_k6 44 rfl rfl
theorem kw_419 : (Jvm.Cond.methodLink "SlopeJudgeLaw" (28 : Nat) ({ cls := "SlopeJudge", name := "soil", desc := "(IIII)Z" } : Jvm.MethodName)) ∈ sj_kw := sj_k2 179 rfl rfl
theorem kw_422 : (Jvm.Cond.code ({ cls := "SlopeJudge", name := "soil", desc := "(IIII)Z" } : Jvm.MethodName) prog_1_method_6_code (5 : Nat) (Option.some Jvm.ClassFile.FieldType.boolean)) ∈ sj_kw := sj_k2 182 rfl rfl
theorem kw_421 : (Jvm.Cond.selects "SlopeJudge" ({ cls := "SlopeJudge", name := "soil", desc := "(IIII)Z" } : Jvm.MethodName) ({ cls := "SlopeJudge", name := "soil", desc := "(IIII)Z" } : Jvm.MethodName)) ∈ sj_kw := sj_k2 181 rfl rfl
theorem kw_420 : (Jvm.Cond.instanceMethod ({ cls := "SlopeJudge", name := "soil", desc := "(IIII)Z" } : Jvm.MethodName)) ∈ sj_kw := sj_k2 180 rfl rfl
theorem kw_1263 : (Jvm.Cond.methodLink "SlopeJudgeLaw" (32 : Nat) ({ cls := "SlopeJudgeModel", name := "soil", desc := "(IIII)Z" } : Jvm.MethodName)) ∈ sj_kw := sj_k6 63 rfl rfl
theorem kw_1266 : (Jvm.Cond.code ({ cls := "SlopeJudgeModel", name := "soil", desc := "(IIII)Z" } : Jvm.MethodName) prog_11_method_16_code (5 : Nat) (Option.some Jvm.ClassFile.FieldType.boolean)) ∈ sj_kw := sj_k6 66 rfl rfl
theorem kw_1265 : (Jvm.Cond.selects "SlopeJudgeModel" ({ cls := "SlopeJudgeModel", name := "soil", desc := "(IIII)Z" } : Jvm.MethodName) ({ cls := "SlopeJudgeModel", name := "soil", desc := "(IIII)Z" } : Jvm.MethodName)) ∈ sj_kw := sj_k6 65 rfl rfl
theorem kw_1264 : (Jvm.Cond.instanceMethod ({ cls := "SlopeJudgeModel", name := "soil", desc := "(IIII)Z" } : Jvm.MethodName)) ∈ sj_kw := sj_k6 64 rfl rfl
theorem kw_423 : (Jvm.Cond.methodLink "SlopeJudgeLaw" (33 : Nat) ({ cls := "SlopeJudge", name := "quake", desc := "(I)Z" } : Jvm.MethodName)) ∈ sj_kw := sj_k2 183 rfl rfl
theorem kw_426 : (Jvm.Cond.code ({ cls := "SlopeJudge", name := "quake", desc := "(I)Z" } : Jvm.MethodName) prog_1_method_7_code (2 : Nat) (Option.some Jvm.ClassFile.FieldType.boolean)) ∈ sj_kw := sj_k2 186 rfl rfl
theorem kw_425 : (Jvm.Cond.selects "SlopeJudge" ({ cls := "SlopeJudge", name := "quake", desc := "(I)Z" } : Jvm.MethodName) ({ cls := "SlopeJudge", name := "quake", desc := "(I)Z" } : Jvm.MethodName)) ∈ sj_kw := sj_k2 185 rfl rfl
theorem kw_424 : (Jvm.Cond.instanceMethod ({ cls := "SlopeJudge", name := "quake", desc := "(I)Z" } : Jvm.MethodName)) ∈ sj_kw := sj_k2 184 rfl rfl
theorem kw_1271 : (Jvm.Cond.methodLink "SlopeJudgeLaw" (37 : Nat) ({ cls := "SlopeJudgeModel", name := "quake", desc := "(I)Z" } : Jvm.MethodName)) ∈ sj_kw := sj_k6 71 rfl rfl
theorem kw_1274 : (Jvm.Cond.code ({ cls := "SlopeJudgeModel", name := "quake", desc := "(I)Z" } : Jvm.MethodName) prog_11_method_17_code (2 : Nat) (Option.some Jvm.ClassFile.FieldType.boolean)) ∈ sj_kw := sj_k6 74 rfl rfl
theorem kw_1273 : (Jvm.Cond.selects "SlopeJudgeModel" ({ cls := "SlopeJudgeModel", name := "quake", desc := "(I)Z" } : Jvm.MethodName) ({ cls := "SlopeJudgeModel", name := "quake", desc := "(I)Z" } : Jvm.MethodName)) ∈ sj_kw := sj_k6 73 rfl rfl
theorem kw_1272 : (Jvm.Cond.instanceMethod ({ cls := "SlopeJudgeModel", name := "quake", desc := "(I)Z" } : Jvm.MethodName)) ∈ sj_kw := sj_k6 72 rfl rfl
theorem kw_427 : (Jvm.Cond.methodLink "SlopeJudgeLaw" (38 : Nat) ({ cls := "SlopeJudge", name := "ancho\x72", desc := "(IIII)Z" } : Jvm.MethodName)) ∈ sj_kw := sj_k2 187 rfl rfl
theorem kw_430 : (Jvm.Cond.code ({ cls := "SlopeJudge", name := "ancho\x72", desc := "(IIII)Z" } : Jvm.MethodName) prog_1_method_8_code (5 : Nat) (Option.some Jvm.ClassFile.FieldType.boolean)) ∈ sj_kw := sj_k2 190 rfl rfl
theorem kw_429 : (Jvm.Cond.selects "SlopeJudge" ({ cls := "SlopeJudge", name := "ancho\x72", desc := "(IIII)Z" } : Jvm.MethodName) ({ cls := "SlopeJudge", name := "ancho\x72", desc := "(IIII)Z" } : Jvm.MethodName)) ∈ sj_kw := sj_k2 189 rfl rfl
theorem kw_428 : (Jvm.Cond.instanceMethod ({ cls := "SlopeJudge", name := "ancho\x72", desc := "(IIII)Z" } : Jvm.MethodName)) ∈ sj_kw := sj_k2 188 rfl rfl
theorem kw_1275 : (Jvm.Cond.methodLink "SlopeJudgeLaw" (41 : Nat) ({ cls := "SlopeJudgeModel", name := "ancho\x72", desc := "(IIII)Z" } : Jvm.MethodName)) ∈ sj_kw := sj_k6 75 rfl rfl
theorem kw_1278 : (Jvm.Cond.code ({ cls := "SlopeJudgeModel", name := "ancho\x72", desc := "(IIII)Z" } : Jvm.MethodName) prog_11_method_18_code (5 : Nat) (Option.some Jvm.ClassFile.FieldType.boolean)) ∈ sj_kw := sj_k6 78 rfl rfl
theorem kw_1277 : (Jvm.Cond.selects "SlopeJudgeModel" ({ cls := "SlopeJudgeModel", name := "ancho\x72", desc := "(IIII)Z" } : Jvm.MethodName) ({ cls := "SlopeJudgeModel", name := "ancho\x72", desc := "(IIII)Z" } : Jvm.MethodName)) ∈ sj_kw := sj_k6 77 rfl rfl
theorem kw_1276 : (Jvm.Cond.instanceMethod ({ cls := "SlopeJudgeModel", name := "ancho\x72", desc := "(IIII)Z" } : Jvm.MethodName)) ∈ sj_kw := sj_k6 76 rfl rfl
theorem kw_431 : (Jvm.Cond.methodLink "SlopeJudgeLaw" (42 : Nat) ({ cls := "SlopeJudge", name := "feed", desc := "(IIIII)I" } : Jvm.MethodName)) ∈ sj_kw := sj_k2 191 rfl rfl
theorem kw_434 : (Jvm.Cond.code ({ cls := "SlopeJudge", name := "feed", desc := "(IIIII)I" } : Jvm.MethodName) prog_1_method_9_code (6 : Nat) (Option.some Jvm.ClassFile.FieldType.int)) ∈ sj_kw := sj_k2 194 rfl rfl
theorem kw_433 : (Jvm.Cond.selects "SlopeJudge" ({ cls := "SlopeJudge", name := "feed", desc := "(IIIII)I" } : Jvm.MethodName) ({ cls := "SlopeJudge", name := "feed", desc := "(IIIII)I" } : Jvm.MethodName)) ∈ sj_kw := sj_k2 193 rfl rfl
theorem kw_432 : (Jvm.Cond.instanceMethod ({ cls := "SlopeJudge", name := "feed", desc := "(IIIII)I" } : Jvm.MethodName)) ∈ sj_kw := sj_k2 192 rfl rfl
theorem kw_1570 : (Jvm.Cond.methodLink "SlopeJudgeLaw" (46 : Nat) ({ cls := "SlopeJudgeModel", name := "feed", desc := "(IIIII)I" } : Jvm.MethodName)) ∈ sj_kw := sj_k7 130 rfl rfl
theorem kw_1573 : (Jvm.Cond.code ({ cls := "SlopeJudgeModel", name := "feed", desc := "(IIIII)I" } : Jvm.MethodName) prog_11_method_89_code (6 : Nat) (Option.some Jvm.ClassFile.FieldType.int)) ∈ sj_kw := sj_k7 133 rfl rfl
theorem kw_1572 : (Jvm.Cond.selects "SlopeJudgeModel" ({ cls := "SlopeJudgeModel", name := "feed", desc := "(IIIII)I" } : Jvm.MethodName) ({ cls := "SlopeJudgeModel", name := "feed", desc := "(IIIII)I" } : Jvm.MethodName)) ∈ sj_kw := sj_k7 132 rfl rfl
theorem kw_1571 : (Jvm.Cond.instanceMethod ({ cls := "SlopeJudgeModel", name := "feed", desc := "(IIIII)I" } : Jvm.MethodName)) ∈ sj_kw := sj_k7 131 rfl rfl
theorem kw_439 : (Jvm.Cond.methodLink "SlopeJudgeLaw" (47 : Nat) ({ cls := "SlopeJudge", name := "end", desc := "(I)Z" } : Jvm.MethodName)) ∈ sj_kw := sj_k2 199 rfl rfl
theorem kw_442 : (Jvm.Cond.code ({ cls := "SlopeJudge", name := "end", desc := "(I)Z" } : Jvm.MethodName) prog_1_method_10_code (2 : Nat) (Option.some Jvm.ClassFile.FieldType.boolean)) ∈ sj_kw := sj_k2 202 rfl rfl
theorem kw_441 : (Jvm.Cond.selects "SlopeJudge" ({ cls := "SlopeJudge", name := "end", desc := "(I)Z" } : Jvm.MethodName) ({ cls := "SlopeJudge", name := "end", desc := "(I)Z" } : Jvm.MethodName)) ∈ sj_kw := sj_k2 201 rfl rfl
theorem kw_440 : (Jvm.Cond.instanceMethod ({ cls := "SlopeJudge", name := "end", desc := "(I)Z" } : Jvm.MethodName)) ∈ sj_kw := sj_k2 200 rfl rfl
theorem kw_1578 : (Jvm.Cond.methodLink "SlopeJudgeLaw" (50 : Nat) ({ cls := "SlopeJudgeModel", name := "end", desc := "(I)Z" } : Jvm.MethodName)) ∈ sj_kw := sj_k7 138 rfl rfl
theorem kw_1581 : (Jvm.Cond.code ({ cls := "SlopeJudgeModel", name := "end", desc := "(I)Z" } : Jvm.MethodName) prog_11_method_90_code (2 : Nat) (Option.some Jvm.ClassFile.FieldType.boolean)) ∈ sj_kw := sj_k7 141 rfl rfl
theorem kw_1580 : (Jvm.Cond.selects "SlopeJudgeModel" ({ cls := "SlopeJudgeModel", name := "end", desc := "(I)Z" } : Jvm.MethodName) ({ cls := "SlopeJudgeModel", name := "end", desc := "(I)Z" } : Jvm.MethodName)) ∈ sj_kw := sj_k7 140 rfl rfl
theorem kw_1579 : (Jvm.Cond.instanceMethod ({ cls := "SlopeJudgeModel", name := "end", desc := "(I)Z" } : Jvm.MethodName)) ∈ sj_kw := sj_k7 139 rfl rfl
theorem kw_443 : (Jvm.Cond.methodLink "SlopeJudgeLaw" (51 : Nat) ({ cls := "SlopeJudge", name := "text", desc := "()I" } : Jvm.MethodName)) ∈ sj_kw := sj_k2 203 rfl rfl
theorem kw_446 : (Jvm.Cond.code ({ cls := "SlopeJudge", name := "text", desc := "()I" } : Jvm.MethodName) prog_1_method_11_code (2 : Nat) (Option.some Jvm.ClassFile.FieldType.int)) ∈ sj_kw := sj_k2 206 rfl rfl
theorem kw_445 : (Jvm.Cond.selects "SlopeJudge" ({ cls := "SlopeJudge", name := "text", desc := "()I" } : Jvm.MethodName) ({ cls := "SlopeJudge", name := "text", desc := "()I" } : Jvm.MethodName)) ∈ sj_kw := sj_k2 205 rfl rfl
theorem kw_444 : (Jvm.Cond.instanceMethod ({ cls := "SlopeJudge", name := "text", desc := "()I" } : Jvm.MethodName)) ∈ sj_kw := sj_k2 204 rfl rfl
theorem kw_1586 : (Jvm.Cond.methodLink "SlopeJudgeLaw" (55 : Nat) ({ cls := "SlopeJudgeModel", name := "text", desc := "()I" } : Jvm.MethodName)) ∈ sj_kw := sj_k7 146 rfl rfl
theorem kw_1589 : (Jvm.Cond.code ({ cls := "SlopeJudgeModel", name := "text", desc := "()I" } : Jvm.MethodName) prog_11_method_107_code (2 : Nat) (Option.some Jvm.ClassFile.FieldType.int)) ∈ sj_kw := sj_k7 149 rfl rfl
theorem kw_1588 : (Jvm.Cond.selects "SlopeJudgeModel" ({ cls := "SlopeJudgeModel", name := "text", desc := "()I" } : Jvm.MethodName) ({ cls := "SlopeJudgeModel", name := "text", desc := "()I" } : Jvm.MethodName)) ∈ sj_kw := sj_k7 148 rfl rfl
theorem kw_1587 : (Jvm.Cond.instanceMethod ({ cls := "SlopeJudgeModel", name := "text", desc := "()I" } : Jvm.MethodName)) ∈ sj_kw := sj_k7 147 rfl rfl
theorem kw_591 : (Jvm.Cond.methodLink "SlopeJudgeLaw" (56 : Nat) ({ cls := "SlopeJudge", name := "fault", desc := "(I)I" } : Jvm.MethodName)) ∈ sj_kw := sj_k3 111 rfl rfl
theorem kw_594 : (Jvm.Cond.code ({ cls := "SlopeJudge", name := "fault", desc := "(I)I" } : Jvm.MethodName) prog_1_method_12_code (2 : Nat) (Option.some Jvm.ClassFile.FieldType.int)) ∈ sj_kw := sj_k3 114 rfl rfl
theorem kw_593 : (Jvm.Cond.selects "SlopeJudge" ({ cls := "SlopeJudge", name := "fault", desc := "(I)I" } : Jvm.MethodName) ({ cls := "SlopeJudge", name := "fault", desc := "(I)I" } : Jvm.MethodName)) ∈ sj_kw := sj_k3 113 rfl rfl
theorem kw_592 : (Jvm.Cond.instanceMethod ({ cls := "SlopeJudge", name := "fault", desc := "(I)I" } : Jvm.MethodName)) ∈ sj_kw := sj_k3 112 rfl rfl
theorem kw_1582 : (Jvm.Cond.methodLink "SlopeJudgeLaw" (60 : Nat) ({ cls := "SlopeJudgeModel", name := "fault", desc := "(I)I" } : Jvm.MethodName)) ∈ sj_kw := sj_k7 142 rfl rfl
theorem kw_1585 : (Jvm.Cond.code ({ cls := "SlopeJudgeModel", name := "fault", desc := "(I)I" } : Jvm.MethodName) prog_11_method_91_code (2 : Nat) (Option.some Jvm.ClassFile.FieldType.int)) ∈ sj_kw := sj_k7 145 rfl rfl
theorem kw_1584 : (Jvm.Cond.selects "SlopeJudgeModel" ({ cls := "SlopeJudgeModel", name := "fault", desc := "(I)I" } : Jvm.MethodName) ({ cls := "SlopeJudgeModel", name := "fault", desc := "(I)I" } : Jvm.MethodName)) ∈ sj_kw := sj_k7 144 rfl rfl
theorem kw_1583 : (Jvm.Cond.instanceMethod ({ cls := "SlopeJudgeModel", name := "fault", desc := "(I)I" } : Jvm.MethodName)) ∈ sj_kw := sj_k7 143 rfl rfl
theorem kw_625 : (Jvm.Cond.methodLink "SlopeJudgeLaw" (66 : Nat) ({ cls := "SlopeJudge", name := "point", desc := "(II)I" } : Jvm.MethodName)) ∈ sj_kw := sj_k3 145 rfl rfl
theorem kw_628 : (Jvm.Cond.code ({ cls := "SlopeJudge", name := "point", desc := "(II)I" } : Jvm.MethodName) prog_1_method_14_code (4 : Nat) (Option.some Jvm.ClassFile.FieldType.int)) ∈ sj_kw := sj_k3 148 rfl rfl
theorem kw_627 : (Jvm.Cond.selects "SlopeJudge" ({ cls := "SlopeJudge", name := "point", desc := "(II)I" } : Jvm.MethodName) ({ cls := "SlopeJudge", name := "point", desc := "(II)I" } : Jvm.MethodName)) ∈ sj_kw := sj_k3 147 rfl rfl
theorem kw_626 : (Jvm.Cond.instanceMethod ({ cls := "SlopeJudge", name := "point", desc := "(II)I" } : Jvm.MethodName)) ∈ sj_kw := sj_k3 146 rfl rfl
theorem kw_1367 : (Jvm.Cond.methodLink "SlopeJudgeLaw" (69 : Nat) ({ cls := "SlopeJudgeModel", name := "point", desc := "(II)I" } : Jvm.MethodName)) ∈ sj_kw := sj_k6 167 rfl rfl
theorem kw_1370 : (Jvm.Cond.code ({ cls := "SlopeJudgeModel", name := "point", desc := "(II)I" } : Jvm.MethodName) prog_11_method_41_code (4 : Nat) (Option.some Jvm.ClassFile.FieldType.int)) ∈ sj_kw := sj_k6 170 rfl rfl
theorem kw_1369 : (Jvm.Cond.selects "SlopeJudgeModel" ({ cls := "SlopeJudgeModel", name := "point", desc := "(II)I" } : Jvm.MethodName) ({ cls := "SlopeJudgeModel", name := "point", desc := "(II)I" } : Jvm.MethodName)) ∈ sj_kw := sj_k6 169 rfl rfl
theorem kw_1368 : (Jvm.Cond.instanceMethod ({ cls := "SlopeJudgeModel", name := "point", desc := "(II)I" } : Jvm.MethodName)) ∈ sj_kw := sj_k6 168 rfl rfl
theorem kw_779 : (Jvm.Cond.methodLink "SlopeJudgeLaw" (80 : Nat) ({ cls := "SlopeJudge", name := "undo", desc := "()I" } : Jvm.MethodName)) ∈ sj_kw := sj_k4 59 rfl rfl
theorem kw_782 : (Jvm.Cond.code ({ cls := "SlopeJudge", name := "undo", desc := "()I" } : Jvm.MethodName) prog_1_method_20_code (1 : Nat) (Option.some Jvm.ClassFile.FieldType.int)) ∈ sj_kw := sj_k4 62 rfl rfl
theorem kw_781 : (Jvm.Cond.selects "SlopeJudge" ({ cls := "SlopeJudge", name := "undo", desc := "()I" } : Jvm.MethodName) ({ cls := "SlopeJudge", name := "undo", desc := "()I" } : Jvm.MethodName)) ∈ sj_kw := sj_k4 61 rfl rfl
theorem kw_780 : (Jvm.Cond.instanceMethod ({ cls := "SlopeJudge", name := "undo", desc := "()I" } : Jvm.MethodName)) ∈ sj_kw := sj_k4 60 rfl rfl
theorem kw_1214 : (Jvm.Cond.methodLink "SlopeJudgeLaw" (83 : Nat) ({ cls := "SlopeJudgeModel", name := "undo", desc := "()I" } : Jvm.MethodName)) ∈ sj_kw := sj_k6 14 rfl rfl
theorem kw_1217 : (Jvm.Cond.code ({ cls := "SlopeJudgeModel", name := "undo", desc := "()I" } : Jvm.MethodName) prog_11_method_9_code (2 : Nat) (Option.some Jvm.ClassFile.FieldType.int)) ∈ sj_kw := sj_k6 17 rfl rfl
theorem kw_1216 : (Jvm.Cond.selects "SlopeJudgeModel" ({ cls := "SlopeJudgeModel", name := "undo", desc := "()I" } : Jvm.MethodName) ({ cls := "SlopeJudgeModel", name := "undo", desc := "()I" } : Jvm.MethodName)) ∈ sj_kw := sj_k6 16 rfl rfl
theorem kw_1215 : (Jvm.Cond.instanceMethod ({ cls := "SlopeJudgeModel", name := "undo", desc := "()I" } : Jvm.MethodName)) ∈ sj_kw := sj_k6 15 rfl rfl
theorem kw_792 : (Jvm.Cond.methodLink "SlopeJudgeLaw" (84 : Nat) ({ cls := "SlopeJudge", name := "column", desc := "(II)I" } : Jvm.MethodName)) ∈ sj_kw := sj_k4 72 rfl rfl
theorem kw_795 : (Jvm.Cond.code ({ cls := "SlopeJudge", name := "column", desc := "(II)I" } : Jvm.MethodName) prog_1_method_22_code (3 : Nat) (Option.some Jvm.ClassFile.FieldType.int)) ∈ sj_kw := sj_k4 75 rfl rfl
theorem kw_794 : (Jvm.Cond.selects "SlopeJudge" ({ cls := "SlopeJudge", name := "column", desc := "(II)I" } : Jvm.MethodName) ({ cls := "SlopeJudge", name := "column", desc := "(II)I" } : Jvm.MethodName)) ∈ sj_kw := sj_k4 74 rfl rfl
theorem kw_793 : (Jvm.Cond.instanceMethod ({ cls := "SlopeJudge", name := "column", desc := "(II)I" } : Jvm.MethodName)) ∈ sj_kw := sj_k4 73 rfl rfl
theorem kw_1655 : (Jvm.Cond.methodLink "SlopeJudgeLaw" (87 : Nat) ({ cls := "SlopeJudgeModel", name := "column", desc := "(II)I" } : Jvm.MethodName)) ∈ sj_kw := sj_k7 215 rfl rfl
theorem kw_1658 : (Jvm.Cond.code ({ cls := "SlopeJudgeModel", name := "column", desc := "(II)I" } : Jvm.MethodName) prog_11_method_108_code (3 : Nat) (Option.some Jvm.ClassFile.FieldType.int)) ∈ sj_kw := sj_k7 218 rfl rfl
theorem kw_1657 : (Jvm.Cond.selects "SlopeJudgeModel" ({ cls := "SlopeJudgeModel", name := "column", desc := "(II)I" } : Jvm.MethodName) ({ cls := "SlopeJudgeModel", name := "column", desc := "(II)I" } : Jvm.MethodName)) ∈ sj_kw := sj_k7 217 rfl rfl
theorem kw_1656 : (Jvm.Cond.instanceMethod ({ cls := "SlopeJudgeModel", name := "column", desc := "(II)I" } : Jvm.MethodName)) ∈ sj_kw := sj_k7 216 rfl rfl
theorem kw_806 : (Jvm.Cond.methodLink "SlopeJudgeLaw" (88 : Nat) ({ cls := "SlopeJudge", name := "laye\x72", desc := "(II)I" } : Jvm.MethodName)) ∈ sj_kw := sj_k4 86 rfl rfl
theorem kw_809 : (Jvm.Cond.code ({ cls := "SlopeJudge", name := "laye\x72", desc := "(II)I" } : Jvm.MethodName) prog_1_method_23_code (3 : Nat) (Option.some Jvm.ClassFile.FieldType.int)) ∈ sj_kw := sj_k4 89 rfl rfl
theorem kw_808 : (Jvm.Cond.selects "SlopeJudge" ({ cls := "SlopeJudge", name := "laye\x72", desc := "(II)I" } : Jvm.MethodName) ({ cls := "SlopeJudge", name := "laye\x72", desc := "(II)I" } : Jvm.MethodName)) ∈ sj_kw := sj_k4 88 rfl rfl
theorem kw_807 : (Jvm.Cond.instanceMethod ({ cls := "SlopeJudge", name := "laye\x72", desc := "(II)I" } : Jvm.MethodName)) ∈ sj_kw := sj_k4 87 rfl rfl
theorem kw_1659 : (Jvm.Cond.methodLink "SlopeJudgeLaw" (91 : Nat) ({ cls := "SlopeJudgeModel", name := "laye\x72", desc := "(II)I" } : Jvm.MethodName)) ∈ sj_kw := sj_k7 219 rfl rfl
theorem kw_1662 : (Jvm.Cond.code ({ cls := "SlopeJudgeModel", name := "laye\x72", desc := "(II)I" } : Jvm.MethodName) prog_11_method_109_code (3 : Nat) (Option.some Jvm.ClassFile.FieldType.int)) ∈ sj_kw := sj_k7 222 rfl rfl
theorem kw_1661 : (Jvm.Cond.selects "SlopeJudgeModel" ({ cls := "SlopeJudgeModel", name := "laye\x72", desc := "(II)I" } : Jvm.MethodName) ({ cls := "SlopeJudgeModel", name := "laye\x72", desc := "(II)I" } : Jvm.MethodName)) ∈ sj_kw := sj_k7 221 rfl rfl
theorem kw_1660 : (Jvm.Cond.instanceMethod ({ cls := "SlopeJudgeModel", name := "laye\x72", desc := "(II)I" } : Jvm.MethodName)) ∈ sj_kw := sj_k7 220 rfl rfl
theorem kw_810 : (Jvm.Cond.methodLink "SlopeJudgeLaw" (92 : Nat) ({ cls := "SlopeJudge", name := "anchored", desc := "(II)I" } : Jvm.MethodName)) ∈ sj_kw := sj_k4 90 rfl rfl
theorem kw_813 : (Jvm.Cond.code ({ cls := "SlopeJudge", name := "anchored", desc := "(II)I" } : Jvm.MethodName) prog_1_method_24_code (3 : Nat) (Option.some Jvm.ClassFile.FieldType.int)) ∈ sj_kw := sj_k4 93 rfl rfl
theorem kw_812 : (Jvm.Cond.selects "SlopeJudge" ({ cls := "SlopeJudge", name := "anchored", desc := "(II)I" } : Jvm.MethodName) ({ cls := "SlopeJudge", name := "anchored", desc := "(II)I" } : Jvm.MethodName)) ∈ sj_kw := sj_k4 92 rfl rfl
theorem kw_811 : (Jvm.Cond.instanceMethod ({ cls := "SlopeJudge", name := "anchored", desc := "(II)I" } : Jvm.MethodName)) ∈ sj_kw := sj_k4 91 rfl rfl
theorem kw_1663 : (Jvm.Cond.methodLink "SlopeJudgeLaw" (95 : Nat) ({ cls := "SlopeJudgeModel", name := "anchored", desc := "(II)I" } : Jvm.MethodName)) ∈ sj_kw := sj_k7 223 rfl rfl
theorem kw_1666 : (Jvm.Cond.code ({ cls := "SlopeJudgeModel", name := "anchored", desc := "(II)I" } : Jvm.MethodName) prog_11_method_111_code (3 : Nat) (Option.some Jvm.ClassFile.FieldType.int)) ∈ sj_kw := sj_k7 226 rfl rfl
theorem kw_1665 : (Jvm.Cond.selects "SlopeJudgeModel" ({ cls := "SlopeJudgeModel", name := "anchored", desc := "(II)I" } : Jvm.MethodName) ({ cls := "SlopeJudgeModel", name := "anchored", desc := "(II)I" } : Jvm.MethodName)) ∈ sj_kw := sj_k7 225 rfl rfl
theorem kw_1664 : (Jvm.Cond.instanceMethod ({ cls := "SlopeJudgeModel", name := "anchored", desc := "(II)I" } : Jvm.MethodName)) ∈ sj_kw := sj_k7 224 rfl rfl
theorem kw_834 : (Jvm.Cond.methodLink "SlopeJudgeLaw" (96 : Nat) ({ cls := "SlopeJudge", name := "slice", desc := "(II)J" } : Jvm.MethodName)) ∈ sj_kw := sj_k4 114 rfl rfl
theorem kw_837 : (Jvm.Cond.code ({ cls := "SlopeJudge", name := "slice", desc := "(II)J" } : Jvm.MethodName) prog_1_method_28_code (3 : Nat) (Option.some Jvm.ClassFile.FieldType.long)) ∈ sj_kw := sj_k4 117 rfl rfl
theorem kw_836 : (Jvm.Cond.selects "SlopeJudge" ({ cls := "SlopeJudge", name := "slice", desc := "(II)J" } : Jvm.MethodName) ({ cls := "SlopeJudge", name := "slice", desc := "(II)J" } : Jvm.MethodName)) ∈ sj_kw := sj_k4 116 rfl rfl
theorem kw_835 : (Jvm.Cond.instanceMethod ({ cls := "SlopeJudge", name := "slice", desc := "(II)J" } : Jvm.MethodName)) ∈ sj_kw := sj_k4 115 rfl rfl
theorem kw_1428 : (Jvm.Cond.methodLink "SlopeJudgeLaw" (100 : Nat) ({ cls := "SlopeJudgeModel", name := "slice", desc := "(II)J" } : Jvm.MethodName)) ∈ sj_kw := sj_k6 228 rfl rfl
theorem kw_1431 : (Jvm.Cond.code ({ cls := "SlopeJudgeModel", name := "slice", desc := "(II)J" } : Jvm.MethodName) prog_11_method_56_code (3 : Nat) (Option.some Jvm.ClassFile.FieldType.long)) ∈ sj_kw := sj_k6 231 rfl rfl
theorem kw_1430 : (Jvm.Cond.selects "SlopeJudgeModel" ({ cls := "SlopeJudgeModel", name := "slice", desc := "(II)J" } : Jvm.MethodName) ({ cls := "SlopeJudgeModel", name := "slice", desc := "(II)J" } : Jvm.MethodName)) ∈ sj_kw := sj_k6 230 rfl rfl
theorem kw_1429 : (Jvm.Cond.instanceMethod ({ cls := "SlopeJudgeModel", name := "slice", desc := "(II)J" } : Jvm.MethodName)) ∈ sj_kw := sj_k6 229 rfl rfl
theorem kw_874 : (Jvm.Cond.methodLink "SlopeJudgeLaw" (101 : Nat) ({ cls := "SlopeJudge", name := "rubs", desc := "(II)J" } : Jvm.MethodName)) ∈ sj_kw := sj_k4 154 rfl rfl
theorem kw_877 : (Jvm.Cond.code ({ cls := "SlopeJudge", name := "rubs", desc := "(II)J" } : Jvm.MethodName) prog_1_method_29_code (3 : Nat) (Option.some Jvm.ClassFile.FieldType.long)) ∈ sj_kw := sj_k4 157 rfl rfl
theorem kw_876 : (Jvm.Cond.selects "SlopeJudge" ({ cls := "SlopeJudge", name := "rubs", desc := "(II)J" } : Jvm.MethodName) ({ cls := "SlopeJudge", name := "rubs", desc := "(II)J" } : Jvm.MethodName)) ∈ sj_kw := sj_k4 156 rfl rfl
theorem kw_875 : (Jvm.Cond.instanceMethod ({ cls := "SlopeJudge", name := "rubs", desc := "(II)J" } : Jvm.MethodName)) ∈ sj_kw := sj_k4 155 rfl rfl
theorem kw_1441 : (Jvm.Cond.methodLink "SlopeJudgeLaw" (104 : Nat) ({ cls := "SlopeJudgeModel", name := "rubs", desc := "(II)J" } : Jvm.MethodName)) ∈ sj_kw := sj_k7 1 rfl rfl
theorem kw_1444 : (Jvm.Cond.code ({ cls := "SlopeJudgeModel", name := "rubs", desc := "(II)J" } : Jvm.MethodName) prog_11_method_58_code (3 : Nat) (Option.some Jvm.ClassFile.FieldType.long)) ∈ sj_kw := sj_k7 4 rfl rfl
theorem kw_1443 : (Jvm.Cond.selects "SlopeJudgeModel" ({ cls := "SlopeJudgeModel", name := "rubs", desc := "(II)J" } : Jvm.MethodName) ({ cls := "SlopeJudgeModel", name := "rubs", desc := "(II)J" } : Jvm.MethodName)) ∈ sj_kw := sj_k7 3 rfl rfl
theorem kw_1442 : (Jvm.Cond.instanceMethod ({ cls := "SlopeJudgeModel", name := "rubs", desc := "(II)J" } : Jvm.MethodName)) ∈ sj_kw := sj_k7 2 rfl rfl
theorem kw_887 : (Jvm.Cond.methodLink "SlopeJudgeLaw" (105 : Nat) ({ cls := "SlopeJudge", name := "stands", desc := "(I)I" } : Jvm.MethodName)) ∈ sj_kw := sj_k4 167 rfl rfl
theorem kw_890 : (Jvm.Cond.code ({ cls := "SlopeJudge", name := "stands", desc := "(I)I" } : Jvm.MethodName) prog_1_method_30_code (2 : Nat) (Option.some Jvm.ClassFile.FieldType.int)) ∈ sj_kw := sj_k4 170 rfl rfl
theorem kw_889 : (Jvm.Cond.selects "SlopeJudge" ({ cls := "SlopeJudge", name := "stands", desc := "(I)I" } : Jvm.MethodName) ({ cls := "SlopeJudge", name := "stands", desc := "(I)I" } : Jvm.MethodName)) ∈ sj_kw := sj_k4 169 rfl rfl
theorem kw_888 : (Jvm.Cond.instanceMethod ({ cls := "SlopeJudge", name := "stands", desc := "(I)I" } : Jvm.MethodName)) ∈ sj_kw := sj_k4 168 rfl rfl
theorem kw_1450 : (Jvm.Cond.methodLink "SlopeJudgeLaw" (108 : Nat) ({ cls := "SlopeJudgeModel", name := "stands", desc := "(I)I" } : Jvm.MethodName)) ∈ sj_kw := sj_k7 10 rfl rfl
theorem kw_1453 : (Jvm.Cond.code ({ cls := "SlopeJudgeModel", name := "stands", desc := "(I)I" } : Jvm.MethodName) prog_11_method_59_code (2 : Nat) (Option.some Jvm.ClassFile.FieldType.int)) ∈ sj_kw := sj_k7 13 rfl rfl
theorem kw_1452 : (Jvm.Cond.selects "SlopeJudgeModel" ({ cls := "SlopeJudgeModel", name := "stands", desc := "(I)I" } : Jvm.MethodName) ({ cls := "SlopeJudgeModel", name := "stands", desc := "(I)I" } : Jvm.MethodName)) ∈ sj_kw := sj_k7 12 rfl rfl
theorem kw_1451 : (Jvm.Cond.instanceMethod ({ cls := "SlopeJudgeModel", name := "stands", desc := "(I)I" } : Jvm.MethodName)) ∈ sj_kw := sj_k7 11 rfl rfl
theorem kw_900 : (Jvm.Cond.methodLink "SlopeJudgeLaw" (109 : Nat) ({ cls := "SlopeJudge", name := "facto\x72", desc := "()I" } : Jvm.MethodName)) ∈ sj_kw := sj_k4 180 rfl rfl
theorem kw_903 : (Jvm.Cond.code ({ cls := "SlopeJudge", name := "facto\x72", desc := "()I" } : Jvm.MethodName) prog_1_method_31_code (1 : Nat) (Option.some Jvm.ClassFile.FieldType.int)) ∈ sj_kw := sj_k4 183 rfl rfl
theorem kw_902 : (Jvm.Cond.selects "SlopeJudge" ({ cls := "SlopeJudge", name := "facto\x72", desc := "()I" } : Jvm.MethodName) ({ cls := "SlopeJudge", name := "facto\x72", desc := "()I" } : Jvm.MethodName)) ∈ sj_kw := sj_k4 182 rfl rfl
theorem kw_901 : (Jvm.Cond.instanceMethod ({ cls := "SlopeJudge", name := "facto\x72", desc := "()I" } : Jvm.MethodName)) ∈ sj_kw := sj_k4 181 rfl rfl
theorem kw_1454 : (Jvm.Cond.methodLink "SlopeJudgeLaw" (112 : Nat) ({ cls := "SlopeJudgeModel", name := "facto\x72", desc := "()I" } : Jvm.MethodName)) ∈ sj_kw := sj_k7 14 rfl rfl
theorem kw_909 : (Jvm.Cond.methodLink "SlopeJudgeLaw" (113 : Nat) ({ cls := "SlopeJudge", name := "sum", desc := "(I)J" } : Jvm.MethodName)) ∈ sj_kw := sj_k4 189 rfl rfl
theorem kw_912 : (Jvm.Cond.code ({ cls := "SlopeJudge", name := "sum", desc := "(I)J" } : Jvm.MethodName) prog_1_method_32_code (2 : Nat) (Option.some Jvm.ClassFile.FieldType.long)) ∈ sj_kw := sj_k4 192 rfl rfl
theorem kw_911 : (Jvm.Cond.selects "SlopeJudge" ({ cls := "SlopeJudge", name := "sum", desc := "(I)J" } : Jvm.MethodName) ({ cls := "SlopeJudge", name := "sum", desc := "(I)J" } : Jvm.MethodName)) ∈ sj_kw := sj_k4 191 rfl rfl
theorem kw_910 : (Jvm.Cond.instanceMethod ({ cls := "SlopeJudge", name := "sum", desc := "(I)J" } : Jvm.MethodName)) ∈ sj_kw := sj_k4 190 rfl rfl
theorem kw_1458 : (Jvm.Cond.methodLink "SlopeJudgeLaw" (117 : Nat) ({ cls := "SlopeJudgeModel", name := "sum", desc := "(I)J" } : Jvm.MethodName)) ∈ sj_kw := sj_k7 18 rfl rfl
theorem kw_1461 : (Jvm.Cond.code ({ cls := "SlopeJudgeModel", name := "sum", desc := "(I)J" } : Jvm.MethodName) prog_11_method_61_code (5 : Nat) (Option.some Jvm.ClassFile.FieldType.long)) ∈ sj_kw := sj_k7 21 rfl rfl
theorem kw_1460 : (Jvm.Cond.selects "SlopeJudgeModel" ({ cls := "SlopeJudgeModel", name := "sum", desc := "(I)J" } : Jvm.MethodName) ({ cls := "SlopeJudgeModel", name := "sum", desc := "(I)J" } : Jvm.MethodName)) ∈ sj_kw := sj_k7 20 rfl rfl
theorem kw_1459 : (Jvm.Cond.instanceMethod ({ cls := "SlopeJudgeModel", name := "sum", desc := "(I)J" } : Jvm.MethodName)) ∈ sj_kw := sj_k7 19 rfl rfl
theorem kw_929 : (Jvm.Cond.methodLink "SlopeJudgeLaw" (118 : Nat) ({ cls := "SlopeJudge", name := "dry", desc := "()I" } : Jvm.MethodName)) ∈ sj_kw := sj_k4 209 rfl rfl
theorem kw_932 : (Jvm.Cond.code ({ cls := "SlopeJudge", name := "dry", desc := "()I" } : Jvm.MethodName) prog_1_method_33_code (1 : Nat) (Option.some Jvm.ClassFile.FieldType.int)) ∈ sj_kw := sj_k4 212 rfl rfl
theorem kw_931 : (Jvm.Cond.selects "SlopeJudge" ({ cls := "SlopeJudge", name := "dry", desc := "()I" } : Jvm.MethodName) ({ cls := "SlopeJudge", name := "dry", desc := "()I" } : Jvm.MethodName)) ∈ sj_kw := sj_k4 211 rfl rfl
theorem kw_930 : (Jvm.Cond.instanceMethod ({ cls := "SlopeJudge", name := "dry", desc := "()I" } : Jvm.MethodName)) ∈ sj_kw := sj_k4 210 rfl rfl
theorem kw_1479 : (Jvm.Cond.methodLink "SlopeJudgeLaw" (121 : Nat) ({ cls := "SlopeJudgeModel", name := "dry", desc := "()I" } : Jvm.MethodName)) ∈ sj_kw := sj_k7 39 rfl rfl
theorem kw_1482 : (Jvm.Cond.code ({ cls := "SlopeJudgeModel", name := "dry", desc := "()I" } : Jvm.MethodName) prog_11_method_68_code (2 : Nat) (Option.some Jvm.ClassFile.FieldType.int)) ∈ sj_kw := sj_k7 42 rfl rfl
theorem kw_1481 : (Jvm.Cond.selects "SlopeJudgeModel" ({ cls := "SlopeJudgeModel", name := "dry", desc := "()I" } : Jvm.MethodName) ({ cls := "SlopeJudgeModel", name := "dry", desc := "()I" } : Jvm.MethodName)) ∈ sj_kw := sj_k7 41 rfl rfl
theorem kw_1480 : (Jvm.Cond.instanceMethod ({ cls := "SlopeJudgeModel", name := "dry", desc := "()I" } : Jvm.MethodName)) ∈ sj_kw := sj_k7 40 rfl rfl
theorem kw_937 : (Jvm.Cond.methodLink "SlopeJudgeLaw" (122 : Nat) ({ cls := "SlopeJudge", name := "bears", desc := "(I)I" } : Jvm.MethodName)) ∈ sj_kw := sj_k4 217 rfl rfl
theorem kw_940 : (Jvm.Cond.code ({ cls := "SlopeJudge", name := "bears", desc := "(I)I" } : Jvm.MethodName) prog_1_method_34_code (4 : Nat) (Option.some Jvm.ClassFile.FieldType.int)) ∈ sj_kw := sj_k4 220 rfl rfl
theorem kw_939 : (Jvm.Cond.selects "SlopeJudge" ({ cls := "SlopeJudge", name := "bears", desc := "(I)I" } : Jvm.MethodName) ({ cls := "SlopeJudge", name := "bears", desc := "(I)I" } : Jvm.MethodName)) ∈ sj_kw := sj_k4 219 rfl rfl
theorem kw_938 : (Jvm.Cond.instanceMethod ({ cls := "SlopeJudge", name := "bears", desc := "(I)I" } : Jvm.MethodName)) ∈ sj_kw := sj_k4 218 rfl rfl
theorem kw_1491 : (Jvm.Cond.methodLink "SlopeJudgeLaw" (125 : Nat) ({ cls := "SlopeJudgeModel", name := "bears", desc := "(I)I" } : Jvm.MethodName)) ∈ sj_kw := sj_k7 51 rfl rfl
theorem kw_1494 : (Jvm.Cond.code ({ cls := "SlopeJudgeModel", name := "bears", desc := "(I)I" } : Jvm.MethodName) prog_11_method_69_code (4 : Nat) (Option.some Jvm.ClassFile.FieldType.int)) ∈ sj_kw := sj_k7 54 rfl rfl
theorem kw_1493 : (Jvm.Cond.selects "SlopeJudgeModel" ({ cls := "SlopeJudgeModel", name := "bears", desc := "(I)I" } : Jvm.MethodName) ({ cls := "SlopeJudgeModel", name := "bears", desc := "(I)I" } : Jvm.MethodName)) ∈ sj_kw := sj_k7 53 rfl rfl
theorem kw_1492 : (Jvm.Cond.instanceMethod ({ cls := "SlopeJudgeModel", name := "bears", desc := "(I)I" } : Jvm.MethodName)) ∈ sj_kw := sj_k7 52 rfl rfl
theorem kw_945 : (Jvm.Cond.methodLink "SlopeJudgeLaw" (126 : Nat) ({ cls := "SlopeJudge", name := "needs", desc := "(I)I" } : Jvm.MethodName)) ∈ sj_kw := sj_k4 225 rfl rfl
theorem kw_948 : (Jvm.Cond.code ({ cls := "SlopeJudge", name := "needs", desc := "(I)I" } : Jvm.MethodName) prog_1_method_35_code (6 : Nat) (Option.some Jvm.ClassFile.FieldType.int)) ∈ sj_kw := sj_k4 228 rfl rfl
theorem kw_947 : (Jvm.Cond.selects "SlopeJudge" ({ cls := "SlopeJudge", name := "needs", desc := "(I)I" } : Jvm.MethodName) ({ cls := "SlopeJudge", name := "needs", desc := "(I)I" } : Jvm.MethodName)) ∈ sj_kw := sj_k4 227 rfl rfl
theorem kw_946 : (Jvm.Cond.instanceMethod ({ cls := "SlopeJudge", name := "needs", desc := "(I)I" } : Jvm.MethodName)) ∈ sj_kw := sj_k4 226 rfl rfl
theorem kw_1495 : (Jvm.Cond.methodLink "SlopeJudgeLaw" (129 : Nat) ({ cls := "SlopeJudgeModel", name := "needs", desc := "(I)I" } : Jvm.MethodName)) ∈ sj_kw := sj_k7 55 rfl rfl
theorem kw_1498 : (Jvm.Cond.code ({ cls := "SlopeJudgeModel", name := "needs", desc := "(I)I" } : Jvm.MethodName) prog_11_method_70_code (4 : Nat) (Option.some Jvm.ClassFile.FieldType.int)) ∈ sj_kw := sj_k7 58 rfl rfl
theorem kw_1497 : (Jvm.Cond.selects "SlopeJudgeModel" ({ cls := "SlopeJudgeModel", name := "needs", desc := "(I)I" } : Jvm.MethodName) ({ cls := "SlopeJudgeModel", name := "needs", desc := "(I)I" } : Jvm.MethodName)) ∈ sj_kw := sj_k7 57 rfl rfl
theorem kw_1496 : (Jvm.Cond.instanceMethod ({ cls := "SlopeJudgeModel", name := "needs", desc := "(I)I" } : Jvm.MethodName)) ∈ sj_kw := sj_k7 56 rfl rfl
theorem kw_949 : (Jvm.Cond.methodLink "SlopeJudgeLaw" (130 : Nat) ({ cls := "SlopeJudge", name := "pull", desc := "(I)I" } : Jvm.MethodName)) ∈ sj_kw := sj_k4 229 rfl rfl
theorem kw_952 : (Jvm.Cond.code ({ cls := "SlopeJudge", name := "pull", desc := "(I)I" } : Jvm.MethodName) prog_1_method_36_code (8 : Nat) (Option.some Jvm.ClassFile.FieldType.int)) ∈ sj_kw := sj_k4 232 rfl rfl
theorem kw_951 : (Jvm.Cond.selects "SlopeJudge" ({ cls := "SlopeJudge", name := "pull", desc := "(I)I" } : Jvm.MethodName) ({ cls := "SlopeJudge", name := "pull", desc := "(I)I" } : Jvm.MethodName)) ∈ sj_kw := sj_k4 231 rfl rfl
theorem kw_950 : (Jvm.Cond.instanceMethod ({ cls := "SlopeJudge", name := "pull", desc := "(I)I" } : Jvm.MethodName)) ∈ sj_kw := sj_k4 230 rfl rfl
theorem kw_1523 : (Jvm.Cond.methodLink "SlopeJudgeLaw" (133 : Nat) ({ cls := "SlopeJudgeModel", name := "pull", desc := "(I)I" } : Jvm.MethodName)) ∈ sj_kw := sj_k7 83 rfl rfl
theorem kw_1526 : (Jvm.Cond.code ({ cls := "SlopeJudgeModel", name := "pull", desc := "(I)I" } : Jvm.MethodName) prog_11_method_77_code (5 : Nat) (Option.some Jvm.ClassFile.FieldType.int)) ∈ sj_kw := sj_k7 86 rfl rfl
theorem kw_1525 : (Jvm.Cond.selects "SlopeJudgeModel" ({ cls := "SlopeJudgeModel", name := "pull", desc := "(I)I" } : Jvm.MethodName) ({ cls := "SlopeJudgeModel", name := "pull", desc := "(I)I" } : Jvm.MethodName)) ∈ sj_kw := sj_k7 85 rfl rfl
theorem kw_1524 : (Jvm.Cond.instanceMethod ({ cls := "SlopeJudgeModel", name := "pull", desc := "(I)I" } : Jvm.MethodName)) ∈ sj_kw := sj_k7 84 rfl rfl
theorem kw_766 : (Jvm.Cond.methodLink "SlopeJudgeLaw" (153 : Nat) ({ cls := "SlopeJudge", name := "mirro\x72", desc := "()Z" } : Jvm.MethodName)) ∈ sj_kw := sj_k4 46 rfl rfl
theorem kw_769 : (Jvm.Cond.code ({ cls := "SlopeJudge", name := "mirro\x72", desc := "()Z" } : Jvm.MethodName) prog_1_method_18_code (1 : Nat) (Option.some Jvm.ClassFile.FieldType.boolean)) ∈ sj_kw := sj_k4 49 rfl rfl
theorem kw_768 : (Jvm.Cond.selects "SlopeJudge" ({ cls := "SlopeJudge", name := "mirro\x72", desc := "()Z" } : Jvm.MethodName) ({ cls := "SlopeJudge", name := "mirro\x72", desc := "()Z" } : Jvm.MethodName)) ∈ sj_kw := sj_k4 48 rfl rfl
theorem kw_767 : (Jvm.Cond.instanceMethod ({ cls := "SlopeJudge", name := "mirro\x72", desc := "()Z" } : Jvm.MethodName)) ∈ sj_kw := sj_k4 47 rfl rfl
theorem kw_1251 : (Jvm.Cond.methodLink "SlopeJudgeLaw" (157 : Nat) ({ cls := "SlopeJudgeModel", name := "mirro\x72", desc := "()Z" } : Jvm.MethodName)) ∈ sj_kw := sj_k6 51 rfl rfl
theorem kw_1254 : (Jvm.Cond.code ({ cls := "SlopeJudgeModel", name := "mirro\x72", desc := "()Z" } : Jvm.MethodName) prog_11_method_15_code (2 : Nat) (Option.some Jvm.ClassFile.FieldType.boolean)) ∈ sj_kw := sj_k6 54 rfl rfl
theorem kw_1253 : (Jvm.Cond.selects "SlopeJudgeModel" ({ cls := "SlopeJudgeModel", name := "mirro\x72", desc := "()Z" } : Jvm.MethodName) ({ cls := "SlopeJudgeModel", name := "mirro\x72", desc := "()Z" } : Jvm.MethodName)) ∈ sj_kw := sj_k6 53 rfl rfl
theorem kw_1252 : (Jvm.Cond.instanceMethod ({ cls := "SlopeJudgeModel", name := "mirro\x72", desc := "()Z" } : Jvm.MethodName)) ∈ sj_kw := sj_k6 52 rfl rfl
theorem kw_956 : (Jvm.Cond.methodLink "SlopeJudgeLaw" (158 : Nat) ({ cls := "SlopeJudge", name := "berm", desc := "(III)I" } : Jvm.MethodName)) ∈ sj_kw := sj_k4 236 rfl rfl
theorem kw_959 : (Jvm.Cond.code ({ cls := "SlopeJudge", name := "berm", desc := "(III)I" } : Jvm.MethodName) prog_1_method_37_code (5 : Nat) (Option.some Jvm.ClassFile.FieldType.int)) ∈ sj_kw := sj_k4 239 rfl rfl
theorem kw_958 : (Jvm.Cond.selects "SlopeJudge" ({ cls := "SlopeJudge", name := "berm", desc := "(III)I" } : Jvm.MethodName) ({ cls := "SlopeJudge", name := "berm", desc := "(III)I" } : Jvm.MethodName)) ∈ sj_kw := sj_k4 238 rfl rfl
theorem kw_957 : (Jvm.Cond.instanceMethod ({ cls := "SlopeJudge", name := "berm", desc := "(III)I" } : Jvm.MethodName)) ∈ sj_kw := sj_k4 237 rfl rfl
theorem kw_1499 : (Jvm.Cond.methodLink "SlopeJudgeLaw" (162 : Nat) ({ cls := "SlopeJudgeModel", name := "berm", desc := "(III)I" } : Jvm.MethodName)) ∈ sj_kw := sj_k7 59 rfl rfl
theorem kw_1502 : (Jvm.Cond.code ({ cls := "SlopeJudgeModel", name := "berm", desc := "(III)I" } : Jvm.MethodName) prog_11_method_71_code (6 : Nat) (Option.some Jvm.ClassFile.FieldType.int)) ∈ sj_kw := sj_k7 62 rfl rfl
theorem kw_1501 : (Jvm.Cond.selects "SlopeJudgeModel" ({ cls := "SlopeJudgeModel", name := "berm", desc := "(III)I" } : Jvm.MethodName) ({ cls := "SlopeJudgeModel", name := "berm", desc := "(III)I" } : Jvm.MethodName)) ∈ sj_kw := sj_k7 61 rfl rfl
theorem kw_1500 : (Jvm.Cond.instanceMethod ({ cls := "SlopeJudgeModel", name := "berm", desc := "(III)I" } : Jvm.MethodName)) ∈ sj_kw := sj_k7 60 rfl rfl
theorem kw_964 : (Jvm.Cond.methodLink "SlopeJudgeLaw" (163 : Nat) ({ cls := "SlopeJudge", name := "shape", desc := "(I)I" } : Jvm.MethodName)) ∈ sj_kw := sj_k5 4 rfl rfl
theorem kw_967 : (Jvm.Cond.code ({ cls := "SlopeJudge", name := "shape", desc := "(I)I" } : Jvm.MethodName) prog_1_method_38_code (2 : Nat) (Option.some Jvm.ClassFile.FieldType.int)) ∈ sj_kw := sj_k5 7 rfl rfl
theorem kw_966 : (Jvm.Cond.selects "SlopeJudge" ({ cls := "SlopeJudge", name := "shape", desc := "(I)I" } : Jvm.MethodName) ({ cls := "SlopeJudge", name := "shape", desc := "(I)I" } : Jvm.MethodName)) ∈ sj_kw := sj_k5 6 rfl rfl
theorem kw_965 : (Jvm.Cond.instanceMethod ({ cls := "SlopeJudge", name := "shape", desc := "(I)I" } : Jvm.MethodName)) ∈ sj_kw := sj_k5 5 rfl rfl
theorem kw_1503 : (Jvm.Cond.methodLink "SlopeJudgeLaw" (166 : Nat) ({ cls := "SlopeJudgeModel", name := "shape", desc := "(I)I" } : Jvm.MethodName)) ∈ sj_kw := sj_k7 63 rfl rfl
theorem kw_1506 : (Jvm.Cond.code ({ cls := "SlopeJudgeModel", name := "shape", desc := "(I)I" } : Jvm.MethodName) prog_11_method_76_code (2 : Nat) (Option.some Jvm.ClassFile.FieldType.int)) ∈ sj_kw := sj_k7 66 rfl rfl
theorem kw_1505 : (Jvm.Cond.selects "SlopeJudgeModel" ({ cls := "SlopeJudgeModel", name := "shape", desc := "(I)I" } : Jvm.MethodName) ({ cls := "SlopeJudgeModel", name := "shape", desc := "(I)I" } : Jvm.MethodName)) ∈ sj_kw := sj_k7 65 rfl rfl
theorem kw_1504 : (Jvm.Cond.instanceMethod ({ cls := "SlopeJudgeModel", name := "shape", desc := "(I)I" } : Jvm.MethodName)) ∈ sj_kw := sj_k7 64 rfl rfl
theorem kw_994 : (Jvm.Cond.methodLink "SlopeJudgeLaw" (167 : Nat) ({ cls := "SlopeJudge", name := "thrust", desc := "(II)J" } : Jvm.MethodName)) ∈ sj_kw := sj_k5 34 rfl rfl
theorem kw_997 : (Jvm.Cond.code ({ cls := "SlopeJudge", name := "thrust", desc := "(II)J" } : Jvm.MethodName) prog_1_method_39_code (6 : Nat) (Option.some Jvm.ClassFile.FieldType.long)) ∈ sj_kw := sj_k5 37 rfl rfl
theorem kw_996 : (Jvm.Cond.selects "SlopeJudge" ({ cls := "SlopeJudge", name := "thrust", desc := "(II)J" } : Jvm.MethodName) ({ cls := "SlopeJudge", name := "thrust", desc := "(II)J" } : Jvm.MethodName)) ∈ sj_kw := sj_k5 36 rfl rfl
theorem kw_995 : (Jvm.Cond.instanceMethod ({ cls := "SlopeJudge", name := "thrust", desc := "(II)J" } : Jvm.MethodName)) ∈ sj_kw := sj_k5 35 rfl rfl
theorem kw_1462 : (Jvm.Cond.methodLink "SlopeJudgeLaw" (170 : Nat) ({ cls := "SlopeJudgeModel", name := "thrust", desc := "(II)J" } : Jvm.MethodName)) ∈ sj_kw := sj_k7 22 rfl rfl
theorem kw_1465 : (Jvm.Cond.code ({ cls := "SlopeJudgeModel", name := "thrust", desc := "(II)J" } : Jvm.MethodName) prog_11_method_64_code (3 : Nat) (Option.some Jvm.ClassFile.FieldType.long)) ∈ sj_kw := sj_k7 25 rfl rfl
theorem kw_1464 : (Jvm.Cond.selects "SlopeJudgeModel" ({ cls := "SlopeJudgeModel", name := "thrust", desc := "(II)J" } : Jvm.MethodName) ({ cls := "SlopeJudgeModel", name := "thrust", desc := "(II)J" } : Jvm.MethodName)) ∈ sj_kw := sj_k7 24 rfl rfl
theorem kw_1463 : (Jvm.Cond.instanceMethod ({ cls := "SlopeJudgeModel", name := "thrust", desc := "(II)J" } : Jvm.MethodName)) ∈ sj_kw := sj_k7 23 rfl rfl
theorem kw_1011 : (Jvm.Cond.methodLink "SlopeJudgeLaw" (171 : Nat) ({ cls := "SlopeJudge", name := "crest", desc := "(I)I" } : Jvm.MethodName)) ∈ sj_kw := sj_k5 51 rfl rfl
theorem kw_1014 : (Jvm.Cond.code ({ cls := "SlopeJudge", name := "crest", desc := "(I)I" } : Jvm.MethodName) prog_1_method_40_code (8 : Nat) (Option.some Jvm.ClassFile.FieldType.int)) ∈ sj_kw := sj_k5 54 rfl rfl
theorem kw_1013 : (Jvm.Cond.selects "SlopeJudge" ({ cls := "SlopeJudge", name := "crest", desc := "(I)I" } : Jvm.MethodName) ({ cls := "SlopeJudge", name := "crest", desc := "(I)I" } : Jvm.MethodName)) ∈ sj_kw := sj_k5 53 rfl rfl
theorem kw_1012 : (Jvm.Cond.instanceMethod ({ cls := "SlopeJudge", name := "crest", desc := "(I)I" } : Jvm.MethodName)) ∈ sj_kw := sj_k5 52 rfl rfl
theorem kw_1475 : (Jvm.Cond.methodLink "SlopeJudgeLaw" (174 : Nat) ({ cls := "SlopeJudgeModel", name := "crest", desc := "(I)I" } : Jvm.MethodName)) ∈ sj_kw := sj_k7 35 rfl rfl
theorem kw_1478 : (Jvm.Cond.code ({ cls := "SlopeJudgeModel", name := "crest", desc := "(I)I" } : Jvm.MethodName) prog_11_method_65_code (4 : Nat) (Option.some Jvm.ClassFile.FieldType.int)) ∈ sj_kw := sj_k7 38 rfl rfl
theorem kw_1477 : (Jvm.Cond.selects "SlopeJudgeModel" ({ cls := "SlopeJudgeModel", name := "crest", desc := "(I)I" } : Jvm.MethodName) ({ cls := "SlopeJudgeModel", name := "crest", desc := "(I)I" } : Jvm.MethodName)) ∈ sj_kw := sj_k7 37 rfl rfl
theorem kw_1476 : (Jvm.Cond.instanceMethod ({ cls := "SlopeJudgeModel", name := "crest", desc := "(I)I" } : Jvm.MethodName)) ∈ sj_kw := sj_k7 36 rfl rfl
theorem kw_1061 : (Jvm.Cond.methodLink "SlopeJudgeLaw" (184 : Nat) ({ cls := "SlopeJudge", name := "state", desc := "(I)I" } : Jvm.MethodName)) ∈ sj_kw := sj_k5 101 rfl rfl
theorem kw_1064 : (Jvm.Cond.code ({ cls := "SlopeJudge", name := "state", desc := "(I)I" } : Jvm.MethodName) prog_1_method_49_code (3 : Nat) (Option.some Jvm.ClassFile.FieldType.int)) ∈ sj_kw := sj_k5 104 rfl rfl
theorem kw_1063 : (Jvm.Cond.selects "SlopeJudge" ({ cls := "SlopeJudge", name := "state", desc := "(I)I" } : Jvm.MethodName) ({ cls := "SlopeJudge", name := "state", desc := "(I)I" } : Jvm.MethodName)) ∈ sj_kw := sj_k5 103 rfl rfl
theorem kw_1062 : (Jvm.Cond.instanceMethod ({ cls := "SlopeJudge", name := "state", desc := "(I)I" } : Jvm.MethodName)) ∈ sj_kw := sj_k5 102 rfl rfl
theorem kw_1539 : (Jvm.Cond.methodLink "SlopeJudgeLaw" (187 : Nat) ({ cls := "SlopeJudgeModel", name := "state", desc := "(I)I" } : Jvm.MethodName)) ∈ sj_kw := sj_k7 99 rfl rfl
theorem kw_1542 : (Jvm.Cond.code ({ cls := "SlopeJudgeModel", name := "state", desc := "(I)I" } : Jvm.MethodName) prog_11_method_81_code (3 : Nat) (Option.some Jvm.ClassFile.FieldType.int)) ∈ sj_kw := sj_k7 102 rfl rfl
theorem kw_1541 : (Jvm.Cond.selects "SlopeJudgeModel" ({ cls := "SlopeJudgeModel", name := "state", desc := "(I)I" } : Jvm.MethodName) ({ cls := "SlopeJudgeModel", name := "state", desc := "(I)I" } : Jvm.MethodName)) ∈ sj_kw := sj_k7 101 rfl rfl
theorem kw_1540 : (Jvm.Cond.instanceMethod ({ cls := "SlopeJudgeModel", name := "state", desc := "(I)I" } : Jvm.MethodName)) ∈ sj_kw := sj_k7 100 rfl rfl
theorem kw_1065 : (Jvm.Cond.methodLink "SlopeJudgeLaw" (188 : Nat) ({ cls := "SlopeJudge", name := "chance", desc := "(III)I" } : Jvm.MethodName)) ∈ sj_kw := sj_k5 105 rfl rfl
theorem kw_1068 : (Jvm.Cond.code ({ cls := "SlopeJudge", name := "chance", desc := "(III)I" } : Jvm.MethodName) prog_1_method_50_code (7 : Nat) (Option.some Jvm.ClassFile.FieldType.int)) ∈ sj_kw := sj_k5 108 rfl rfl
theorem kw_1067 : (Jvm.Cond.selects "SlopeJudge" ({ cls := "SlopeJudge", name := "chance", desc := "(III)I" } : Jvm.MethodName) ({ cls := "SlopeJudge", name := "chance", desc := "(III)I" } : Jvm.MethodName)) ∈ sj_kw := sj_k5 107 rfl rfl
theorem kw_1066 : (Jvm.Cond.instanceMethod ({ cls := "SlopeJudge", name := "chance", desc := "(III)I" } : Jvm.MethodName)) ∈ sj_kw := sj_k5 106 rfl rfl
theorem kw_1543 : (Jvm.Cond.methodLink "SlopeJudgeLaw" (191 : Nat) ({ cls := "SlopeJudgeModel", name := "chance", desc := "(III)I" } : Jvm.MethodName)) ∈ sj_kw := sj_k7 103 rfl rfl
theorem kw_1546 : (Jvm.Cond.code ({ cls := "SlopeJudgeModel", name := "chance", desc := "(III)I" } : Jvm.MethodName) prog_11_method_83_code (8 : Nat) (Option.some Jvm.ClassFile.FieldType.int)) ∈ sj_kw := sj_k7 106 rfl rfl
theorem kw_1545 : (Jvm.Cond.selects "SlopeJudgeModel" ({ cls := "SlopeJudgeModel", name := "chance", desc := "(III)I" } : Jvm.MethodName) ({ cls := "SlopeJudgeModel", name := "chance", desc := "(III)I" } : Jvm.MethodName)) ∈ sj_kw := sj_k7 105 rfl rfl
theorem kw_1544 : (Jvm.Cond.instanceMethod ({ cls := "SlopeJudgeModel", name := "chance", desc := "(III)I" } : Jvm.MethodName)) ∈ sj_kw := sj_k7 104 rfl rfl
theorem kw_1075 : (Jvm.Cond.methodLink "SlopeJudgeLaw" (192 : Nat) ({ cls := "SlopeJudge", name := "report", desc := "()I" } : Jvm.MethodName)) ∈ sj_kw := sj_k5 115 rfl rfl
theorem kw_1078 : (Jvm.Cond.code ({ cls := "SlopeJudge", name := "report", desc := "()I" } : Jvm.MethodName) prog_1_method_51_code (1 : Nat) (Option.some Jvm.ClassFile.FieldType.int)) ∈ sj_kw := sj_k5 118 rfl rfl
theorem kw_1077 : (Jvm.Cond.selects "SlopeJudge" ({ cls := "SlopeJudge", name := "report", desc := "()I" } : Jvm.MethodName) ({ cls := "SlopeJudge", name := "report", desc := "()I" } : Jvm.MethodName)) ∈ sj_kw := sj_k5 117 rfl rfl
theorem kw_1076 : (Jvm.Cond.instanceMethod ({ cls := "SlopeJudge", name := "report", desc := "()I" } : Jvm.MethodName)) ∈ sj_kw := sj_k5 116 rfl rfl
theorem kw_1553 : (Jvm.Cond.methodLink "SlopeJudgeLaw" (195 : Nat) ({ cls := "SlopeJudgeModel", name := "report", desc := "()I" } : Jvm.MethodName)) ∈ sj_kw := sj_k7 113 rfl rfl
theorem kw_1556 : (Jvm.Cond.code ({ cls := "SlopeJudgeModel", name := "report", desc := "()I" } : Jvm.MethodName) prog_11_method_86_code (2 : Nat) (Option.some Jvm.ClassFile.FieldType.int)) ∈ sj_kw := sj_k7 116 rfl rfl
theorem kw_1555 : (Jvm.Cond.selects "SlopeJudgeModel" ({ cls := "SlopeJudgeModel", name := "report", desc := "()I" } : Jvm.MethodName) ({ cls := "SlopeJudgeModel", name := "report", desc := "()I" } : Jvm.MethodName)) ∈ sj_kw := sj_k7 115 rfl rfl
theorem kw_1554 : (Jvm.Cond.instanceMethod ({ cls := "SlopeJudgeModel", name := "report", desc := "()I" } : Jvm.MethodName)) ∈ sj_kw := sj_k7 114 rfl rfl
theorem kw_1093 : (Jvm.Cond.methodLink "SlopeJudgeLaw" (196 : Nat) ({ cls := "SlopeJudge", name := "sign", desc := "(I)I" } : Jvm.MethodName)) ∈ sj_kw := sj_k5 133 rfl rfl
theorem kw_1096 : (Jvm.Cond.code ({ cls := "SlopeJudge", name := "sign", desc := "(I)I" } : Jvm.MethodName) prog_1_method_52_code (2 : Nat) (Option.some Jvm.ClassFile.FieldType.int)) ∈ sj_kw := sj_k5 136 rfl rfl
theorem kw_1095 : (Jvm.Cond.selects "SlopeJudge" ({ cls := "SlopeJudge", name := "sign", desc := "(I)I" } : Jvm.MethodName) ({ cls := "SlopeJudge", name := "sign", desc := "(I)I" } : Jvm.MethodName)) ∈ sj_kw := sj_k5 135 rfl rfl
theorem kw_1094 : (Jvm.Cond.instanceMethod ({ cls := "SlopeJudge", name := "sign", desc := "(I)I" } : Jvm.MethodName)) ∈ sj_kw := sj_k5 134 rfl rfl
theorem kw_1566 : (Jvm.Cond.methodLink "SlopeJudgeLaw" (199 : Nat) ({ cls := "SlopeJudgeModel", name := "sign", desc := "(I)I" } : Jvm.MethodName)) ∈ sj_kw := sj_k7 126 rfl rfl
theorem kw_1569 : (Jvm.Cond.code ({ cls := "SlopeJudgeModel", name := "sign", desc := "(I)I" } : Jvm.MethodName) prog_11_method_87_code (2 : Nat) (Option.some Jvm.ClassFile.FieldType.int)) ∈ sj_kw := sj_k7 129 rfl rfl
theorem kw_1568 : (Jvm.Cond.selects "SlopeJudgeModel" ({ cls := "SlopeJudgeModel", name := "sign", desc := "(I)I" } : Jvm.MethodName) ({ cls := "SlopeJudgeModel", name := "sign", desc := "(I)I" } : Jvm.MethodName)) ∈ sj_kw := sj_k7 128 rfl rfl
theorem kw_1567 : (Jvm.Cond.instanceMethod ({ cls := "SlopeJudgeModel", name := "sign", desc := "(I)I" } : Jvm.MethodName)) ∈ sj_kw := sj_k7 127 rfl rfl
theorem kw_818 : (Jvm.Cond.methodLink "SlopeJudgeLaw" (205 : Nat) ({ cls := "SlopeJudge", name := "look", desc := "(I)I" } : Jvm.MethodName)) ∈ sj_kw := sj_k4 98 rfl rfl
theorem kw_821 : (Jvm.Cond.code ({ cls := "SlopeJudge", name := "look", desc := "(I)I" } : Jvm.MethodName) prog_1_method_25_code (2 : Nat) (Option.some Jvm.ClassFile.FieldType.int)) ∈ sj_kw := sj_k4 101 rfl rfl
theorem kw_820 : (Jvm.Cond.selects "SlopeJudge" ({ cls := "SlopeJudge", name := "look", desc := "(I)I" } : Jvm.MethodName) ({ cls := "SlopeJudge", name := "look", desc := "(I)I" } : Jvm.MethodName)) ∈ sj_kw := sj_k4 100 rfl rfl
theorem kw_819 : (Jvm.Cond.instanceMethod ({ cls := "SlopeJudge", name := "look", desc := "(I)I" } : Jvm.MethodName)) ∈ sj_kw := sj_k4 99 rfl rfl
theorem kw_1675 : (Jvm.Cond.methodLink "SlopeJudgeLaw" (208 : Nat) ({ cls := "SlopeJudgeModel", name := "look", desc := "(I)I" } : Jvm.MethodName)) ∈ sj_kw := sj_k7 235 rfl rfl
theorem kw_1678 : (Jvm.Cond.code ({ cls := "SlopeJudgeModel", name := "look", desc := "(I)I" } : Jvm.MethodName) prog_11_method_116_code (2 : Nat) (Option.some Jvm.ClassFile.FieldType.int)) ∈ sj_kw := sj_k7 238 rfl rfl
theorem kw_1677 : (Jvm.Cond.selects "SlopeJudgeModel" ({ cls := "SlopeJudgeModel", name := "look", desc := "(I)I" } : Jvm.MethodName) ({ cls := "SlopeJudgeModel", name := "look", desc := "(I)I" } : Jvm.MethodName)) ∈ sj_kw := sj_k7 237 rfl rfl
theorem kw_1676 : (Jvm.Cond.instanceMethod ({ cls := "SlopeJudgeModel", name := "look", desc := "(I)I" } : Jvm.MethodName)) ∈ sj_kw := sj_k7 236 rfl rfl
theorem kw_18 : (Jvm.Cond.classLink "SlopeJudgeLaw" (7 : Nat) "SlopeJudge") ∈ sj_kw := sj_k1 18 rfl rfl
theorem kw_19 : (Jvm.Cond.instantiable "SlopeJudge" (15 : Nat)) ∈ sj_kw := sj_k1 19 rfl rfl
theorem kw_20 : (Jvm.Cond.methodLink "SlopeJudgeLaw" (9 : Nat) ({ cls := "SlopeJudge", name := "<init>", desc := "()V" } : Jvm.MethodName)) ∈ sj_kw := sj_k1 20 rfl rfl
theorem kw_22 : (Jvm.Cond.code ({ cls := "SlopeJudge", name := "<init>", desc := "()V" } : Jvm.MethodName) prog_1_method_1_code (2 : Nat) (Option.none : Option Jvm.ClassFile.FieldType)) ∈ sj_kw := sj_k1 22 rfl rfl
theorem kw_21 : (Jvm.Cond.instanceMethod ({ cls := "SlopeJudge", name := "<init>", desc := "()V" } : Jvm.MethodName)) ∈ sj_kw := sj_k1 21 rfl rfl
theorem kw_1097 : (Jvm.Cond.classLink "SlopeJudgeLaw" (10 : Nat) "SlopeJudgeModel") ∈ sj_kw := sj_k5 137 rfl rfl
theorem kw_1098 : (Jvm.Cond.instantiable "SlopeJudgeModel" (35 : Nat)) ∈ sj_kw := sj_k5 138 rfl rfl
theorem kw_1099 : (Jvm.Cond.methodLink "SlopeJudgeLaw" (12 : Nat) ({ cls := "SlopeJudgeModel", name := "<init>", desc := "()V" } : Jvm.MethodName)) ∈ sj_kw := sj_k5 139 rfl rfl
theorem kw_1101 : (Jvm.Cond.code ({ cls := "SlopeJudgeModel", name := "<init>", desc := "()V" } : Jvm.MethodName) prog_11_method_4_code (1 : Nat) (Option.none : Option Jvm.ClassFile.FieldType)) ∈ sj_kw := sj_k5 141 rfl rfl
theorem kw_1100 : (Jvm.Cond.instanceMethod ({ cls := "SlopeJudgeModel", name := "<init>", desc := "()V" } : Jvm.MethodName)) ∈ sj_kw := sj_k5 140 rfl rfl
theorem kw_480 : (Jvm.Cond.fieldLink "java/lang/String" (38 : Nat) "java/lang/String" "COMPACT_STRINGS" "Z") ∈ sj_kw := sj_k3 0 rfl rfl
theorem kw_496 : (Jvm.Cond.fieldLink "java/lang/String" (1053 : Nat) "jdk/internal/util/Preconditions" "SIOOBE_FORMATTER" "Ljava/util/function/BiFunction;") ∈ sj_kw := sj_k3 16 rfl rfl
theorem kw_1692 : (Jvm.Cond.fieldLink "java/lang/String" (15 : Nat) "java/lang/String" "code\x72" "B") ∈ sj_kw := sj_k8 12 rfl rfl
theorem kw_1691 : (Jvm.Cond.fieldLink "java/lang/String" (9 : Nat) "java/lang/String" "value" "[B") ∈ sj_kw := sj_k8 11 rfl rfl
theorem kw_479 : (Jvm.Cond.code ({ cls := "java/lang/String", name := "code\x72", desc := "()B" } : Jvm.MethodName) prog_13_method_152_code (1 : Nat) (Option.some Jvm.ClassFile.FieldType.byte)) ∈ sj_kw := sj_k2 239 rfl rfl
theorem kw_12 : (Jvm.Cond.initialized "java/lang/String") ∈ sj_kw := sj_k1 12 rfl rfl
theorem kw_476 : (Jvm.Cond.methodLink "java/lang/String" (335 : Nat) ({ cls := "java/lang/String", name := "code\x72", desc := "()B" } : Jvm.MethodName)) ∈ sj_kw := sj_k2 236 rfl rfl
theorem kw_489 : (Jvm.Cond.code ({ cls := "java/lang/String", name := "isLatin1", desc := "()Z" } : Jvm.MethodName) prog_13_method_154_code (1 : Nat) (Option.some Jvm.ClassFile.FieldType.boolean)) ∈ sj_kw := sj_k3 9 rfl rfl
theorem kw_486 : (Jvm.Cond.methodLink "java/lang/String" (492 : Nat) ({ cls := "java/lang/String", name := "isLatin1", desc := "()Z" } : Jvm.MethodName)) ∈ sj_kw := sj_k3 6 rfl rfl
theorem kw_492 : (Jvm.Cond.code ({ cls := "java/lang/StringLatin1", name := "charAt", desc := "([BI)C" } : Jvm.MethodName) prog_14_method_2_code (2 : Nat) (Option.some Jvm.ClassFile.FieldType.char)) ∈ sj_kw := sj_k3 12 rfl rfl
theorem kw_13 : (Jvm.Cond.initialized "java/lang/StringLatin1") ∈ sj_kw := sj_k1 13 rfl rfl
theorem kw_490 : (Jvm.Cond.methodLink "java/lang/String" (495 : Nat) ({ cls := "java/lang/StringLatin1", name := "charAt", desc := "([BI)C" } : Jvm.MethodName)) ∈ sj_kw := sj_k3 10 rfl rfl
theorem kw_500 : (Jvm.Cond.code ({ cls := "jdk/internal/util/Preconditions", name := "checkIndex", desc := "(IILjava/util/function/BiFunction;)I" } : Jvm.MethodName) prog_18_method_11_code (3 : Nat) (Option.some Jvm.ClassFile.FieldType.int)) ∈ sj_kw := sj_k3 20 rfl rfl
theorem kw_14 : (Jvm.Cond.initialized "jdk/internal/util/Preconditions") ∈ sj_kw := sj_k1 14 rfl rfl
theorem kw_498 : (Jvm.Cond.methodLink "java/lang/String" (1059 : Nat) ({ cls := "jdk/internal/util/Preconditions", name := "checkIndex", desc := "(IILjava/util/function/BiFunction;)I" } : Jvm.MethodName)) ∈ sj_kw := sj_k3 18 rfl rfl
theorem kw_495 : (Jvm.Cond.code ({ cls := "java/lang/String", name := "checkIndex", desc := "(II)V" } : Jvm.MethodName) prog_13_method_155_code (2 : Nat) (Option.none : Option Jvm.ClassFile.FieldType)) ∈ sj_kw := sj_k3 15 rfl rfl
theorem kw_493 : (Jvm.Cond.methodLink "java/lang/StringLatin1" (9 : Nat) ({ cls := "java/lang/String", name := "checkIndex", desc := "(II)V" } : Jvm.MethodName)) ∈ sj_kw := sj_k3 13 rfl rfl
theorem kw_477 : (Jvm.Cond.instanceMethod ({ cls := "java/lang/String", name := "code\x72", desc := "()B" } : Jvm.MethodName)) ∈ sj_kw := sj_k2 237 rfl rfl
theorem kw_478 : (Jvm.Cond.selects "java/lang/String" ({ cls := "java/lang/String", name := "code\x72", desc := "()B" } : Jvm.MethodName) ({ cls := "java/lang/String", name := "code\x72", desc := "()B" } : Jvm.MethodName)) ∈ sj_kw := sj_k2 238 rfl rfl
theorem kw_499 : (Jvm.Cond.static ({ cls := "jdk/internal/util/Preconditions", name := "checkIndex", desc := "(IILjava/util/function/BiFunction;)I" } : Jvm.MethodName)) ∈ sj_kw := sj_k3 19 rfl rfl
theorem kw_494 : (Jvm.Cond.static ({ cls := "java/lang/String", name := "checkIndex", desc := "(II)V" } : Jvm.MethodName)) ∈ sj_kw := sj_k3 14 rfl rfl
theorem kw_487 : (Jvm.Cond.instanceMethod ({ cls := "java/lang/String", name := "isLatin1", desc := "()Z" } : Jvm.MethodName)) ∈ sj_kw := sj_k3 7 rfl rfl
theorem kw_488 : (Jvm.Cond.selects "java/lang/String" ({ cls := "java/lang/String", name := "isLatin1", desc := "()Z" } : Jvm.MethodName) ({ cls := "java/lang/String", name := "isLatin1", desc := "()Z" } : Jvm.MethodName)) ∈ sj_kw := sj_k3 8 rfl rfl
theorem kw_491 : (Jvm.Cond.static ({ cls := "java/lang/StringLatin1", name := "charAt", desc := "([BI)C" } : Jvm.MethodName)) ∈ sj_kw := sj_k3 11 rfl rfl
theorem kw_475 : (Jvm.Cond.code ({ cls := "java/lang/String", name := "length", desc := "()I" } : Jvm.MethodName) prog_13_method_54_code (1 : Nat) (Option.some Jvm.ClassFile.FieldType.int)) ∈ sj_kw := sj_k2 235 rfl rfl
theorem kw_473 : (Jvm.Cond.instanceMethod ({ cls := "java/lang/String", name := "length", desc := "()I" } : Jvm.MethodName)) ∈ sj_kw := sj_k2 233 rfl rfl
theorem kw_474 : (Jvm.Cond.selects "java/lang/String" ({ cls := "java/lang/String", name := "length", desc := "()I" } : Jvm.MethodName) ({ cls := "java/lang/String", name := "length", desc := "()I" } : Jvm.MethodName)) ∈ sj_kw := sj_k2 234 rfl rfl
theorem kw_485 : (Jvm.Cond.code ({ cls := "java/lang/String", name := "charAt", desc := "(I)C" } : Jvm.MethodName) prog_13_method_56_code (2 : Nat) (Option.some Jvm.ClassFile.FieldType.char)) ∈ sj_kw := sj_k3 5 rfl rfl
theorem kw_483 : (Jvm.Cond.instanceMethod ({ cls := "java/lang/String", name := "charAt", desc := "(I)C" } : Jvm.MethodName)) ∈ sj_kw := sj_k3 3 rfl rfl
theorem kw_484 : (Jvm.Cond.selects "java/lang/String" ({ cls := "java/lang/String", name := "charAt", desc := "(I)C" } : Jvm.MethodName) ({ cls := "java/lang/String", name := "charAt", desc := "(I)C" } : Jvm.MethodName)) ∈ sj_kw := sj_k3 4 rfl rfl
