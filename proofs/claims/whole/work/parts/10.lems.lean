theorem ow_X5_3 : sj_ow RX5 3 := ⟨kw_37, kw_24, kw_25⟩
theorem ff_X5_9 : ∃ q : vw_C, vwCl[5]? = some q ∧ 0 < q.2.2 ∧ Cond.fieldLink RX5 9 (q.2.1 0).1 (q.2.1 0).2.1 (q.2.1 0).2.2.1 ∈ sj_kw ∧ (q.2.1 0).2.2.2 = true ∧ (q.2.1 0).1 = RX5 := ⟨_, rfl, by decide, kw_38, rfl, rfl⟩
theorem fw_X5_15 : sj_fw RX5 15 5 1 := ⟨_, rfl, by decide, Or.inl kw_42⟩
theorem fw_X5_19 : sj_fw RX5 19 5 2 := ⟨_, rfl, by decide, Or.inl kw_46⟩
theorem ow_X0_3 : sj_ow RX0 3 := ⟨kw_31, kw_24, kw_25⟩
theorem ff_X0_9 : ∃ q : vw_C, vwCl[0]? = some q ∧ 3 < q.2.2 ∧ Cond.fieldLink RX0 9 (q.2.1 3).1 (q.2.1 3).2.1 (q.2.1 3).2.2.1 ∈ sj_kw ∧ (q.2.1 3).2.2.2 = true ∧ (q.2.1 3).1 = RX0 := ⟨_, rfl, by decide, kw_78, rfl, rfl⟩
theorem ff_X0_15 : ∃ q : vw_C, vwCl[0]? = some q ∧ 4 < q.2.2 ∧ Cond.fieldLink RX0 15 (q.2.1 4).1 (q.2.1 4).2.1 (q.2.1 4).2.2.1 ∈ sj_kw ∧ (q.2.1 4).2.2.2 = true ∧ (q.2.1 4).1 = RX0 := ⟨_, rfl, by decide, kw_83, rfl, rfl⟩
theorem ff_X0_18 : ∃ q : vw_C, vwCl[0]? = some q ∧ 5 < q.2.2 ∧ Cond.fieldLink RX0 18 (q.2.1 5).1 (q.2.1 5).2.1 (q.2.1 5).2.2.1 ∈ sj_kw ∧ (q.2.1 5).2.2.2 = true ∧ (q.2.1 5).1 = RX0 := ⟨_, rfl, by decide, kw_88, rfl, rfl⟩
theorem ff_X0_21 : ∃ q : vw_C, vwCl[0]? = some q ∧ 6 < q.2.2 ∧ Cond.fieldLink RX0 21 (q.2.1 6).1 (q.2.1 6).2.1 (q.2.1 6).2.2.1 ∈ sj_kw ∧ (q.2.1 6).2.2.2 = true ∧ (q.2.1 6).1 = RX0 := ⟨_, rfl, by decide, kw_91, rfl, rfl⟩
theorem ff_X0_24 : ∃ q : vw_C, vwCl[0]? = some q ∧ 7 < q.2.2 ∧ Cond.fieldLink RX0 24 (q.2.1 7).1 (q.2.1 7).2.1 (q.2.1 7).2.2.1 ∈ sj_kw ∧ (q.2.1 7).2.2.2 = true ∧ (q.2.1 7).1 = RX0 := ⟨_, rfl, by decide, kw_94, rfl, rfl⟩
theorem ff_X0_27 : ∃ q : vw_C, vwCl[0]? = some q ∧ 8 < q.2.2 ∧ Cond.fieldLink RX0 27 (q.2.1 8).1 (q.2.1 8).2.1 (q.2.1 8).2.2.1 ∈ sj_kw ∧ (q.2.1 8).2.2.2 = true ∧ (q.2.1 8).1 = RX0 := ⟨_, rfl, by decide, kw_97, rfl, rfl⟩
theorem ff_X0_30 : ∃ q : vw_C, vwCl[0]? = some q ∧ 9 < q.2.2 ∧ Cond.fieldLink RX0 30 (q.2.1 9).1 (q.2.1 9).2.1 (q.2.1 9).2.2.1 ∈ sj_kw ∧ (q.2.1 9).2.2.2 = true ∧ (q.2.1 9).1 = RX0 := ⟨_, rfl, by decide, kw_100, rfl, rfl⟩
theorem ff_X0_33 : ∃ q : vw_C, vwCl[0]? = some q ∧ 10 < q.2.2 ∧ Cond.fieldLink RX0 33 (q.2.1 10).1 (q.2.1 10).2.1 (q.2.1 10).2.2.1 ∈ sj_kw ∧ (q.2.1 10).2.2.2 = true ∧ (q.2.1 10).1 = RX0 := ⟨_, rfl, by decide, kw_105, rfl, rfl⟩
theorem ff_X0_36 : ∃ q : vw_C, vwCl[0]? = some q ∧ 11 < q.2.2 ∧ Cond.fieldLink RX0 36 (q.2.1 11).1 (q.2.1 11).2.1 (q.2.1 11).2.2.1 ∈ sj_kw ∧ (q.2.1 11).2.2.2 = true ∧ (q.2.1 11).1 = RX0 := ⟨_, rfl, by decide, kw_110, rfl, rfl⟩
theorem ff_X0_39 : ∃ q : vw_C, vwCl[0]? = some q ∧ 12 < q.2.2 ∧ Cond.fieldLink RX0 39 (q.2.1 12).1 (q.2.1 12).2.1 (q.2.1 12).2.2.1 ∈ sj_kw ∧ (q.2.1 12).2.2.2 = true ∧ (q.2.1 12).1 = RX0 := ⟨_, rfl, by decide, kw_113, rfl, rfl⟩
theorem ff_X0_42 : ∃ q : vw_C, vwCl[0]? = some q ∧ 13 < q.2.2 ∧ Cond.fieldLink RX0 42 (q.2.1 13).1 (q.2.1 13).2.1 (q.2.1 13).2.2.1 ∈ sj_kw ∧ (q.2.1 13).2.2.2 = true ∧ (q.2.1 13).1 = RX0 := ⟨_, rfl, by decide, kw_116, rfl, rfl⟩
theorem nw_X0_45 : sj_nw RX0 45 5 4 := ⟨_, rfl, kw_32, kw_33, kw_3, rfl⟩
theorem mw_X0_47 : sj_mw RX0 47 m_X5_init 0 := ⟨kw_36, kw_3, ⟨by decide, by decide, by decide +kernel⟩, Or.inr ⟨_, kw_34⟩⟩
theorem ff_X0_48 : ∃ q : vw_C, vwCl[0]? = some q ∧ 14 < q.2.2 ∧ Cond.fieldLink RX0 48 (q.2.1 14).1 (q.2.1 14).2.1 (q.2.1 14).2.2.1 ∈ sj_kw ∧ (q.2.1 14).2.2.2 = true ∧ (q.2.1 14).1 = RX0 := ⟨_, rfl, by decide, kw_119, rfl, rfl⟩
theorem fw_X0_52 : sj_fw RX0 52 0 0 := ⟨_, rfl, by decide, Or.inl kw_63⟩
theorem fw_X0_56 : sj_fw RX0 56 0 1 := ⟨_, rfl, by decide, Or.inl kw_69⟩
theorem fw_X0_59 : sj_fw RX0 59 0 2 := ⟨_, rfl, by decide, Or.inl kw_73⟩
theorem fw_X0_9 : sj_fw RX0 9 0 3 := ⟨_, rfl, by decide, Or.inl kw_78⟩
theorem mw_X0_62 : sj_mw RX0 62 m_J7_fill_53178 2 := ⟨kw_322, kw_9, ⟨by decide, by decide, by decide +kernel⟩, Or.inl kw_320⟩
theorem fw_X0_15 : sj_fw RX0 15 0 4 := ⟨_, rfl, by decide, Or.inl kw_83⟩
theorem fw_X0_18 : sj_fw RX0 18 0 5 := ⟨_, rfl, by decide, Or.inl kw_88⟩
theorem fw_X0_21 : sj_fw RX0 21 0 6 := ⟨_, rfl, by decide, Or.inl kw_91⟩
theorem fw_X0_24 : sj_fw RX0 24 0 7 := ⟨_, rfl, by decide, Or.inl kw_94⟩
theorem fw_X0_27 : sj_fw RX0 27 0 8 := ⟨_, rfl, by decide, Or.inl kw_97⟩
theorem fw_X0_30 : sj_fw RX0 30 0 9 := ⟨_, rfl, by decide, Or.inl kw_100⟩
theorem fw_X0_33 : sj_fw RX0 33 0 10 := ⟨_, rfl, by decide, Or.inl kw_105⟩
theorem fw_X0_42 : sj_fw RX0 42 0 13 := ⟨_, rfl, by decide, Or.inl kw_116⟩
theorem fw_X0_48 : sj_fw RX0 48 0 14 := ⟨_, rfl, by decide, Or.inl kw_119⟩
theorem mw_X0_68 : sj_mw RX0 68 m_X5_drop 0 := ⟨kw_326, kw_3, ⟨by decide, by decide, by decide +kernel⟩, Or.inr ⟨_, kw_323⟩⟩
theorem vw_X5_drop : sj_vw 5 m_X5_drop := ⟨⟨_, rfl, rfl⟩, kw_325, ks_1⟩
theorem fw_X5_9 : sj_fw RX5 9 5 0 := ⟨_, rfl, by decide, Or.inl kw_38⟩
theorem yw_X5_22 : sj_yw RX5 22 := ⟨kw_392, kw_387, kw_386, kw_11⟩
theorem fw_X5_28 : sj_fw RX5 28 5 3 := ⟨_, rfl, by decide, Or.inl kw_50⟩
theorem yw_X0_71 : sj_yw RX0 71 := ⟨kw_385, kw_387, kw_386, kw_11⟩
theorem fw_X0_36 : sj_fw RX0 36 0 11 := ⟨_, rfl, by decide, Or.inl kw_110⟩
theorem fw_X0_39 : sj_fw RX0 39 0 12 := ⟨_, rfl, by decide, Or.inl kw_113⟩
theorem mw_X0_77 : sj_mw RX0 77 m_X5_copy 1 := ⟨kw_391, kw_3, ⟨by decide, by decide, by decide +kernel⟩, Or.inr ⟨_, kw_388⟩⟩
theorem vw_X5_copy : sj_vw 5 m_X5_copy := ⟨⟨_, rfl, rfl⟩, kw_390, ks_4⟩
theorem mw_X0_81 : sj_mw RX0 81 m_X0_hasColumn 1 := ⟨kw_400, kw_2, ⟨by decide, by decide, by decide +kernel⟩, Or.inl kw_417⟩
theorem vw_X0_hasColumn : sj_vw 0 m_X0_hasColumn := ⟨⟨_, rfl, rfl⟩, kw_399, ks_5⟩
theorem kc_X0_85 : Cond.constantLong RX0 85 (Int64.ofInt (100)) ∈ sj_kw := by
  rw [show Int64.ofInt (100) = (100 : Int64) by decide]
  exact kw_418
theorem mx_X0_87 : sj_miw RX0 87 := ⟨kw_718, kw_530, kw_16, kw_531⟩
theorem mw_X0_93 : sj_mw RX0 93 m_X8_topPlace 2 := ⟨kw_408, kw_1, ⟨by decide, by decide, by decide +kernel⟩, Or.inr ⟨_, kw_717⟩⟩
theorem mx_X0_96 : sj_maw RX0 96 := ⟨kw_719, kw_610, kw_16, kw_611⟩
theorem mw_X0_99 : sj_mw RX0 99 m_X0_topAt 2 := ⟨kw_732, kw_2, ⟨by decide, by decide, by decide +kernel⟩, Or.inl kw_860⟩
theorem vw_X0_topAt : sj_vw 0 m_X0_topAt := ⟨⟨_, rfl, rfl⟩, kw_731, ks_40⟩
theorem mw_X0_102 : sj_mw RX0 102 m_X5_isNone 0 := ⟨kw_765, kw_3, ⟨by decide, by decide, by decide +kernel⟩, Or.inr ⟨_, kw_778⟩⟩
theorem vw_X5_isNone : sj_vw 5 m_X5_isNone := ⟨⟨_, rfl, rfl⟩, kw_764, ks_47⟩
theorem fw_X0_106 : sj_fw RX0 106 5 1 := ⟨_, rfl, by decide, Or.inr ⟨_, kw_44⟩⟩
theorem fw_X0_109 : sj_fw RX0 109 5 2 := ⟨_, rfl, by decide, Or.inr ⟨_, kw_47⟩⟩
theorem fw_X0_112 : sj_fw RX0 112 5 0 := ⟨_, rfl, by decide, Or.inr ⟨_, kw_41⟩⟩
theorem mw_X0_115 : sj_mw RX0 115 m_X0_anchorCounts 2 := ⟨kw_817, kw_2, ⟨by decide, by decide, by decide +kernel⟩, Or.inl kw_851⟩
theorem vw_X0_anchorCounts : sj_vw 0 m_X0_anchorCounts := ⟨⟨_, rfl, rfl⟩, kw_816, ks_53⟩
theorem kc_X0_119 : Cond.constantLong RX0 119 (Int64.ofInt (2000)) ∈ sj_kw := by
  rw [show Int64.ofInt (2000) = (2000 : Int64) by decide]
  exact kw_852
theorem mw_X0_121 : sj_mw RX0 121 m_X0_thickAt 1 := ⟨kw_975, kw_2, ⟨by decide, by decide, by decide +kernel⟩, Or.inl kw_972⟩
theorem vw_X0_thickAt : sj_vw 0 m_X0_thickAt := ⟨⟨_, rfl, rfl⟩, kw_974, ks_75⟩
theorem mw_X0_125 : sj_mw RX0 125 m_X0_turnRow 2 := ⟨kw_777, kw_2, ⟨by decide, by decide, by decide +kernel⟩, Or.inl kw_774⟩
theorem vw_X0_turnRow : sj_vw 0 m_X0_turnRow := ⟨⟨_, rfl, rfl⟩, kw_776, ks_49⟩
theorem fw_X0_128 : sj_fw RX0 128 5 3 := ⟨_, rfl, by decide, Or.inr ⟨_, kw_51⟩⟩
theorem ow_X1_3 : sj_ow RX1 3 := ⟨kw_157, kw_24, kw_25⟩
theorem ff_X1_9 : ∃ q : vw_C, vwCl[1]? = some q ∧ 0 < q.2.2 ∧ Cond.fieldLink RX1 9 (q.2.1 0).1 (q.2.1 0).2.1 (q.2.1 0).2.2.1 ∈ sj_kw ∧ (q.2.1 0).2.2.2 = true ∧ (q.2.1 0).1 = RX1 := ⟨_, rfl, by decide, kw_158, rfl, rfl⟩
theorem ff_X1_15 : ∃ q : vw_C, vwCl[1]? = some q ∧ 1 < q.2.2 ∧ Cond.fieldLink RX1 15 (q.2.1 1).1 (q.2.1 1).2.1 (q.2.1 1).2.2.1 ∈ sj_kw ∧ (q.2.1 1).2.2.2 = true ∧ (q.2.1 1).1 = RX1 := ⟨_, rfl, by decide, kw_161, rfl, rfl⟩
theorem fw_X1_9 : sj_fw RX1 9 1 0 := ⟨_, rfl, by decide, Or.inl kw_158⟩
theorem yw_X1_18 : sj_yw RX1 18 := ⟨kw_791, kw_387, kw_386, kw_11⟩
theorem fw_X1_15 : sj_fw RX1 15 1 1 := ⟨_, rfl, by decide, Or.inl kw_161⟩
theorem fw_X1_24 : sj_fw RX1 24 1 2 := ⟨_, rfl, by decide, Or.inl kw_164⟩
theorem fw_X1_28 : sj_fw RX1 28 1 3 := ⟨_, rfl, by decide, Or.inl kw_167⟩
theorem kc_X1_31 : Cond.constant RX1 31 (Int32.ofInt (1664525)) ∈ sj_kw := by
  rw [show Int32.ofInt (1664525) = (1664525 : Int32) by decide]
  exact kw_1073
theorem kc_X1_32 : Cond.constant RX1 32 (Int32.ofInt (1013904223)) ∈ sj_kw := by
  rw [show Int32.ofInt (1013904223) = (1013904223 : Int32) by decide]
  exact kw_1074
theorem ow_X2_3 : sj_ow RX2 3 := ⟨kw_183, kw_24, kw_25⟩
theorem ff_X2_9 : ∃ q : vw_C, vwCl[2]? = some q ∧ 0 < q.2.2 ∧ Cond.fieldLink RX2 9 (q.2.1 0).1 (q.2.1 0).2.1 (q.2.1 0).2.2.1 ∈ sj_kw ∧ (q.2.1 0).2.2.2 = true ∧ (q.2.1 0).1 = RX2 := ⟨_, rfl, by decide, kw_184, rfl, rfl⟩
theorem fw_X2_15 : sj_fw RX2 15 2 1 := ⟨_, rfl, by decide, Or.inl kw_186⟩
theorem fw_X2_9 : sj_fw RX2 9 2 0 := ⟨_, rfl, by decide, Or.inl kw_184⟩
theorem mw_X2_23 : sj_mw RX2 23 m_X2_write 1 := ⟨kw_1090, kw_5, ⟨by decide, by decide, by decide +kernel⟩, Or.inl kw_1087⟩
theorem vw_X2_write : sj_vw 2 m_X2_write := ⟨⟨_, rfl, rfl⟩, kw_1089, ks_88⟩
theorem mw_X2_19 : sj_mw RX2 19 m_X2_writeNumber 1 := ⟨kw_1086, kw_5, ⟨by decide, by decide, by decide +kernel⟩, Or.inl kw_1083⟩
theorem vw_X2_writeNumber : sj_vw 2 m_X2_writeNumber := ⟨⟨_, rfl, rfl⟩, kw_1085, ks_87⟩
theorem ow_X4_3 : sj_ow RX4 3 := ⟨kw_233, kw_24, kw_25⟩
theorem ff_X4_9 : ∃ q : vw_C, vwCl[4]? = some q ∧ 0 < q.2.2 ∧ Cond.fieldLink RX4 9 (q.2.1 0).1 (q.2.1 0).2.1 (q.2.1 0).2.2.1 ∈ sj_kw ∧ (q.2.1 0).2.2.2 = true ∧ (q.2.1 0).1 = RX4 := ⟨_, rfl, by decide, kw_234, rfl, rfl⟩
theorem ff_X4_15 : ∃ q : vw_C, vwCl[4]? = some q ∧ 1 < q.2.2 ∧ Cond.fieldLink RX4 15 (q.2.1 1).1 (q.2.1 1).2.1 (q.2.1 1).2.2.1 ∈ sj_kw ∧ (q.2.1 1).2.2.2 = true ∧ (q.2.1 1).1 = RX4 := ⟨_, rfl, by decide, kw_236, rfl, rfl⟩
theorem ff_X4_18 : ∃ q : vw_C, vwCl[4]? = some q ∧ 2 < q.2.2 ∧ Cond.fieldLink RX4 18 (q.2.1 2).1 (q.2.1 2).2.1 (q.2.1 2).2.2.1 ∈ sj_kw ∧ (q.2.1 2).2.2.2 = true ∧ (q.2.1 2).1 = RX4 := ⟨_, rfl, by decide, kw_238, rfl, rfl⟩
theorem ff_X4_21 : ∃ q : vw_C, vwCl[4]? = some q ∧ 3 < q.2.2 ∧ Cond.fieldLink RX4 21 (q.2.1 3).1 (q.2.1 3).2.1 (q.2.1 3).2.2.1 ∈ sj_kw ∧ (q.2.1 3).2.2.2 = true ∧ (q.2.1 3).1 = RX4 := ⟨_, rfl, by decide, kw_240, rfl, rfl⟩
theorem ff_X4_24 : ∃ q : vw_C, vwCl[4]? = some q ∧ 4 < q.2.2 ∧ Cond.fieldLink RX4 24 (q.2.1 4).1 (q.2.1 4).2.1 (q.2.1 4).2.2.1 ∈ sj_kw ∧ (q.2.1 4).2.2.2 = true ∧ (q.2.1 4).1 = RX4 := ⟨_, rfl, by decide, kw_242, rfl, rfl⟩
theorem ff_X4_28 : ∃ q : vw_C, vwCl[4]? = some q ∧ 5 < q.2.2 ∧ Cond.fieldLink RX4 28 (q.2.1 5).1 (q.2.1 5).2.1 (q.2.1 5).2.2.1 ∈ sj_kw ∧ (q.2.1 5).2.2.2 = true ∧ (q.2.1 5).1 = RX4 := ⟨_, rfl, by decide, kw_244, rfl, rfl⟩
theorem ff_X4_31 : ∃ q : vw_C, vwCl[4]? = some q ∧ 6 < q.2.2 ∧ Cond.fieldLink RX4 31 (q.2.1 6).1 (q.2.1 6).2.1 (q.2.1 6).2.2.1 ∈ sj_kw ∧ (q.2.1 6).2.2.2 = true ∧ (q.2.1 6).1 = RX4 := ⟨_, rfl, by decide, kw_246, rfl, rfl⟩
theorem ff_X4_34 : ∃ q : vw_C, vwCl[4]? = some q ∧ 7 < q.2.2 ∧ Cond.fieldLink RX4 34 (q.2.1 7).1 (q.2.1 7).2.1 (q.2.1 7).2.2.1 ∈ sj_kw ∧ (q.2.1 7).2.2.2 = true ∧ (q.2.1 7).1 = RX4 := ⟨_, rfl, by decide, kw_247, rfl, rfl⟩
theorem ow_X3_3 : sj_ow RX3 3 := ⟨kw_282, kw_24, kw_25⟩
theorem nw_X3_9 : sj_nw RX3 9 5 4 := ⟨_, rfl, kw_283, kw_33, kw_3, rfl⟩
theorem mw_X3_11 : sj_mw RX3 11 m_X5_init 0 := ⟨kw_36, kw_3, ⟨by decide, by decide, by decide +kernel⟩, Or.inr ⟨_, kw_284⟩⟩
theorem ff_X3_12 : ∃ q : vw_C, vwCl[3]? = some q ∧ 0 < q.2.2 ∧ Cond.fieldLink RX3 12 (q.2.1 0).1 (q.2.1 0).2.1 (q.2.1 0).2.2.1 ∈ sj_kw ∧ (q.2.1 0).2.2.2 = true ∧ (q.2.1 0).1 = RX3 := ⟨_, rfl, by decide, kw_287, rfl, rfl⟩
theorem nw_X3_18 : sj_nw RX3 18 4 11 := ⟨_, rfl, kw_285, kw_229, kw_7, rfl⟩
theorem mw_X3_20 : sj_mw RX3 20 m_X4_init 0 := ⟨kw_232, kw_7, ⟨by decide, by decide, by decide +kernel⟩, Or.inr ⟨_, kw_286⟩⟩
theorem ff_X3_21 : ∃ q : vw_C, vwCl[3]? = some q ∧ 1 < q.2.2 ∧ Cond.fieldLink RX3 21 (q.2.1 1).1 (q.2.1 1).2.1 (q.2.1 1).2.2.1 ∈ sj_kw ∧ (q.2.1 1).2.2.2 = true ∧ (q.2.1 1).1 = RX3 := ⟨_, rfl, by decide, kw_288, rfl, rfl⟩
theorem fw_X5_45 : sj_fw RX5 45 0 3 := ⟨_, rfl, by decide, Or.inr ⟨_, kw_81⟩⟩
theorem fw_X5_50 : sj_fw RX5 50 0 0 := ⟨_, rfl, by decide, Or.inr ⟨_, kw_65⟩⟩
theorem mw_X5_63 : sj_mw RX5 63 m_X5_span 4 := ⟨kw_615, kw_3, ⟨by decide, by decide, by decide +kernel⟩, Or.inl kw_612⟩
theorem vw_X5_span : sj_vw 5 m_X5_span := ⟨⟨_, rfl, rfl⟩, kw_614, ks_30⟩
theorem fw_X5_53 : sj_fw RX5 53 0 1 := ⟨_, rfl, by decide, Or.inr ⟨_, kw_70⟩⟩
theorem mw_X5_56 : sj_mw RX5 56 m_X8_rootOf 1 := ⟨kw_608, kw_1, ⟨by decide, by decide, by decide +kernel⟩, Or.inr ⟨_, kw_606⟩⟩
theorem fw_X5_60 : sj_fw RX5 60 0 4 := ⟨_, rfl, by decide, Or.inr ⟨_, kw_86⟩⟩
theorem mx_X5_36 : sj_maw RX5 36 := ⟨kw_609, kw_610, kw_16, kw_611⟩
theorem fw_X4_15 : sj_fw RX4 15 4 1 := ⟨_, rfl, by decide, Or.inl kw_236⟩
theorem fw_X4_43 : sj_fw RX4 43 4 9 := ⟨_, rfl, by decide, Or.inl kw_250⟩
theorem fw_X4_18 : sj_fw RX4 18 4 2 := ⟨_, rfl, by decide, Or.inl kw_238⟩
theorem fw_X4_21 : sj_fw RX4 21 4 3 := ⟨_, rfl, by decide, Or.inl kw_240⟩
theorem mw_X4_81 : sj_mw RX4 81 m_X0_layerUnder 2 := ⟨kw_859, kw_2, ⟨by decide, by decide, by decide +kernel⟩, Or.inr ⟨_, kw_856⟩⟩
theorem vw_X0_layerUnder : sj_vw 0 m_X0_layerUnder := ⟨⟨_, rfl, rfl⟩, kw_858, ks_60⟩
theorem fw_X4_50 : sj_fw RX4 50 4 8 := ⟨_, rfl, by decide, Or.inl kw_248⟩
theorem fw_X4_64 : sj_fw RX4 64 5 1 := ⟨_, rfl, by decide, Or.inr ⟨_, kw_43⟩⟩
theorem fw_X4_67 : sj_fw RX4 67 5 0 := ⟨_, rfl, by decide, Or.inr ⟨_, kw_39⟩⟩
theorem mw_X4_70 : sj_mw RX4 70 m_X0_weightOn 2 := ⟨kw_716, kw_2, ⟨by decide, by decide, by decide +kernel⟩, Or.inr ⟨_, kw_854⟩⟩
theorem vw_X0_weightOn : sj_vw 0 m_X0_weightOn := ⟨⟨_, rfl, rfl⟩, kw_715, ks_37⟩
theorem mw_X4_74 : sj_mw RX4 74 m_X0_headOn 2 := ⟨kw_746, kw_2, ⟨by decide, by decide, by decide +kernel⟩, Or.inr ⟨_, kw_855⟩⟩
theorem vw_X0_headOn : sj_vw 0 m_X0_headOn := ⟨⟨_, rfl, rfl⟩, kw_745, ks_43⟩
theorem fw_X4_9 : sj_fw RX4 9 4 0 := ⟨_, rfl, by decide, Or.inl kw_234⟩
theorem fw_X4_77 : sj_fw RX4 77 5 3 := ⟨_, rfl, by decide, Or.inr ⟨_, kw_49⟩⟩
theorem fw_X4_37 : sj_fw RX4 37 0 1 := ⟨_, rfl, by decide, Or.inr ⟨_, kw_68⟩⟩
theorem mw_X4_44 : sj_mw RX4 44 m_X5_count 0 := ⟨kw_624, kw_3, ⟨by decide, by decide, by decide +kernel⟩, Or.inr ⟨_, kw_846⟩⟩
theorem vw_X5_count : sj_vw 5 m_X5_count := ⟨⟨_, rfl, rfl⟩, kw_623, ks_32⟩
theorem mw_X4_52 : sj_mw RX4 52 m_X0_pullsOn 1 := ⟨kw_850, kw_2, ⟨by decide, by decide, by decide +kernel⟩, Or.inr ⟨_, kw_847⟩⟩
theorem vw_X0_pullsOn : sj_vw 0 m_X0_pullsOn := ⟨⟨_, rfl, rfl⟩, kw_849, ks_59⟩
theorem fw_X4_56 : sj_fw RX4 56 4 10 := ⟨_, rfl, by decide, Or.inl kw_251⟩
theorem mw_X4_60 : sj_mw RX4 60 m_X5_isNone 0 := ⟨kw_765, kw_3, ⟨by decide, by decide, by decide +kernel⟩, Or.inr ⟨_, kw_853⟩⟩
theorem mx_X4_101 : sj_maw RX4 101 := ⟨kw_870, kw_610, kw_16, kw_611⟩
theorem fw_X4_84 : sj_fw RX4 84 0 10 := ⟨_, rfl, by decide, Or.inr ⟨_, kw_106⟩⟩
theorem fw_X4_24 : sj_fw RX4 24 4 4 := ⟨_, rfl, by decide, Or.inl kw_242⟩
theorem kc_X4_87 : Cond.constantLong RX4 87 (Int64.ofInt (2000)) ∈ sj_kw := by
  rw [show Int64.ofInt (2000) = (2000 : Int64) by decide]
  exact kw_865
theorem fw_X4_89 : sj_fw RX4 89 0 9 := ⟨_, rfl, by decide, Or.inr ⟨_, kw_101⟩⟩
theorem mw_X4_92 : sj_mw RX4 92 m_X4_press 1 := ⟨kw_869, kw_7, ⟨by decide, by decide, by decide +kernel⟩, Or.inl kw_866⟩
theorem vw_X4_press : sj_vw 4 m_X4_press := ⟨⟨_, rfl, rfl⟩, kw_868, ks_62⟩
theorem fw_X4_28 : sj_fw RX4 28 4 5 := ⟨_, rfl, by decide, Or.inl kw_244⟩
theorem kc_X4_96 : Cond.constantLong RX4 96 (Int64.ofInt (1000)) ∈ sj_kw := by
  rw [show Int64.ofInt (1000) = (1000 : Int64) by decide]
  exact kw_871
theorem fw_X4_98 : sj_fw RX4 98 0 2 := ⟨_, rfl, by decide, Or.inr ⟨_, kw_74⟩⟩
theorem fw_X4_31 : sj_fw RX4 31 4 6 := ⟨_, rfl, by decide, Or.inl kw_246⟩
theorem fw_X4_34 : sj_fw RX4 34 4 7 := ⟨_, rfl, by decide, Or.inl kw_247⟩
theorem kc_X4_116 : Cond.constantLong RX4 116 (Int64.ofInt (1000000000000000)) ∈ sj_kw := by
  rw [show Int64.ofInt (1000000000000000) = (1000000000000000 : Int64) by decide]
  exact kw_899
theorem mw_X4_118 : sj_mw RX4 118 m_X4_lack 1 := ⟨kw_898, kw_7, ⟨by decide, by decide, by decide +kernel⟩, Or.inl kw_895⟩
theorem vw_X4_lack : sj_vw 4 m_X4_lack := ⟨⟨_, rfl, rfl⟩, kw_897, ks_65⟩
theorem mw_X4_122 : sj_mw RX4 122 m_X4_hold 1 := ⟨kw_894, kw_7, ⟨by decide, by decide, by decide +kernel⟩, Or.inl kw_908⟩
theorem vw_X4_hold : sj_vw 4 m_X4_hold := ⟨⟨_, rfl, rfl⟩, kw_893, ks_64⟩
theorem mw_X3_25 : sj_mw RX3 25 m_X8_isCircle 3 := ⟨kw_601, kw_1, ⟨by decide, by decide, by decide +kernel⟩, Or.inr ⟨_, kw_1023⟩⟩
theorem fw_X3_12 : sj_fw RX3 12 3 0 := ⟨_, rfl, by decide, Or.inl kw_287⟩
theorem mw_X3_29 : sj_mw RX3 29 m_X5_cut 5 := ⟨kw_605, kw_3, ⟨by decide, by decide, by decide +kernel⟩, Or.inr ⟨_, kw_1024⟩⟩
theorem vw_X5_cut : sj_vw 5 m_X5_cut := ⟨⟨_, rfl, rfl⟩, kw_604, ks_29⟩
theorem fw_X3_21 : sj_fw RX3 21 3 1 := ⟨_, rfl, by decide, Or.inl kw_288⟩
theorem mw_X3_33 : sj_mw RX3 33 m_X4_weigh 2 := ⟨kw_845, kw_7, ⟨by decide, by decide, by decide +kernel⟩, Or.inr ⟨_, kw_1025⟩⟩
theorem vw_X4_weigh : sj_vw 4 m_X4_weigh := ⟨⟨_, rfl, rfl⟩, kw_844, ks_58⟩
theorem mw_X3_37 : sj_mw RX3 37 m_X4_settle 2 := ⟨kw_864, kw_7, ⟨by decide, by decide, by decide +kernel⟩, Or.inr ⟨_, kw_1026⟩⟩
theorem vw_X4_settle : sj_vw 4 m_X4_settle := ⟨⟨_, rfl, rfl⟩, kw_863, ks_61⟩
theorem mw_X3_41 : sj_mw RX3 41 m_X4_leastBound 1 := ⟨kw_907, kw_7, ⟨by decide, by decide, by decide +kernel⟩, Or.inr ⟨_, kw_1027⟩⟩
theorem vw_X4_leastBound : sj_vw 4 m_X4_leastBound := ⟨⟨_, rfl, rfl⟩, kw_906, ks_66⟩
theorem fw_X3_45 : sj_fw RX3 45 3 2 := ⟨_, rfl, by decide, Or.inl kw_289⟩
theorem mw_X3_69 : sj_mw RX3 69 m_X3_off 2 := ⟨kw_1043, kw_8, ⟨by decide, by decide, by decide +kernel⟩, Or.inl kw_1041⟩
theorem fw_X3_49 : sj_fw RX3 49 3 3 := ⟨_, rfl, by decide, Or.inl kw_291⟩
theorem fw_X3_52 : sj_fw RX3 52 3 4 := ⟨_, rfl, by decide, Or.inl kw_293⟩
theorem fw_X3_59 : sj_fw RX3 59 3 5 := ⟨_, rfl, by decide, Or.inl kw_295⟩
theorem mw_X3_55 : sj_mw RX3 55 m_X3_ask 6 := ⟨kw_1022, kw_8, ⟨by decide, by decide, by decide +kernel⟩, Or.inl kw_1036⟩
theorem vw_X3_ask : sj_vw 3 m_X3_ask := ⟨⟨_, rfl, rfl⟩, kw_1021, ks_82⟩
theorem fw_X3_62 : sj_fw RX3 62 3 6 := ⟨_, rfl, by decide, Or.inl kw_297⟩
theorem mw_X3_65 : sj_mw RX3 65 m_X3_goOn 3 := ⟨kw_1040, kw_8, ⟨by decide, by decide, by decide +kernel⟩, Or.inl kw_1037⟩
theorem vw_X3_goOn : sj_vw 3 m_X3_goOn := ⟨⟨_, rfl, rfl⟩, kw_1039, ks_84⟩
theorem kc_X4_106 : Cond.constantLong RX4 106 (Int64.ofInt (-1)) ∈ sj_kw := by
  rw [show Int64.ofInt (-1) = (-1 : Int64) by decide]
  exact kw_886
theorem mw_X4_108 : sj_mw RX4 108 m_J9_floorDiv_f86c9 2 := ⟨kw_1009, kw_16, ⟨by decide, by decide, by decide +kernel⟩, Or.inl kw_1007⟩
theorem mw_X4_112 : sj_mw RX4 112 m_X4_rubsOf 2 := ⟨kw_885, kw_7, ⟨by decide, by decide, by decide +kernel⟩, Or.inl kw_1010⟩
theorem vw_X4_rubsOf : sj_vw 4 m_X4_rubsOf := ⟨⟨_, rfl, rfl⟩, kw_884, ks_63⟩
theorem mw_X5_32 : sj_mw RX5 32 m_X5_isNone 0 := ⟨kw_765, kw_3, ⟨by decide, by decide, by decide +kernel⟩, Or.inl kw_805⟩
theorem mx_X5_42 : sj_miw RX5 42 := ⟨kw_985, kw_530, kw_16, kw_531⟩
theorem fw_X5_72 : sj_fw RX5 72 1 0 := ⟨_, rfl, by decide, Or.inr ⟨_, kw_159⟩⟩
theorem fw_X5_79 : sj_fw RX5 79 1 1 := ⟨_, rfl, by decide, Or.inr ⟨_, kw_162⟩⟩
theorem mw_X5_82 : sj_mw RX5 82 m_J9_floorDiv_7cf53 2 := ⟨kw_642, kw_16, ⟨by decide, by decide, by decide +kernel⟩, Or.inl kw_640⟩
theorem mw_X5_75 : sj_mw RX5 75 m_X5_heightAt 3 := ⟨kw_639, kw_3, ⟨by decide, by decide, by decide +kernel⟩, Or.inl kw_637⟩
theorem fw_X5_67 : sj_fw RX5 67 1 2 := ⟨_, rfl, by decide, Or.inr ⟨_, kw_165⟩⟩
theorem ow_X6_3 : sj_ow RX6 3 := ⟨kw_656, kw_24, kw_25⟩
theorem ff_X6_9 : ∃ q : vw_C, vwCl[6]? = some q ∧ 0 < q.2.2 ∧ Cond.fieldLink RX6 9 (q.2.1 0).1 (q.2.1 0).2.1 (q.2.1 0).2.2.1 ∈ sj_kw ∧ (q.2.1 0).2.2.2 = true ∧ (q.2.1 0).1 = RX6 := ⟨_, rfl, by decide, kw_659, rfl, rfl⟩
theorem ff_X6_15 : ∃ q : vw_C, vwCl[6]? = some q ∧ 1 < q.2.2 ∧ Cond.fieldLink RX6 15 (q.2.1 1).1 (q.2.1 1).2.1 (q.2.1 1).2.2.1 ∈ sj_kw ∧ (q.2.1 1).2.2.2 = true ∧ (q.2.1 1).1 = RX6 := ⟨_, rfl, by decide, kw_660, rfl, rfl⟩
theorem ff_X6_19 : ∃ q : vw_C, vwCl[6]? = some q ∧ 2 < q.2.2 ∧ Cond.fieldLink RX6 19 (q.2.1 2).1 (q.2.1 2).2.1 (q.2.1 2).2.2.1 ∈ sj_kw ∧ (q.2.1 2).2.2.2 = true ∧ (q.2.1 2).1 = RX6 := ⟨_, rfl, by decide, kw_661, rfl, rfl⟩
theorem ff_X6_22 : ∃ q : vw_C, vwCl[6]? = some q ∧ 3 < q.2.2 ∧ Cond.fieldLink RX6 22 (q.2.1 3).1 (q.2.1 3).2.1 (q.2.1 3).2.2.1 ∈ sj_kw ∧ (q.2.1 3).2.2.2 = true ∧ (q.2.1 3).1 = RX6 := ⟨_, rfl, by decide, kw_662, rfl, rfl⟩
theorem nw_X6_25 : sj_nw RX6 25 5 4 := ⟨_, rfl, kw_657, kw_33, kw_3, rfl⟩
theorem mw_X6_27 : sj_mw RX6 27 m_X5_init 0 := ⟨kw_36, kw_3, ⟨by decide, by decide, by decide +kernel⟩, Or.inr ⟨_, kw_658⟩⟩
theorem ff_X6_28 : ∃ q : vw_C, vwCl[6]? = some q ∧ 4 < q.2.2 ∧ Cond.fieldLink RX6 28 (q.2.1 4).1 (q.2.1 4).2.1 (q.2.1 4).2.2.1 ∈ sj_kw ∧ (q.2.1 4).2.2.2 = true ∧ (q.2.1 4).1 = RX6 := ⟨_, rfl, by decide, kw_663, rfl, rfl⟩
theorem fw_X6_32 : sj_fw RX6 32 6 5 := ⟨_, rfl, by decide, Or.inl kw_665⟩
theorem fw_X6_75 : sj_fw RX6 75 0 3 := ⟨_, rfl, by decide, Or.inr ⟨_, kw_79⟩⟩
theorem fw_X6_19 : sj_fw RX6 19 6 2 := ⟨_, rfl, by decide, Or.inl kw_661⟩
theorem mw_X6_78 : sj_mw RX6 78 m_X0_weightOn 2 := ⟨kw_716, kw_2, ⟨by decide, by decide, by decide +kernel⟩, Or.inr ⟨_, kw_713⟩⟩
theorem fw_X6_67 : sj_fw RX6 67 0 0 := ⟨_, rfl, by decide, Or.inr ⟨_, kw_64⟩⟩
theorem fw_X6_72 : sj_fw RX6 72 0 4 := ⟨_, rfl, by decide, Or.inr ⟨_, kw_84⟩⟩
theorem fw_X6_22 : sj_fw RX6 22 6 3 := ⟨_, rfl, by decide, Or.inl kw_662⟩
theorem mw_X6_101 : sj_mw RX6 101 m_X0_topAt 2 := ⟨kw_732, kw_2, ⟨by decide, by decide, by decide +kernel⟩, Or.inr ⟨_, kw_729⟩⟩
theorem fw_X6_116 : sj_fw RX6 116 6 13 := ⟨_, rfl, by decide, Or.inl kw_674⟩
theorem mw_X6_132 : sj_mw RX6 132 m_X0_headOn 2 := ⟨kw_746, kw_2, ⟨by decide, by decide, by decide +kernel⟩, Or.inr ⟨_, kw_743⟩⟩
theorem kc_X6_135 : Cond.constantLong RX6 135 (Int64.ofInt (2000)) ∈ sj_kw := by
  rw [show Int64.ofInt (2000) = (2000 : Int64) by decide]
  exact kw_747
theorem fw_X6_137 : sj_fw RX6 137 0 9 := ⟨_, rfl, by decide, Or.inr ⟨_, kw_103⟩⟩
theorem mx_X6_109 : sj_maw RX6 109 := ⟨kw_738, kw_610, kw_16, kw_611⟩
theorem fw_X6_81 : sj_fw RX6 81 6 8 := ⟨_, rfl, by decide, Or.inl kw_668⟩
theorem kc_X6_140 : Cond.constantLong RX6 140 (Int64.ofInt (1000)) ∈ sj_kw := by
  rw [show Int64.ofInt (1000) = (1000 : Int64) by decide]
  exact kw_748
theorem fw_X6_142 : sj_fw RX6 142 0 2 := ⟨_, rfl, by decide, Or.inr ⟨_, kw_76⟩⟩
theorem fw_X6_126 : sj_fw RX6 126 0 1 := ⟨_, rfl, by decide, Or.inr ⟨_, kw_71⟩⟩
theorem fw_X6_129 : sj_fw RX6 129 0 10 := ⟨_, rfl, by decide, Or.inr ⟨_, kw_108⟩⟩
theorem fw_X6_40 : sj_fw RX6 40 6 7 := ⟨_, rfl, by decide, Or.inl kw_667⟩
theorem fw_X6_9 : sj_fw RX6 9 6 0 := ⟨_, rfl, by decide, Or.inl kw_659⟩
theorem fw_X6_15 : sj_fw RX6 15 6 1 := ⟨_, rfl, by decide, Or.inl kw_660⟩
theorem fw_X6_60 : sj_fw RX6 60 6 10 := ⟨_, rfl, by decide, Or.inl kw_671⟩
theorem fw_X6_57 : sj_fw RX6 57 6 11 := ⟨_, rfl, by decide, Or.inl kw_672⟩
theorem fw_X6_84 : sj_fw RX6 84 6 12 := ⟨_, rfl, by decide, Or.inl kw_673⟩
theorem mw_X6_112 : sj_mw RX6 112 m_X6_leftOver 3 := ⟨kw_742, kw_17, ⟨by decide, by decide, by decide +kernel⟩, Or.inl kw_739⟩
theorem vw_X6_leftOver : sj_vw 6 m_X6_leftOver := ⟨⟨_, rfl, rfl⟩, kw_741, ks_42⟩
theorem mw_X6_123 : sj_mw RX6 123 m_X6_pass 3 := ⟨kw_756, kw_17, ⟨by decide, by decide, by decide +kernel⟩, Or.inl kw_753⟩
theorem vw_X6_pass : sj_vw 6 m_X6_pass := ⟨⟨_, rfl, rfl⟩, kw_755, ks_45⟩
theorem mw_X6_119 : sj_mw RX6 119 m_X6_close 3 := ⟨kw_752, kw_17, ⟨by decide, by decide, by decide +kernel⟩, Or.inl kw_749⟩
theorem vw_X6_close : sj_vw 6 m_X6_close := ⟨⟨_, rfl, rfl⟩, kw_751, ks_44⟩
theorem fw_X6_36 : sj_fw RX6 36 6 6 := ⟨_, rfl, by decide, Or.inl kw_666⟩
theorem mx_X6_104 : sj_miw RX6 104 := ⟨kw_737, kw_530, kw_16, kw_531⟩
theorem mw_X6_97 : sj_mw RX6 97 m_X6_stepOn 2 := ⟨kw_736, kw_17, ⟨by decide, by decide, by decide +kernel⟩, Or.inl kw_733⟩
theorem vw_X6_stepOn : sj_vw 6 m_X6_stepOn := ⟨⟨_, rfl, rfl⟩, kw_735, ks_41⟩
theorem mw_X6_93 : sj_mw RX6 93 m_X6_addTops 1 := ⟨kw_728, kw_17, ⟨by decide, by decide, by decide +kernel⟩, Or.inl kw_725⟩
theorem vw_X6_addTops : sj_vw 6 m_X6_addTops := ⟨⟨_, rfl, rfl⟩, kw_727, ks_39⟩
theorem mw_X6_87 : sj_mw RX6 87 m_J7_fill_53178 2 := ⟨kw_322, kw_9, ⟨by decide, by decide, by decide +kernel⟩, Or.inl kw_724⟩
theorem fw_X6_28 : sj_fw RX6 28 6 4 := ⟨_, rfl, by decide, Or.inl kw_663⟩
theorem fw_X6_149 : sj_fw RX6 149 5 0 := ⟨_, rfl, by decide, Or.inr ⟨_, kw_40⟩⟩
theorem mw_X6_145 : sj_mw RX6 145 m_X5_span 4 := ⟨kw_615, kw_3, ⟨by decide, by decide, by decide +kernel⟩, Or.inr ⟨_, kw_761⟩⟩
theorem fw_X6_50 : sj_fw RX6 50 6 9 := ⟨_, rfl, by decide, Or.inl kw_669⟩
theorem mw_X6_53 : sj_mw RX6 53 m_X6_sweep 2 := ⟨kw_723, kw_17, ⟨by decide, by decide, by decide +kernel⟩, Or.inl kw_720⟩
theorem vw_X6_sweep : sj_vw 6 m_X6_sweep := ⟨⟨_, rfl, rfl⟩, kw_722, ks_38⟩
theorem mw_X6_64 : sj_mw RX6 64 m_X6_goBack 0 := ⟨kw_760, kw_17, ⟨by decide, by decide, by decide +kernel⟩, Or.inl kw_757⟩
theorem vw_X6_goBack : sj_vw 6 m_X6_goBack := ⟨⟨_, rfl, rfl⟩, kw_759, ks_46⟩
theorem mw_X6_44 : sj_mw RX6 44 m_X5_drop 0 := ⟨kw_326, kw_3, ⟨by decide, by decide, by decide +kernel⟩, Or.inr ⟨_, kw_708⟩⟩
theorem mw_X6_47 : sj_mw RX6 47 m_X6_weighAll 0 := ⟨kw_712, kw_17, ⟨by decide, by decide, by decide +kernel⟩, Or.inl kw_709⟩
theorem vw_X6_weighAll : sj_vw 6 m_X6_weighAll := ⟨⟨_, rfl, rfl⟩, kw_711, ks_36⟩
theorem ow_X7_3 : sj_ow RX7 3 := ⟨kw_199, kw_24, kw_25⟩
theorem ff_X7_9 : ∃ q : vw_C, vwCl[7]? = some q ∧ 0 < q.2.2 ∧ Cond.fieldLink RX7 9 (q.2.1 0).1 (q.2.1 0).2.1 (q.2.1 0).2.2.1 ∈ sj_kw ∧ (q.2.1 0).2.2.2 = true ∧ (q.2.1 0).1 = RX7 := ⟨_, rfl, by decide, kw_200, rfl, rfl⟩
theorem fw_X7_15 : sj_fw RX7 15 7 4 := ⟨_, rfl, by decide, Or.inl kw_206⟩
theorem fw_X7_19 : sj_fw RX7 19 7 1 := ⟨_, rfl, by decide, Or.inl kw_201⟩
theorem fw_X7_9 : sj_fw RX7 9 7 0 := ⟨_, rfl, by decide, Or.inl kw_200⟩
theorem fw_X7_22 : sj_fw RX7 22 7 2 := ⟨_, rfl, by decide, Or.inl kw_203⟩
theorem fw_X7_68 : sj_fw RX7 68 7 6 := ⟨_, rfl, by decide, Or.inl kw_209⟩
theorem mw_X7_31 : sj_mw RX7 31 m_X7_skip 0 := ⟨kw_454, kw_6, ⟨by decide, by decide, by decide +kernel⟩, Or.inl kw_451⟩
theorem vw_X7_skip : sj_vw 7 m_X7_skip := ⟨⟨_, rfl, rfl⟩, kw_453, ks_10⟩
theorem mw_X7_58 : sj_mw RX7 58 m_X7_seesFrom 2 := ⟨kw_466, kw_6, ⟨by decide, by decide, by decide +kernel⟩, Or.inl kw_463⟩
theorem vw_X7_seesFrom : sj_vw 7 m_X7_seesFrom := ⟨⟨_, rfl, rfl⟩, kw_465, ks_13⟩
theorem fw_X7_55 : sj_fw RX7 55 7 5 := ⟨_, rfl, by decide, Or.inl kw_208⟩
theorem tw_X7_71 : Cond.methodLink RX7 71 yJ0_length_8abf5 ∈ sj_kw := kw_472
theorem tw_X7_76 : Cond.methodLink RX7 76 yJ0_charAt_5068e ∈ sj_kw := kw_482
theorem fw_X7_25 : sj_fw RX7 25 7 3 := ⟨_, rfl, by decide, Or.inl kw_204⟩
theorem mw_X7_47 : sj_mw RX7 47 m_X7_fail 2 := ⟨kw_523, kw_6, ⟨by decide, by decide, by decide +kernel⟩, Or.inl kw_520⟩
theorem vw_X7_fail : sj_vw 7 m_X7_fail := ⟨⟨_, rfl, rfl⟩, kw_522, ks_15⟩
theorem kc_X7_62 : Cond.constant RX7 62 (Int32.ofInt (1000000)) ∈ sj_kw := by
  rw [show Int32.ofInt (1000000) = (1000000 : Int32) by decide]
  exact kw_528
theorem mx_X7_63 : sj_miw RX7 63 := ⟨kw_529, kw_530, kw_16, kw_531⟩
theorem mw_X7_51 : sj_mw RX7 51 m_X7_sees 1 := ⟨kw_540, kw_6, ⟨by decide, by decide, by decide +kernel⟩, Or.inl kw_537⟩
theorem vw_X7_sees : sj_vw 7 m_X7_sees := ⟨⟨_, rfl, rfl⟩, kw_539, ks_18⟩
theorem mw_X7_80 : sj_mw RX7 80 m_X7_readWord 0 := ⟨kw_462, kw_6, ⟨by decide, by decide, by decide +kernel⟩, Or.inl kw_459⟩
theorem vw_X7_readWord : sj_vw 7 m_X7_readWord := ⟨⟨_, rfl, rfl⟩, kw_461, ks_12⟩
theorem mw_X7_85 : sj_mw RX7 85 m_X7_isWord 1 := ⟨kw_471, kw_6, ⟨by decide, by decide, by decide +kernel⟩, Or.inl kw_468⟩
theorem vw_X7_isWord : sj_vw 7 m_X7_isWord := ⟨⟨_, rfl, rfl⟩, kw_470, ks_14⟩
theorem mw_X7_89 : sj_mw RX7 89 m_X7_readNumber 2 := ⟨kw_527, kw_6, ⟨by decide, by decide, by decide +kernel⟩, Or.inl kw_524⟩
theorem vw_X7_readNumber : sj_vw 7 m_X7_readNumber := ⟨⟨_, rfl, rfl⟩, kw_526, ks_16⟩
theorem mw_X7_92 : sj_mw RX7 92 m_X0_begin 2 := ⟨kw_319, kw_2, ⟨by decide, by decide, by decide +kernel⟩, Or.inr ⟨_, kw_532⟩⟩
theorem vw_X0_begin : sj_vw 0 m_X0_begin := ⟨⟨_, rfl, rfl⟩, kw_318, ks_0⟩
theorem mw_X7_95 : sj_mw RX7 95 m_X7_readEnd 0 := ⟨kw_536, kw_6, ⟨by decide, by decide, by decide +kernel⟩, Or.inl kw_533⟩
theorem vw_X7_readEnd : sj_vw 7 m_X7_readEnd := ⟨⟨_, rfl, rfl⟩, kw_535, ks_17⟩
theorem fw_X7_28 : sj_fw RX7 28 7 7 := ⟨_, rfl, by decide, Or.inl kw_210⟩
theorem mw_X7_117 : sj_mw RX7 117 m_X7_isNew 1 := ⟨kw_560, kw_6, ⟨by decide, by decide, by decide +kernel⟩, Or.inl kw_557⟩
theorem vw_X7_isNew : sj_vw 7 m_X7_isNew := ⟨⟨_, rfl, rfl⟩, kw_559, ks_21⟩
theorem fw_X7_122 : sj_fw RX7 122 0 0 := ⟨_, rfl, by decide, Or.inr ⟨_, kw_66⟩⟩
theorem fw_X7_164 : sj_fw RX7 164 0 11 := ⟨_, rfl, by decide, Or.inr ⟨_, kw_112⟩⟩
theorem fw_X7_167 : sj_fw RX7 167 0 12 := ⟨_, rfl, by decide, Or.inr ⟨_, kw_115⟩⟩
theorem fw_X7_170 : sj_fw RX7 170 0 13 := ⟨_, rfl, by decide, Or.inr ⟨_, kw_118⟩⟩
theorem fw_X7_155 : sj_fw RX7 155 0 8 := ⟨_, rfl, by decide, Or.inr ⟨_, kw_99⟩⟩
theorem fw_X7_158 : sj_fw RX7 158 0 9 := ⟨_, rfl, by decide, Or.inr ⟨_, kw_104⟩⟩
theorem fw_X7_161 : sj_fw RX7 161 0 10 := ⟨_, rfl, by decide, Or.inr ⟨_, kw_109⟩⟩
theorem mw_X7_173 : sj_mw RX7 173 m_X7_readTimes 1 := ⟨kw_568, kw_6, ⟨by decide, by decide, by decide +kernel⟩, Or.inl kw_565⟩
theorem vw_X7_readTimes : sj_vw 7 m_X7_readTimes := ⟨⟨_, rfl, rfl⟩, kw_567, ks_23⟩
theorem fw_X7_149 : sj_fw RX7 149 0 7 := ⟨_, rfl, by decide, Or.inr ⟨_, kw_96⟩⟩
theorem mw_X7_152 : sj_mw RX7 152 m_X8_topPlace 2 := ⟨kw_408, kw_1, ⟨by decide, by decide, by decide +kernel⟩, Or.inr ⟨_, kw_577⟩⟩
theorem mw_X7_125 : sj_mw RX7 125 m_X7_readRow 4 := ⟨kw_564, kw_6, ⟨by decide, by decide, by decide +kernel⟩, Or.inl kw_561⟩
theorem vw_X7_readRow : sj_vw 7 m_X7_readRow := ⟨⟨_, rfl, rfl⟩, kw_563, ks_22⟩
theorem fw_X7_147 : sj_fw RX7 147 0 2 := ⟨_, rfl, by decide, Or.inr ⟨_, kw_77⟩⟩
theorem mw_X7_114 : sj_mw RX7 114 m_X7_lineKind 0 := ⟨kw_548, kw_6, ⟨by decide, by decide, by decide +kernel⟩, Or.inl kw_545⟩
theorem vw_X7_lineKind : sj_vw 7 m_X7_lineKind := ⟨⟨_, rfl, rfl⟩, kw_547, ks_20⟩
theorem fw_X7_120 : sj_fw RX7 120 0 3 := ⟨_, rfl, by decide, Or.inr ⟨_, kw_82⟩⟩
theorem fw_X7_129 : sj_fw RX7 129 0 4 := ⟨_, rfl, by decide, Or.inr ⟨_, kw_87⟩⟩
theorem fw_X7_131 : sj_fw RX7 131 0 5 := ⟨_, rfl, by decide, Or.inr ⟨_, kw_90⟩⟩
theorem fw_X7_133 : sj_fw RX7 133 0 6 := ⟨_, rfl, by decide, Or.inr ⟨_, kw_93⟩⟩
theorem mw_X7_135 : sj_mw RX7 135 m_X7_readQuake 1 := ⟨kw_572, kw_6, ⟨by decide, by decide, by decide +kernel⟩, Or.inl kw_569⟩
theorem vw_X7_readQuake : sj_vw 7 m_X7_readQuake := ⟨⟨_, rfl, rfl⟩, kw_571, ks_24⟩
theorem mw_X7_138 : sj_mw RX7 138 m_X7_readTop 1 := ⟨kw_576, kw_6, ⟨by decide, by decide, by decide +kernel⟩, Or.inl kw_573⟩
theorem vw_X7_readTop : sj_vw 7 m_X7_readTop := ⟨⟨_, rfl, rfl⟩, kw_575, ks_25⟩
theorem mw_X7_141 : sj_mw RX7 141 m_X7_readSoil 1 := ⟨kw_581, kw_6, ⟨by decide, by decide, by decide +kernel⟩, Or.inl kw_578⟩
theorem vw_X7_readSoil : sj_vw 7 m_X7_readSoil := ⟨⟨_, rfl, rfl⟩, kw_580, ks_26⟩
theorem mw_X7_144 : sj_mw RX7 144 m_X7_readAnchor 1 := ⟨kw_585, kw_6, ⟨by decide, by decide, by decide +kernel⟩, Or.inl kw_582⟩
theorem vw_X7_readAnchor : sj_vw 7 m_X7_readAnchor := ⟨⟨_, rfl, rfl⟩, kw_584, ks_27⟩
theorem mw_X7_41 : sj_mw RX7 41 m_X0_rockIsBelow 0 := ⟨kw_589, kw_2, ⟨by decide, by decide, by decide +kernel⟩, Or.inr ⟨_, kw_586⟩⟩
theorem vw_X0_rockIsBelow : sj_vw 0 m_X0_rockIsBelow := ⟨⟨_, rfl, rfl⟩, kw_588, ks_28⟩
theorem mw_X7_38 : sj_mw RX7 38 m_X7_readLine 1 := ⟨kw_544, kw_6, ⟨by decide, by decide, by decide +kernel⟩, Or.inl kw_541⟩
theorem vw_X7_readLine : sj_vw 7 m_X7_readLine := ⟨⟨_, rfl, rfl⟩, kw_543, ks_19⟩
theorem mw_X7_34 : sj_mw RX7 34 m_X7_readColumns 1 := ⟨kw_458, kw_6, ⟨by decide, by decide, by decide +kernel⟩, Or.inl kw_455⟩
theorem vw_X7_readColumns : sj_vw 7 m_X7_readColumns := ⟨⟨_, rfl, rfl⟩, kw_457, ks_11⟩
theorem fw_X8_39 : sj_fw RX8 39 8 6 := ⟨_, rfl, by decide, Or.inl kw_333⟩
theorem nw_X8_9 : sj_nw RX8 9 0 15 := ⟨_, rfl, kw_26, kw_27, kw_2, rfl⟩
theorem mw_X8_11 : sj_mw RX8 11 m_X0_init 0 := ⟨kw_30, kw_2, ⟨by decide, by decide, by decide +kernel⟩, Or.inr ⟨_, kw_28⟩⟩
theorem ow_X8_3 : sj_ow RX8 3 := ⟨kw_23, kw_24, kw_25⟩
theorem ff_X8_12 : ∃ q : vw_C, vwCl[8]? = some q ∧ 0 < q.2.2 ∧ Cond.fieldLink RX8 12 (q.2.1 0).1 (q.2.1 0).2.1 (q.2.1 0).2.2.1 ∈ sj_kw ∧ (q.2.1 0).2.2.2 = true ∧ (q.2.1 0).1 = RX8 := ⟨_, rfl, by decide, kw_327, rfl, rfl⟩
theorem ff_X8_16 : ∃ q : vw_C, vwCl[8]? = some q ∧ 1 < q.2.2 ∧ Cond.fieldLink RX8 16 (q.2.1 1).1 (q.2.1 1).2.1 (q.2.1 1).2.2.1 ∈ sj_kw ∧ (q.2.1 1).2.2.2 = true ∧ (q.2.1 1).1 = RX8 := ⟨_, rfl, by decide, kw_328, rfl, rfl⟩
theorem ff_X8_19 : ∃ q : vw_C, vwCl[8]? = some q ∧ 2 < q.2.2 ∧ Cond.fieldLink RX8 19 (q.2.1 2).1 (q.2.1 2).2.1 (q.2.1 2).2.2.1 ∈ sj_kw ∧ (q.2.1 2).2.2.2 = true ∧ (q.2.1 2).1 = RX8 := ⟨_, rfl, by decide, kw_329, rfl, rfl⟩
theorem nw_X8_22 : sj_nw RX8 22 1 4 := ⟨_, rfl, kw_152, kw_153, kw_4, rfl⟩
theorem mw_X8_24 : sj_mw RX8 24 m_X1_init 0 := ⟨kw_156, kw_4, ⟨by decide, by decide, by decide +kernel⟩, Or.inr ⟨_, kw_154⟩⟩
theorem ff_X8_25 : ∃ q : vw_C, vwCl[8]? = some q ∧ 3 < q.2.2 ∧ Cond.fieldLink RX8 25 (q.2.1 3).1 (q.2.1 3).2.1 (q.2.1 3).2.2.1 ∈ sj_kw ∧ (q.2.1 3).2.2.2 = true ∧ (q.2.1 3).1 = RX8 := ⟨_, rfl, by decide, kw_330, rfl, rfl⟩
theorem ff_X8_29 : ∃ q : vw_C, vwCl[8]? = some q ∧ 4 < q.2.2 ∧ Cond.fieldLink RX8 29 (q.2.1 4).1 (q.2.1 4).2.1 (q.2.1 4).2.2.1 ∈ sj_kw ∧ (q.2.1 4).2.2.2 = true ∧ (q.2.1 4).1 = RX8 := ⟨_, rfl, by decide, kw_331, rfl, rfl⟩
theorem nw_X8_32 : sj_nw RX8 32 2 2 := ⟨_, rfl, kw_178, kw_179, kw_5, rfl⟩
theorem mw_X8_34 : sj_mw RX8 34 m_X2_init 0 := ⟨kw_182, kw_5, ⟨by decide, by decide, by decide +kernel⟩, Or.inr ⟨_, kw_180⟩⟩
theorem ff_X8_35 : ∃ q : vw_C, vwCl[8]? = some q ∧ 5 < q.2.2 ∧ Cond.fieldLink RX8 35 (q.2.1 5).1 (q.2.1 5).2.1 (q.2.1 5).2.2.1 ∈ sj_kw ∧ (q.2.1 5).2.2.2 = true ∧ (q.2.1 5).1 = RX8 := ⟨_, rfl, by decide, kw_332, rfl, rfl⟩
theorem ff_X8_39 : ∃ q : vw_C, vwCl[8]? = some q ∧ 6 < q.2.2 ∧ Cond.fieldLink RX8 39 (q.2.1 6).1 (q.2.1 6).2.1 (q.2.1 6).2.2.1 ∈ sj_kw ∧ (q.2.1 6).2.2.2 = true ∧ (q.2.1 6).1 = RX8 := ⟨_, rfl, by decide, kw_333, rfl, rfl⟩
theorem nw_X8_43 : sj_nw RX8 43 7 8 := ⟨_, rfl, kw_194, kw_195, kw_6, rfl⟩
theorem mw_X8_45 : sj_mw RX8 45 m_X7_init 0 := ⟨kw_198, kw_6, ⟨by decide, by decide, by decide +kernel⟩, Or.inr ⟨_, kw_196⟩⟩
theorem ff_X8_46 : ∃ q : vw_C, vwCl[8]? = some q ∧ 7 < q.2.2 ∧ Cond.fieldLink RX8 46 (q.2.1 7).1 (q.2.1 7).2.1 (q.2.1 7).2.2.1 ∈ sj_kw ∧ (q.2.1 7).2.2.2 = true ∧ (q.2.1 7).1 = RX8 := ⟨_, rfl, by decide, kw_334, rfl, rfl⟩
theorem nw_X8_50 : sj_nw RX8 50 4 11 := ⟨_, rfl, kw_228, kw_229, kw_7, rfl⟩
theorem mw_X8_52 : sj_mw RX8 52 m_X4_init 0 := ⟨kw_232, kw_7, ⟨by decide, by decide, by decide +kernel⟩, Or.inr ⟨_, kw_230⟩⟩
theorem ff_X8_53 : ∃ q : vw_C, vwCl[8]? = some q ∧ 8 < q.2.2 ∧ Cond.fieldLink RX8 53 (q.2.1 8).1 (q.2.1 8).2.1 (q.2.1 8).2.2.1 ∈ sj_kw ∧ (q.2.1 8).2.2.2 = true ∧ (q.2.1 8).1 = RX8 := ⟨_, rfl, by decide, kw_335, rfl, rfl⟩
theorem nw_X8_57 : sj_nw RX8 57 3 7 := ⟨_, rfl, kw_277, kw_278, kw_8, rfl⟩
theorem mw_X8_59 : sj_mw RX8 59 m_X3_init 0 := ⟨kw_281, kw_8, ⟨by decide, by decide, by decide +kernel⟩, Or.inr ⟨_, kw_279⟩⟩
theorem ff_X8_60 : ∃ q : vw_C, vwCl[8]? = some q ∧ 9 < q.2.2 ∧ Cond.fieldLink RX8 60 (q.2.1 9).1 (q.2.1 9).2.1 (q.2.1 9).2.2.1 ∈ sj_kw ∧ (q.2.1 9).2.2.2 = true ∧ (q.2.1 9).1 = RX8 := ⟨_, rfl, by decide, kw_336, rfl, rfl⟩
theorem nw_X8_64 : sj_nw RX8 64 5 4 := ⟨_, rfl, kw_314, kw_33, kw_3, rfl⟩
theorem mw_X8_66 : sj_mw RX8 66 m_X5_init 0 := ⟨kw_36, kw_3, ⟨by decide, by decide, by decide +kernel⟩, Or.inr ⟨_, kw_315⟩⟩
theorem ff_X8_67 : ∃ q : vw_C, vwCl[8]? = some q ∧ 10 < q.2.2 ∧ Cond.fieldLink RX8 67 (q.2.1 10).1 (q.2.1 10).2.1 (q.2.1 10).2.2.1 ∈ sj_kw ∧ (q.2.1 10).2.2.2 = true ∧ (q.2.1 10).1 = RX8 := ⟨_, rfl, by decide, kw_337, rfl, rfl⟩
theorem fw_X8_12 : sj_fw RX8 12 8 0 := ⟨_, rfl, by decide, Or.inl kw_327⟩
theorem mw_X8_71 : sj_mw RX8 71 m_X0_begin 2 := ⟨kw_319, kw_2, ⟨by decide, by decide, by decide +kernel⟩, Or.inr ⟨_, kw_316⟩⟩
theorem fw_X8_205 : sj_fw RX8 205 8 14 := ⟨_, rfl, by decide, Or.inl kw_341⟩
theorem mw_X8_148 : sj_mw RX8 148 m_X0_copy 1 := ⟨kw_384, kw_2, ⟨by decide, by decide, by decide +kernel⟩, Or.inr ⟨_, kw_381⟩⟩
theorem vw_X0_copy : sj_vw 0 m_X0_copy := ⟨⟨_, rfl, rfl⟩, kw_383, ks_3⟩
theorem fw_X8_208 : sj_fw RX8 208 8 13 := ⟨_, rfl, by decide, Or.inl kw_340⟩
theorem mw_X8_75 : sj_mw RX8 75 m_X8_keepAct 0 := ⟨kw_380, kw_1, ⟨by decide, by decide, by decide +kernel⟩, Or.inl kw_377⟩
theorem vw_X8_keepAct : sj_vw 8 m_X8_keepAct := ⟨⟨_, rfl, rfl⟩, kw_379, ks_2⟩
theorem fw_X8_100 : sj_fw RX8 100 0 3 := ⟨_, rfl, by decide, Or.inr ⟨_, kw_80⟩⟩
theorem fw_X8_103 : sj_fw RX8 103 0 4 := ⟨_, rfl, by decide, Or.inr ⟨_, kw_85⟩⟩
theorem fw_X8_106 : sj_fw RX8 106 0 14 := ⟨_, rfl, by decide, Or.inr ⟨_, kw_120⟩⟩
theorem mw_X8_109 : sj_mw RX8 109 m_X5_drop 0 := ⟨kw_326, kw_3, ⟨by decide, by decide, by decide +kernel⟩, Or.inr ⟨_, kw_405⟩⟩
theorem fw_X8_93 : sj_fw RX8 93 0 7 := ⟨_, rfl, by decide, Or.inr ⟨_, kw_95⟩⟩
theorem mw_X8_96 : sj_mw RX8 96 m_X8_topPlace 2 := ⟨kw_408, kw_1, ⟨by decide, by decide, by decide +kernel⟩, Or.inl kw_406⟩
theorem fw_X8_90 : sj_fw RX8 90 0 6 := ⟨_, rfl, by decide, Or.inr ⟨_, kw_92⟩⟩
theorem fw_X8_86 : sj_fw RX8 86 0 5 := ⟨_, rfl, by decide, Or.inr ⟨_, kw_89⟩⟩
theorem mw_X8_78 : sj_mw RX8 78 m_X0_hasColumn 1 := ⟨kw_400, kw_2, ⟨by decide, by decide, by decide +kernel⟩, Or.inr ⟨_, kw_397⟩⟩
theorem mw_X8_82 : sj_mw RX8 82 m_X8_tellRock 2 := ⟨kw_404, kw_1, ⟨by decide, by decide, by decide +kernel⟩, Or.inl kw_401⟩
theorem vw_X8_tellRock : sj_vw 8 m_X8_tellRock := ⟨⟨_, rfl, rfl⟩, kw_403, ks_6⟩
theorem mw_X8_112 : sj_mw RX8 112 m_X0_canLower 2 := ⟨kw_416, kw_2, ⟨by decide, by decide, by decide +kernel⟩, Or.inr ⟨_, kw_413⟩⟩
theorem vw_X0_canLower : sj_vw 0 m_X0_canLower := ⟨⟨_, rfl, rfl⟩, kw_415, ks_7⟩
theorem fw_X8_115 : sj_fw RX8 115 0 8 := ⟨_, rfl, by decide, Or.inr ⟨_, kw_98⟩⟩
theorem fw_X8_118 : sj_fw RX8 118 0 9 := ⟨_, rfl, by decide, Or.inr ⟨_, kw_102⟩⟩
theorem fw_X8_121 : sj_fw RX8 121 0 10 := ⟨_, rfl, by decide, Or.inr ⟨_, kw_107⟩⟩
theorem fw_X8_124 : sj_fw RX8 124 0 2 := ⟨_, rfl, by decide, Or.inr ⟨_, kw_75⟩⟩
theorem fw_X8_128 : sj_fw RX8 128 0 11 := ⟨_, rfl, by decide, Or.inr ⟨_, kw_111⟩⟩
theorem fw_X8_131 : sj_fw RX8 131 0 12 := ⟨_, rfl, by decide, Or.inr ⟨_, kw_114⟩⟩
theorem fw_X8_134 : sj_fw RX8 134 0 13 := ⟨_, rfl, by decide, Or.inr ⟨_, kw_117⟩⟩
theorem fw_X8_46 : sj_fw RX8 46 8 7 := ⟨_, rfl, by decide, Or.inl kw_334⟩
theorem fw_X8_137 : sj_fw RX8 137 7 1 := ⟨_, rfl, by decide, Or.inr ⟨_, kw_202⟩⟩
theorem mw_X8_140 : sj_mw RX8 140 m_X7_put 1 := ⟨kw_438, kw_6, ⟨by decide, by decide, by decide +kernel⟩, Or.inr ⟨_, kw_435⟩⟩
theorem vw_X7_put : sj_vw 7 m_X7_put := ⟨⟨_, rfl, rfl⟩, kw_437, ks_8⟩
theorem fw_X8_16 : sj_fw RX8 16 8 1 := ⟨_, rfl, by decide, Or.inl kw_328⟩
theorem mw_X8_144 : sj_mw RX8 144 m_X7_read 1 := ⟨kw_450, kw_6, ⟨by decide, by decide, by decide +kernel⟩, Or.inr ⟨_, kw_447⟩⟩
theorem vw_X7_read : sj_vw 7 m_X7_read := ⟨⟨_, rfl, rfl⟩, kw_449, ks_9⟩
theorem fw_X8_155 : sj_fw RX8 155 7 4 := ⟨_, rfl, by decide, Or.inr ⟨_, kw_207⟩⟩
theorem fw_X8_152 : sj_fw RX8 152 7 3 := ⟨_, rfl, by decide, Or.inr ⟨_, kw_205⟩⟩
theorem fw_X8_67 : sj_fw RX8 67 8 10 := ⟨_, rfl, by decide, Or.inl kw_337⟩
theorem mw_X8_196 : sj_mw RX8 196 m_X5_copy 1 := ⟨kw_391, kw_3, ⟨by decide, by decide, by decide +kernel⟩, Or.inr ⟨_, kw_620⟩⟩
theorem mw_X8_199 : sj_mw RX8 199 m_X5_count 0 := ⟨kw_624, kw_3, ⟨by decide, by decide, by decide +kernel⟩, Or.inr ⟨_, kw_621⟩⟩
theorem mw_X8_158 : sj_mw RX8 158 m_X8_isCircle 3 := ⟨kw_601, kw_1, ⟨by decide, by decide, by decide +kernel⟩, Or.inl kw_599⟩
theorem mw_X8_162 : sj_mw RX8 162 m_X5_cut 5 := ⟨kw_605, kw_3, ⟨by decide, by decide, by decide +kernel⟩, Or.inr ⟨_, kw_602⟩⟩
theorem mw_X8_166 : sj_mw RX8 166 m_X8_takeTrial 0 := ⟨kw_619, kw_1, ⟨by decide, by decide, by decide +kernel⟩, Or.inl kw_616⟩
theorem vw_X8_takeTrial : sj_vw 8 m_X8_takeTrial := ⟨⟨_, rfl, rfl⟩, kw_618, ks_31⟩
theorem fw_X8_25 : sj_fw RX8 25 8 3 := ⟨_, rfl, by decide, Or.inl kw_330⟩
theorem fw_X8_170 : sj_fw RX8 170 1 2 := ⟨_, rfl, by decide, Or.inr ⟨_, kw_166⟩⟩
theorem fw_X8_173 : sj_fw RX8 173 1 0 := ⟨_, rfl, by decide, Or.inr ⟨_, kw_160⟩⟩
theorem fw_X8_176 : sj_fw RX8 176 1 1 := ⟨_, rfl, by decide, Or.inr ⟨_, kw_163⟩⟩
theorem mw_X8_179 : sj_mw RX8 179 m_X5_follow 3 := ⟨kw_636, kw_3, ⟨by decide, by decide, by decide +kernel⟩, Or.inr ⟨_, kw_633⟩⟩
theorem vw_X5_follow : sj_vw 5 m_X5_follow := ⟨⟨_, rfl, rfl⟩, kw_635, ks_33⟩
theorem fw_X8_397 : sj_fw RX8 397 8 11 := ⟨_, rfl, by decide, Or.inl kw_338⟩
theorem mw_X8_402 : sj_mw RX8 402 m_X6_judge 3 := ⟨kw_707, kw_17, ⟨by decide, by decide, by decide +kernel⟩, Or.inr ⟨_, kw_704⟩⟩
theorem vw_X6_judge : sj_vw 6 m_X6_judge := ⟨⟨_, rfl, rfl⟩, kw_706, ks_35⟩
theorem nw_X8_188 : sj_nw RX8 188 6 14 := ⟨_, rfl, kw_651, kw_652, kw_17, rfl⟩
theorem mw_X8_401 : sj_mw RX8 401 m_X6_init 0 := ⟨kw_655, kw_17, ⟨by decide, by decide, by decide +kernel⟩, Or.inr ⟨_, kw_653⟩⟩
theorem mw_X8_183 : sj_mw RX8 183 m_X8_tableOf 2 := ⟨kw_650, kw_1, ⟨by decide, by decide, by decide +kernel⟩, Or.inl kw_647⟩
theorem vw_X8_tableOf : sj_vw 8 m_X8_tableOf := ⟨⟨_, rfl, rfl⟩, kw_649, ks_34⟩
theorem fw_X8_187 : sj_fw RX8 187 6 4 := ⟨_, rfl, by decide, Or.inr ⟨_, kw_664⟩⟩
theorem mw_X8_192 : sj_mw RX8 192 m_X5_isNone 0 := ⟨kw_765, kw_3, ⟨by decide, by decide, by decide +kernel⟩, Or.inr ⟨_, kw_762⟩⟩
theorem mw_X8_202 : sj_mw RX8 202 m_X0_turn 0 := ⟨kw_773, kw_2, ⟨by decide, by decide, by decide +kernel⟩, Or.inr ⟨_, kw_770⟩⟩
theorem vw_X0_turn : sj_vw 0 m_X0_turn := ⟨⟨_, rfl, rfl⟩, kw_772, ks_48⟩
theorem fw_X8_214 : sj_fw RX8 214 8 12 := ⟨_, rfl, by decide, Or.inl kw_339⟩
theorem fw_X8_19 : sj_fw RX8 19 8 2 := ⟨_, rfl, by decide, Or.inl kw_329⟩
theorem fw_X8_29 : sj_fw RX8 29 8 4 := ⟨_, rfl, by decide, Or.inl kw_331⟩
theorem mw_X8_211 : sj_mw RX8 211 m_X1_copy 1 := ⟨kw_790, kw_4, ⟨by decide, by decide, by decide +kernel⟩, Or.inr ⟨_, kw_787⟩⟩
theorem vw_X1_copy : sj_vw 1 m_X1_copy := ⟨⟨_, rfl, rfl⟩, kw_789, ks_50⟩
theorem mw_X8_218 : sj_mw RX8 218 m_X0_waterAt 1 := ⟨kw_799, kw_2, ⟨by decide, by decide, by decide +kernel⟩, Or.inr ⟨_, kw_796⟩⟩
theorem vw_X0_waterAt : sj_vw 0 m_X0_waterAt := ⟨⟨_, rfl, rfl⟩, kw_798, ks_51⟩
theorem mw_X8_222 : sj_mw RX8 222 m_X0_topAt 2 := ⟨kw_732, kw_2, ⟨by decide, by decide, by decide +kernel⟩, Or.inr ⟨_, kw_800⟩⟩
theorem mw_X8_225 : sj_mw RX8 225 m_X5_baseAt 1 := ⟨kw_804, kw_3, ⟨by decide, by decide, by decide +kernel⟩, Or.inr ⟨_, kw_801⟩⟩
theorem vw_X5_baseAt : sj_vw 5 m_X5_baseAt := ⟨⟨_, rfl, rfl⟩, kw_803, ks_52⟩
theorem mw_X8_228 : sj_mw RX8 228 m_X0_anchorCounts 2 := ⟨kw_817, kw_2, ⟨by decide, by decide, by decide +kernel⟩, Or.inr ⟨_, kw_814⟩⟩
theorem fw_X8_232 : sj_fw RX8 232 0 0 := ⟨_, rfl, by decide, Or.inr ⟨_, kw_67⟩⟩
theorem fw_X8_235 : sj_fw RX8 235 0 1 := ⟨_, rfl, by decide, Or.inr ⟨_, kw_72⟩⟩
theorem mw_X8_238 : sj_mw RX8 238 m_X0_anchorSet 0 := ⟨kw_825, kw_2, ⟨by decide, by decide, by decide +kernel⟩, Or.inr ⟨_, kw_822⟩⟩
theorem vw_X0_anchorSet : sj_vw 0 m_X0_anchorSet := ⟨⟨_, rfl, rfl⟩, kw_824, ks_54⟩
theorem fw_X8_241 : sj_fw RX8 241 5 1 := ⟨_, rfl, by decide, Or.inr ⟨_, kw_45⟩⟩
theorem fw_X8_244 : sj_fw RX8 244 5 2 := ⟨_, rfl, by decide, Or.inr ⟨_, kw_48⟩⟩
theorem fw_X8_247 : sj_fw RX8 247 5 3 := ⟨_, rfl, by decide, Or.inr ⟨_, kw_52⟩⟩
theorem mw_X8_250 : sj_mw RX8 250 m_X0_greatestGround 0 := ⟨kw_829, kw_2, ⟨by decide, by decide, by decide +kernel⟩, Or.inr ⟨_, kw_826⟩⟩
theorem vw_X0_greatestGround : sj_vw 0 m_X0_greatestGround := ⟨⟨_, rfl, rfl⟩, kw_828, ks_55⟩
theorem mw_X8_253 : sj_mw RX8 253 m_X0_allSoil 0 := ⟨kw_833, kw_2, ⟨by decide, by decide, by decide +kernel⟩, Or.inr ⟨_, kw_830⟩⟩
theorem vw_X0_allSoil : sj_vw 0 m_X0_allSoil := ⟨⟨_, rfl, rfl⟩, kw_832, ks_56⟩
theorem fw_X8_256 : sj_fw RX8 256 1 3 := ⟨_, rfl, by decide, Or.inr ⟨_, kw_168⟩⟩
theorem fw_X8_53 : sj_fw RX8 53 8 8 := ⟨_, rfl, by decide, Or.inl kw_335⟩
theorem mw_X8_259 : sj_mw RX8 259 m_X4_weigh 2 := ⟨kw_845, kw_7, ⟨by decide, by decide, by decide +kernel⟩, Or.inr ⟨_, kw_842⟩⟩
theorem mw_X8_263 : sj_mw RX8 263 m_X4_settle 2 := ⟨kw_864, kw_7, ⟨by decide, by decide, by decide +kernel⟩, Or.inr ⟨_, kw_861⟩⟩
theorem kc_X8_270 : Cond.constantLong RX8 270 (Int64.ofInt (-10000000000000)) ∈ sj_kw := by
  rw [show Int64.ofInt (-10000000000000) = (-10000000000000 : Int64) by decide]
  exact kw_872
theorem mw_X8_267 : sj_mw RX8 267 m_X8_cutUp 0 := ⟨kw_841, kw_1, ⟨by decide, by decide, by decide +kernel⟩, Or.inl kw_838⟩
theorem vw_X8_cutUp : sj_vw 8 m_X8_cutUp := ⟨⟨_, rfl, rfl⟩, kw_840, ks_57⟩
theorem fw_X8_272 : sj_fw RX8 272 4 0 := ⟨_, rfl, by decide, Or.inr ⟨_, kw_235⟩⟩
theorem fw_X8_275 : sj_fw RX8 275 4 1 := ⟨_, rfl, by decide, Or.inr ⟨_, kw_237⟩⟩
theorem fw_X8_276 : sj_fw RX8 276 4 2 := ⟨_, rfl, by decide, Or.inr ⟨_, kw_239⟩⟩
theorem mw_X8_279 : sj_mw RX8 279 m_X4_press 1 := ⟨kw_869, kw_7, ⟨by decide, by decide, by decide +kernel⟩, Or.inr ⟨_, kw_873⟩⟩
theorem fw_X8_282 : sj_fw RX8 282 4 3 := ⟨_, rfl, by decide, Or.inr ⟨_, kw_241⟩⟩
theorem fw_X8_285 : sj_fw RX8 285 4 4 := ⟨_, rfl, by decide, Or.inr ⟨_, kw_243⟩⟩
theorem fw_X8_289 : sj_fw RX8 289 4 5 := ⟨_, rfl, by decide, Or.inr ⟨_, kw_245⟩⟩
theorem kc_X8_295 : Cond.constantLong RX8 295 (Int64.ofInt (-10)) ∈ sj_kw := by
  rw [show Int64.ofInt (-10) = (-10 : Int64) by decide]
  exact kw_881
theorem mw_X8_292 : sj_mw RX8 292 m_X8_isK 1 := ⟨kw_880, kw_1, ⟨by decide, by decide, by decide +kernel⟩, Or.inl kw_878⟩
theorem mw_X8_297 : sj_mw RX8 297 m_X4_rubsOf 2 := ⟨kw_885, kw_7, ⟨by decide, by decide, by decide +kernel⟩, Or.inr ⟨_, kw_882⟩⟩
theorem mw_X8_301 : sj_mw RX8 301 m_X4_hold 1 := ⟨kw_894, kw_7, ⟨by decide, by decide, by decide +kernel⟩, Or.inr ⟨_, kw_891⟩⟩
theorem mw_X8_303 : sj_mw RX8 303 m_X4_leastBound 1 := ⟨kw_907, kw_7, ⟨by decide, by decide, by decide +kernel⟩, Or.inr ⟨_, kw_904⟩⟩
theorem mw_X8_306 : sj_mw RX8 306 m_X4_allPushes 0 := ⟨kw_916, kw_7, ⟨by decide, by decide, by decide +kernel⟩, Or.inr ⟨_, kw_913⟩⟩
theorem vw_X4_allPushes : sj_vw 4 m_X4_allPushes := ⟨⟨_, rfl, rfl⟩, kw_915, ks_67⟩
theorem fw_X8_310 : sj_fw RX8 310 4 10 := ⟨_, rfl, by decide, Or.inr ⟨_, kw_252⟩⟩
theorem mw_X8_314 : sj_mw RX8 314 m_X4_allWeights 0 := ⟨kw_920, kw_7, ⟨by decide, by decide, by decide +kernel⟩, Or.inr ⟨_, kw_917⟩⟩
theorem vw_X4_allWeights : sj_vw 4 m_X4_allWeights := ⟨⟨_, rfl, rfl⟩, kw_919, ks_68⟩
theorem mw_X8_317 : sj_mw RX8 317 m_X4_allLifts 0 := ⟨kw_924, kw_7, ⟨by decide, by decide, by decide +kernel⟩, Or.inr ⟨_, kw_921⟩⟩
theorem vw_X4_allLifts : sj_vw 4 m_X4_allLifts := ⟨⟨_, rfl, rfl⟩, kw_923, ks_69⟩
theorem mw_X8_320 : sj_mw RX8 320 m_X4_allStrengths 0 := ⟨kw_928, kw_7, ⟨by decide, by decide, by decide +kernel⟩, Or.inr ⟨_, kw_925⟩⟩
theorem vw_X4_allStrengths : sj_vw 4 m_X4_allStrengths := ⟨⟨_, rfl, rfl⟩, kw_927, ks_70⟩
theorem mw_X8_323 : sj_mw RX8 323 m_X0_dryUp 0 := ⟨kw_936, kw_2, ⟨by decide, by decide, by decide +kernel⟩, Or.inr ⟨_, kw_933⟩⟩
theorem vw_X0_dryUp : sj_vw 0 m_X0_dryUp := ⟨⟨_, rfl, rfl⟩, kw_935, ks_71⟩
theorem mw_X8_326 : sj_mw RX8 326 m_X0_raiseWater 0 := ⟨kw_944, kw_2, ⟨by decide, by decide, by decide +kernel⟩, Or.inr ⟨_, kw_941⟩⟩
theorem vw_X0_raiseWater : sj_vw 0 m_X0_raiseWater := ⟨⟨_, rfl, rfl⟩, kw_943, ks_72⟩
theorem mw_X8_329 : sj_mw RX8 329 m_X4_lack 1 := ⟨kw_898, kw_7, ⟨by decide, by decide, by decide +kernel⟩, Or.inr ⟨_, kw_953⟩⟩
theorem kc_X8_333 : Cond.constantLong RX8 333 (Int64.ofInt (2000)) ∈ sj_kw := by
  rw [show Int64.ofInt (2000) = (2000 : Int64) by decide]
  exact kw_954
theorem kc_X8_335 : Cond.constantLong RX8 335 (Int64.ofInt (20000)) ∈ sj_kw := by
  rw [show Int64.ofInt (20000) = (20000 : Int64) by decide]
  exact kw_955
theorem mw_X8_337 : sj_mw RX8 337 m_X4_burden 3 := ⟨kw_963, kw_7, ⟨by decide, by decide, by decide +kernel⟩, Or.inr ⟨_, kw_960⟩⟩
theorem vw_X4_burden : sj_vw 4 m_X4_burden := ⟨⟨_, rfl, rfl⟩, kw_962, ks_73⟩
theorem mw_X8_341 : sj_mw RX8 341 m_X0_slipArea 0 := ⟨kw_971, kw_2, ⟨by decide, by decide, by decide +kernel⟩, Or.inr ⟨_, kw_968⟩⟩
theorem vw_X0_slipArea : sj_vw 0 m_X0_slipArea := ⟨⟨_, rfl, rfl⟩, kw_970, ks_74⟩
theorem mw_X8_344 : sj_mw RX8 344 m_X0_thickest 0 := ⟨kw_979, kw_2, ⟨by decide, by decide, by decide +kernel⟩, Or.inr ⟨_, kw_976⟩⟩
theorem vw_X0_thickest : sj_vw 0 m_X0_thickest := ⟨⟨_, rfl, rfl⟩, kw_978, ks_76⟩
theorem mw_X8_347 : sj_mw RX8 347 m_X0_thickAt 1 := ⟨kw_975, kw_2, ⟨by decide, by decide, by decide +kernel⟩, Or.inr ⟨_, kw_980⟩⟩
theorem mw_X8_350 : sj_mw RX8 350 m_X5_leastBase 0 := ⟨kw_984, kw_3, ⟨by decide, by decide, by decide +kernel⟩, Or.inr ⟨_, kw_981⟩⟩
theorem vw_X5_leastBase : sj_vw 5 m_X5_leastBase := ⟨⟨_, rfl, rfl⟩, kw_983, ks_77⟩
theorem mw_X8_353 : sj_mw RX8 353 m_X4_countFalling 0 := ⟨kw_989, kw_7, ⟨by decide, by decide, by decide +kernel⟩, Or.inr ⟨_, kw_986⟩⟩
theorem vw_X4_countFalling : sj_vw 4 m_X4_countFalling := ⟨⟨_, rfl, rfl⟩, kw_988, ks_78⟩
theorem mw_X8_356 : sj_mw RX8 356 m_X4_countAfloat 0 := ⟨kw_993, kw_7, ⟨by decide, by decide, by decide +kernel⟩, Or.inr ⟨_, kw_990⟩⟩
theorem vw_X4_countAfloat : sj_vw 4 m_X4_countAfloat := ⟨⟨_, rfl, rfl⟩, kw_992, ks_79⟩
theorem mw_X8_361 : sj_mw RX8 361 m_X4_isFast 2 := ⟨kw_1002, kw_7, ⟨by decide, by decide, by decide +kernel⟩, Or.inr ⟨_, kw_999⟩⟩
theorem vw_X4_isFast : sj_vw 4 m_X4_isFast := ⟨⟨_, rfl, rfl⟩, kw_1001, ks_80⟩
theorem mw_X8_364 : sj_mw RX8 364 m_X4_thrustOf 2 := ⟨kw_1006, kw_7, ⟨by decide, by decide, by decide +kernel⟩, Or.inr ⟨_, kw_1003⟩⟩
theorem vw_X4_thrustOf : sj_vw 4 m_X4_thrustOf := ⟨⟨_, rfl, rfl⟩, kw_1005, ks_81⟩
theorem kc_X8_359 : Cond.constantLong RX8 359 (Int64.ofInt (-10000000000000000)) ∈ sj_kw := by
  rw [show Int64.ofInt (-10000000000000000) = (-10000000000000000 : Int64) by decide]
  exact kw_998
theorem fw_X8_367 : sj_fw RX8 367 4 8 := ⟨_, rfl, by decide, Or.inr ⟨_, kw_249⟩⟩
theorem fw_X8_60 : sj_fw RX8 60 8 9 := ⟨_, rfl, by decide, Or.inl kw_336⟩
theorem mw_X8_369 : sj_mw RX8 369 m_X3_ask 6 := ⟨kw_1022, kw_8, ⟨by decide, by decide, by decide +kernel⟩, Or.inr ⟨_, kw_1019⟩⟩
theorem mw_X8_373 : sj_mw RX8 373 m_X3_seek 6 := ⟨kw_1035, kw_8, ⟨by decide, by decide, by decide +kernel⟩, Or.inr ⟨_, kw_1032⟩⟩
theorem vw_X3_seek : sj_vw 3 m_X3_seek := ⟨⟨_, rfl, rfl⟩, kw_1034, ks_83⟩
theorem fw_X8_377 : sj_fw RX8 377 3 5 := ⟨_, rfl, by decide, Or.inr ⟨_, kw_296⟩⟩
theorem fw_X8_380 : sj_fw RX8 380 3 2 := ⟨_, rfl, by decide, Or.inr ⟨_, kw_290⟩⟩
theorem fw_X8_383 : sj_fw RX8 383 3 3 := ⟨_, rfl, by decide, Or.inr ⟨_, kw_292⟩⟩
theorem fw_X8_386 : sj_fw RX8 386 3 4 := ⟨_, rfl, by decide, Or.inr ⟨_, kw_294⟩⟩
theorem fw_X8_389 : sj_fw RX8 389 3 6 := ⟨_, rfl, by decide, Or.inr ⟨_, kw_298⟩⟩
theorem mx_X8_392 : sj_miw RX8 392 := ⟨kw_1052, kw_530, kw_16, kw_531⟩
theorem fw_X8_406 : sj_fw RX8 406 6 9 := ⟨_, rfl, by decide, Or.inr ⟨_, kw_670⟩⟩
theorem mw_X8_409 : sj_mw RX8 409 m_X1_draw 1 := ⟨kw_1072, kw_4, ⟨by decide, by decide, by decide +kernel⟩, Or.inr ⟨_, kw_1069⟩⟩
theorem vw_X1_draw : sj_vw 1 m_X1_draw := ⟨⟨_, rfl, rfl⟩, kw_1071, ks_85⟩
theorem mw_X8_416 : sj_mw RX8 416 m_X2_write 1 := ⟨kw_1090, kw_5, ⟨by decide, by decide, by decide +kernel⟩, Or.inr ⟨_, kw_1091⟩⟩
theorem fw_X8_35 : sj_fw RX8 35 8 5 := ⟨_, rfl, by decide, Or.inl kw_332⟩
theorem fw_X8_412 : sj_fw RX8 412 2 1 := ⟨_, rfl, by decide, Or.inr ⟨_, kw_187⟩⟩
theorem mw_X8_413 : sj_mw RX8 413 m_X2_writeFactor 1 := ⟨kw_1082, kw_5, ⟨by decide, by decide, by decide +kernel⟩, Or.inr ⟨_, kw_1079⟩⟩
theorem vw_X2_writeFactor : sj_vw 2 m_X2_writeFactor := ⟨⟨_, rfl, rfl⟩, kw_1081, ks_86⟩
theorem mw_X8_419 : sj_mw RX8 419 m_X2_writeNumber 1 := ⟨kw_1086, kw_5, ⟨by decide, by decide, by decide +kernel⟩, Or.inr ⟨_, kw_1092⟩⟩
theorem fw_X8_422 : sj_fw RX8 422 2 0 := ⟨_, rfl, by decide, Or.inr ⟨_, kw_185⟩⟩
theorem fw_X9_9 : sj_fw RX9 9 9 0 := ⟨_, rfl, by decide, Or.inl kw_1107⟩
theorem ow_X9_3 : sj_ow RX9 3 := ⟨kw_1102, kw_24, kw_25⟩
theorem ff_X9_9 : ∃ q : vw_C, vwCl[9]? = some q ∧ 0 < q.2.2 ∧ Cond.fieldLink RX9 9 (q.2.1 0).1 (q.2.1 0).2.1 (q.2.1 0).2.2.1 ∈ sj_kw ∧ (q.2.1 0).2.2.2 = true ∧ (q.2.1 0).1 = RX9 := ⟨_, rfl, by decide, kw_1107, rfl, rfl⟩
theorem ff_X9_13 : ∃ q : vw_C, vwCl[9]? = some q ∧ 1 < q.2.2 ∧ Cond.fieldLink RX9 13 (q.2.1 1).1 (q.2.1 1).2.1 (q.2.1 1).2.2.1 ∈ sj_kw ∧ (q.2.1 1).2.2.2 = true ∧ (q.2.1 1).1 = RX9 := ⟨_, rfl, by decide, kw_1108, rfl, rfl⟩
theorem ff_X9_16 : ∃ q : vw_C, vwCl[9]? = some q ∧ 2 < q.2.2 ∧ Cond.fieldLink RX9 16 (q.2.1 2).1 (q.2.1 2).2.1 (q.2.1 2).2.2.1 ∈ sj_kw ∧ (q.2.1 2).2.2.2 = true ∧ (q.2.1 2).1 = RX9 := ⟨_, rfl, by decide, kw_1109, rfl, rfl⟩
theorem ff_X9_19 : ∃ q : vw_C, vwCl[9]? = some q ∧ 3 < q.2.2 ∧ Cond.fieldLink RX9 19 (q.2.1 3).1 (q.2.1 3).2.1 (q.2.1 3).2.2.1 ∈ sj_kw ∧ (q.2.1 3).2.2.2 = true ∧ (q.2.1 3).1 = RX9 := ⟨_, rfl, by decide, kw_1110, rfl, rfl⟩
theorem fw_X9_22 : sj_fw RX9 22 9 13 := ⟨_, rfl, by decide, Or.inl kw_1120⟩
theorem ff_X9_26 : ∃ q : vw_C, vwCl[9]? = some q ∧ 16 < q.2.2 ∧ Cond.fieldLink RX9 26 (q.2.1 16).1 (q.2.1 16).2.1 (q.2.1 16).2.2.1 ∈ sj_kw ∧ (q.2.1 16).2.2.2 = true ∧ (q.2.1 16).1 = RX9 := ⟨_, rfl, by decide, kw_1123, rfl, rfl⟩
theorem ff_X9_29 : ∃ q : vw_C, vwCl[9]? = some q ∧ 22 < q.2.2 ∧ Cond.fieldLink RX9 29 (q.2.1 22).1 (q.2.1 22).2.1 (q.2.1 22).2.2.1 ∈ sj_kw ∧ (q.2.1 22).2.2.2 = true ∧ (q.2.1 22).1 = RX9 := ⟨_, rfl, by decide, kw_1129, rfl, rfl⟩
theorem ff_X9_33 : ∃ q : vw_C, vwCl[9]? = some q ∧ 23 < q.2.2 ∧ Cond.fieldLink RX9 33 (q.2.1 23).1 (q.2.1 23).2.1 (q.2.1 23).2.2.1 ∈ sj_kw ∧ (q.2.1 23).2.2.2 = true ∧ (q.2.1 23).1 = RX9 := ⟨_, rfl, by decide, kw_1130, rfl, rfl⟩
theorem ff_X9_36 : ∃ q : vw_C, vwCl[9]? = some q ∧ 24 < q.2.2 ∧ Cond.fieldLink RX9 36 (q.2.1 24).1 (q.2.1 24).2.1 (q.2.1 24).2.2.1 ∈ sj_kw ∧ (q.2.1 24).2.2.2 = true ∧ (q.2.1 24).1 = RX9 := ⟨_, rfl, by decide, kw_1131, rfl, rfl⟩
theorem ff_X9_39 : ∃ q : vw_C, vwCl[9]? = some q ∧ 25 < q.2.2 ∧ Cond.fieldLink RX9 39 (q.2.1 25).1 (q.2.1 25).2.1 (q.2.1 25).2.2.1 ∈ sj_kw ∧ (q.2.1 25).2.2.2 = true ∧ (q.2.1 25).1 = RX9 := ⟨_, rfl, by decide, kw_1132, rfl, rfl⟩
theorem ff_X9_42 : ∃ q : vw_C, vwCl[9]? = some q ∧ 27 < q.2.2 ∧ Cond.fieldLink RX9 42 (q.2.1 27).1 (q.2.1 27).2.1 (q.2.1 27).2.2.1 ∈ sj_kw ∧ (q.2.1 27).2.2.2 = true ∧ (q.2.1 27).1 = RX9 := ⟨_, rfl, by decide, kw_1134, rfl, rfl⟩
theorem fw_X9_46 : sj_fw RX9 46 9 31 := ⟨_, rfl, by decide, Or.inl kw_1138⟩
theorem ff_X9_49 : ∃ q : vw_C, vwCl[9]? = some q ∧ 34 < q.2.2 ∧ Cond.fieldLink RX9 49 (q.2.1 34).1 (q.2.1 34).2.1 (q.2.1 34).2.2.1 ∈ sj_kw ∧ (q.2.1 34).2.2.2 = true ∧ (q.2.1 34).1 = RX9 := ⟨_, rfl, by decide, kw_1141, rfl, rfl⟩
theorem mw_X9_53 : sj_mw RX9 53 m_X9_begins 2 := ⟨kw_1106, kw_10, ⟨by decide, by decide, by decide +kernel⟩, Or.inl kw_1103⟩
theorem vw_X9_begins : sj_vw 9 m_X9_begins := ⟨⟨_, rfl, rfl⟩, kw_1105, ks_89⟩
theorem mw_X9_111 : sj_mw RX9 111 m_X9_most 2 := ⟨kw_1301, kw_10, ⟨by decide, by decide, by decide +kernel⟩, Or.inl kw_1299⟩
theorem kc_X9_78 : Cond.constantLong RX9 78 (Int64.ofInt (5)) ∈ sj_kw := by
  rw [show Int64.ofInt (5) = (5 : Int64) by decide]
  exact kw_1240
theorem mw_X9_57 : sj_mw RX9 57 m_X9_isIn 3 := ⟨kw_1226, kw_10, ⟨by decide, by decide, by decide +kernel⟩, Or.inl kw_1224⟩
theorem mw_X9_410 : sj_mw RX9 410 m_X9_isAnchor 1 := ⟨kw_1670, kw_10, ⟨by decide, by decide, by decide +kernel⟩, Or.inl kw_1667⟩
theorem vw_X9_isAnchor : sj_vw 9 m_X9_isAnchor := ⟨⟨_, rfl, rfl⟩, kw_1669, ks_147⟩
theorem mw_X9_416 : sj_mw RX9 416 m_X9_anchorSet 0 := ⟨kw_1682, kw_10, ⟨by decide, by decide, by decide +kernel⟩, Or.inl kw_1679⟩
theorem vw_X9_anchorSet : sj_vw 9 m_X9_anchorSet := ⟨⟨_, rfl, rfl⟩, kw_1681, ks_148⟩
theorem mw_X9_92 : sj_mw RX9 92 m_X9_hasSlip 0 := ⟨kw_1262, kw_10, ⟨by decide, by decide, by decide +kernel⟩, Or.inl kw_1259⟩
theorem vw_X9_hasSlip : sj_vw 9 m_X9_hasSlip := ⟨⟨_, rfl, rfl⟩, kw_1261, ks_94⟩
theorem fw_X9_61 : sj_fw RX9 61 9 4 := ⟨_, rfl, by decide, Or.inl kw_1111⟩
theorem fw_X9_337 : sj_fw RX9 337 9 28 := ⟨_, rfl, by decide, Or.inl kw_1135⟩
theorem mw_X9_419 : sj_mw RX9 419 m_X9_highest 0 := ⟨kw_1686, kw_10, ⟨by decide, by decide, by decide +kernel⟩, Or.inl kw_1683⟩
theorem vw_X9_highest : sj_vw 9 m_X9_highest := ⟨⟨_, rfl, rfl⟩, kw_1685, ks_149⟩
theorem mw_X9_422 : sj_mw RX9 422 m_X9_soilOver 0 := ⟨kw_1690, kw_10, ⟨by decide, by decide, by decide +kernel⟩, Or.inl kw_1687⟩
theorem vw_X9_soilOver : sj_vw 9 m_X9_soilOver := ⟨⟨_, rfl, rfl⟩, kw_1689, ks_150⟩
theorem fw_X9_413 : sj_fw RX9 413 9 5 := ⟨_, rfl, by decide, Or.inl kw_1112⟩
theorem fw_X9_16 : sj_fw RX9 16 9 2 := ⟨_, rfl, by decide, Or.inl kw_1109⟩
theorem fw_X9_325 : sj_fw RX9 325 9 26 := ⟨_, rfl, by decide, Or.inl kw_1133⟩
theorem fw_X9_39 : sj_fw RX9 39 9 25 := ⟨_, rfl, by decide, Or.inl kw_1132⟩
theorem fw_X9_26 : sj_fw RX9 26 9 16 := ⟨_, rfl, by decide, Or.inl kw_1123⟩
theorem fw_X9_153 : sj_fw RX9 153 9 15 := ⟨_, rfl, by decide, Or.inl kw_1122⟩
theorem fw_X9_150 : sj_fw RX9 150 9 14 := ⟨_, rfl, by decide, Or.inl kw_1121⟩
theorem mw_X9_161 : sj_mw RX9 161 m_X9_isCounting 1 := ⟨kw_1333, kw_10, ⟨by decide, by decide, by decide +kernel⟩, Or.inl kw_1330⟩
theorem vw_X9_isCounting : sj_vw 9 m_X9_isCounting := ⟨⟨_, rfl, rfl⟩, kw_1332, ks_103⟩
theorem kc_X9_138 : Cond.constantLong RX9 138 (Int64.ofInt (2000)) ∈ sj_kw := by
  rw [show Int64.ofInt (2000) = (2000 : Int64) by decide]
  exact kw_1334
theorem mw_X9_104 : sj_mw RX9 104 m_X9_least 2 := ⟨kw_1353, kw_10, ⟨by decide, by decide, by decide +kernel⟩, Or.inl kw_1351⟩
theorem mw_X9_108 : sj_mw RX9 108 m_X9_top 2 := ⟨kw_1350, kw_10, ⟨by decide, by decide, by decide +kernel⟩, Or.inl kw_1347⟩
theorem vw_X9_top : sj_vw 9 m_X9_top := ⟨⟨_, rfl, rfl⟩, kw_1349, ks_107⟩
theorem fw_X9_135 : sj_fw RX9 135 9 10 := ⟨_, rfl, by decide, Or.inl kw_1117⟩
theorem fw_X9_117 : sj_fw RX9 117 9 7 := ⟨_, rfl, by decide, Or.inl kw_1114⟩
theorem fw_X9_140 : sj_fw RX9 140 9 11 := ⟨_, rfl, by decide, Or.inl kw_1118⟩
theorem fw_X9_124 : sj_fw RX9 124 9 8 := ⟨_, rfl, by decide, Or.inl kw_1115⟩
theorem kc_X9_143 : Cond.constantLong RX9 143 (Int64.ofInt (1000)) ∈ sj_kw := by
  rw [show Int64.ofInt (1000) = (1000 : Int64) by decide]
  exact kw_1358
theorem fw_X9_114 : sj_fw RX9 114 9 6 := ⟨_, rfl, by decide, Or.inl kw_1113⟩
theorem fw_X9_145 : sj_fw RX9 145 9 12 := ⟨_, rfl, by decide, Or.inl kw_1119⟩
theorem kc_X9_68 : Cond.constantLong RX9 68 (Int64.ofInt (10)) ∈ sj_kw := by
  rw [show Int64.ofInt (10) = (10 : Int64) by decide]
  exact kw_1227
theorem mw_X9_128 : sj_mw RX9 128 m_X9_water 1 := ⟨kw_1357, kw_10, ⟨by decide, by decide, by decide +kernel⟩, Or.inl kw_1354⟩
theorem vw_X9_water : sj_vw 9 m_X9_water := ⟨⟨_, rfl, rfl⟩, kw_1356, ks_108⟩
theorem fw_X9_132 : sj_fw RX9 132 9 9 := ⟨_, rfl, by decide, Or.inl kw_1116⟩
theorem mw_X9_120 : sj_mw RX9 120 m_X9_thick 3 := ⟨kw_1346, kw_10, ⟨by decide, by decide, by decide +kernel⟩, Or.inl kw_1343⟩
theorem vw_X9_thick : sj_vw 9 m_X9_thick := ⟨⟨_, rfl, rfl⟩, kw_1345, ks_106⟩
theorem mw_X9_157 : sj_mw RX9 157 m_X9_laysSlice 4 := ⟨kw_1342, kw_10, ⟨by decide, by decide, by decide +kernel⟩, Or.inl kw_1339⟩
theorem vw_X9_laysSlice : sj_vw 9 m_X9_laysSlice := ⟨⟨_, rfl, rfl⟩, kw_1341, ks_105⟩
theorem kc_X9_148 : Cond.constantLong RX9 148 (Int64.ofInt (-1)) ∈ sj_kw := by
  rw [show Int64.ofInt (-1) = (-1 : Int64) by decide]
  exact kw_1363
theorem mw_X9_175 : sj_mw RX9 175 m_X9_upwards 2 := ⟨kw_1366, kw_10, ⟨by decide, by decide, by decide +kernel⟩, Or.inl kw_1364⟩
theorem mw_X9_168 : sj_mw RX9 168 m_X9_laysAt 1 := ⟨kw_1338, kw_10, ⟨by decide, by decide, by decide +kernel⟩, Or.inl kw_1335⟩
theorem vw_X9_laysAt : sj_vw 9 m_X9_laysAt := ⟨⟨_, rfl, rfl⟩, kw_1337, ks_104⟩
theorem mw_X9_171 : sj_mw RX9 171 m_X9_rubsOf 1 := ⟨kw_1362, kw_10, ⟨by decide, by decide, by decide +kernel⟩, Or.inl kw_1359⟩
theorem vw_X9_rubsOf : sj_vw 9 m_X9_rubsOf := ⟨⟨_, rfl, rfl⟩, kw_1361, ks_109⟩
theorem mw_X9_164 : sj_mw RX9 164 m_X9_pulls 0 := ⟨kw_1329, kw_10, ⟨by decide, by decide, by decide +kernel⟩, Or.inl kw_1326⟩
theorem vw_X9_pulls : sj_vw 9 m_X9_pulls := ⟨⟨_, rfl, rfl⟩, kw_1328, ks_102⟩
theorem mw_X9_179 : sj_mw RX9 179 m_X9_standsWith 2 := ⟨kw_1325, kw_10, ⟨by decide, by decide, by decide +kernel⟩, Or.inl kw_1322⟩
theorem vw_X9_standsWith : sj_vw 9 m_X9_standsWith := ⟨⟨_, rfl, rfl⟩, kw_1324, ks_101⟩
theorem mw_X9_183 : sj_mw RX9 183 m_X9_isStanding 1 := ⟨kw_1321, kw_10, ⟨by decide, by decide, by decide +kernel⟩, Or.inl kw_1318⟩
theorem vw_X9_isStanding : sj_vw 9 m_X9_isStanding := ⟨⟨_, rfl, rfl⟩, kw_1320, ks_100⟩
theorem mw_X9_277 : sj_mw RX9 277 m_X9_takesSlip 0 := ⟨kw_1439, kw_10, ⟨by decide, by decide, by decide +kernel⟩, Or.inl kw_1436⟩
theorem vw_X9_takesSlip : sj_vw 9 m_X9_takesSlip := ⟨⟨_, rfl, rfl⟩, kw_1438, ks_119⟩
theorem mw_X9_209 : sj_mw RX9 209 m_X9_factorOf 0 := ⟨kw_1317, kw_10, ⟨by decide, by decide, by decide +kernel⟩, Or.inl kw_1314⟩
theorem vw_X9_factorOf : sj_vw 9 m_X9_factorOf := ⟨⟨_, rfl, rfl⟩, kw_1316, ks_99⟩
theorem mw_X9_331 : sj_mw RX9 331 m_X9_says 1 := ⟨kw_1565, kw_10, ⟨by decide, by decide, by decide +kernel⟩, Or.inl kw_1562⟩
theorem vw_X9_says : sj_vw 9 m_X9_says := ⟨⟨_, rfl, rfl⟩, kw_1564, ks_130⟩
theorem mw_X9_328 {d : Nat} : sj_mw RX9 328 (m_X9_saysNumber d) 1 := ⟨kw_1561, kw_10, ⟨(show yX9_saysNumber.cls ≠ "java/lang/invoke/MethodHandle" by decide), (show yX9_saysNumber.cls ≠ "java/lang/invoke/VarHandle" by decide), (show (parseMethodDescriptor yX9_saysNumber.desc).map (fun d => d.parameters.length) = some 1 by decide +kernel)⟩, Or.inl kw_1558⟩
theorem vw_X9_saysNumber {d : Nat} : sj_vw 9 (m_X9_saysNumber d) := ⟨⟨_, rfl, rfl⟩, kw_1560, ks_129⟩
theorem mw_X9_334 : sj_mw RX9 334 m_X9_factor 0 := ⟨kw_1457, kw_10, ⟨by decide, by decide, by decide +kernel⟩, Or.inl kw_1557⟩
theorem vw_X9_factor : sj_vw 9 m_X9_factor := ⟨⟨_, rfl, rfl⟩, kw_1455, kw_1456⟩
theorem kc_X9_285 : Cond.constantLong RX9 285 (Int64.ofInt (20000)) ∈ sj_kw := by
  rw [show Int64.ofInt (20000) = (20000 : Int64) by decide]
  exact kw_1448
theorem fw_X9_13 : sj_fw RX9 13 9 1 := ⟨_, rfl, by decide, Or.inl kw_1108⟩
theorem kc_X9_320 : Cond.constant RX9 320 (Int32.ofInt (1664525)) ∈ sj_kw := by
  rw [show Int32.ofInt (1664525) = (1664525 : Int32) by decide]
  exact kw_1551
theorem kc_X9_321 : Cond.constant RX9 321 (Int32.ofInt (1013904223)) ∈ sj_kw := by
  rw [show Int32.ofInt (1013904223) = (1013904223 : Int32) by decide]
  exact kw_1552
theorem mw_X9_322 : sj_mw RX9 322 m_X9_draw 1 := ⟨kw_1550, kw_10, ⟨by decide, by decide, by decide +kernel⟩, Or.inl kw_1547⟩
theorem vw_X9_draw : sj_vw 9 m_X9_draw := ⟨⟨_, rfl, rfl⟩, kw_1549, ks_128⟩
theorem mw_X9_304 : sj_mw RX9 304 m_X9_comesBack 0 := ⟨kw_1490, kw_10, ⟨by decide, by decide, by decide +kernel⟩, Or.inl kw_1487⟩
theorem vw_X9_comesBack : sj_vw 9 m_X9_comesBack := ⟨⟨_, rfl, rfl⟩, kw_1489, ks_123⟩
theorem kc_X9_66 : Cond.constantLong RX9 66 (Int64.ofInt (40)) ∈ sj_kw := by
  rw [show Int64.ofInt (40) = (40 : Int64) by decide]
  exact kw_1223
theorem kc_X9_267 : Cond.constantLong RX9 267 (Int64.ofInt (50)) ∈ sj_kw := by
  rw [show Int64.ofInt (50) = (50 : Int64) by decide]
  exact kw_1401
theorem mw_X9_287 : sj_mw RX9 287 m_X9_isK 1 := ⟨kw_1447, kw_10, ⟨by decide, by decide, by decide +kernel⟩, Or.inl kw_1445⟩
theorem mw_X9_301 : sj_mw RX9 301 m_X9_laysAside 0 := ⟨kw_1486, kw_10, ⟨by decide, by decide, by decide +kernel⟩, Or.inl kw_1483⟩
theorem vw_X9_laysAside : sj_vw 9 m_X9_laysAside := ⟨⟨_, rfl, rfl⟩, kw_1485, ks_122⟩
theorem kc_X9_186 : Cond.constantLong RX9 186 (Int64.ofInt (-50)) ∈ sj_kw := by
  rw [show Int64.ofInt (-50) = (-50 : Int64) by decide]
  exact kw_1286
theorem kc_X9_188 : Cond.constantLong RX9 188 (Int64.ofInt (450)) ∈ sj_kw := by
  rw [show Int64.ofInt (450) = (450 : Int64) by decide]
  exact kw_1287
theorem kc_X9_80 : Cond.constantLong RX9 80 (Int64.ofInt (500)) ∈ sj_kw := by
  rw [show Int64.ofInt (500) = (500 : Int64) by decide]
  exact kw_1241
theorem mw_X9_190 : sj_mw RX9 190 m_X9_root 1 := ⟨kw_1298, kw_10, ⟨by decide, by decide, by decide +kernel⟩, Or.inl kw_1296⟩
theorem mw_X9_193 : sj_mw RX9 193 m_X9_isBelow 4 := ⟨kw_1295, kw_10, ⟨by decide, by decide, by decide +kernel⟩, Or.inl kw_1292⟩
theorem vw_X9_isBelow : sj_vw 9 m_X9_isBelow := ⟨⟨_, rfl, rfl⟩, kw_1294, ks_96⟩
theorem mw_X9_197 : sj_mw RX9 197 m_X9_isCircle 3 := ⟨kw_1285, kw_10, ⟨by decide, by decide, by decide +kernel⟩, Or.inl kw_1283⟩
theorem mw_X9_201 : sj_mw RX9 201 m_X9_cuts 4 := ⟨kw_1291, kw_10, ⟨by decide, by decide, by decide +kernel⟩, Or.inl kw_1288⟩
theorem vw_X9_cuts : sj_vw 9 m_X9_cuts := ⟨⟨_, rfl, rfl⟩, kw_1290, ks_95⟩
theorem mw_X9_212 : sj_mw RX9 212 m_X9_factorBy 4 := ⟨kw_1313, kw_10, ⟨by decide, by decide, by decide +kernel⟩, Or.inl kw_1310⟩
theorem vw_X9_factorBy : sj_vw 9 m_X9_factorBy := ⟨⟨_, rfl, rfl⟩, kw_1312, ks_98⟩
theorem kc_X9_241 : Cond.constantLong RX9 241 (Int64.ofInt (64)) ∈ sj_kw := by
  rw [show Int64.ofInt (64) = (64 : Int64) by decide]
  exact kw_1386
theorem fw_X9_231 : sj_fw RX9 231 9 20 := ⟨_, rfl, by decide, Or.inl kw_1127⟩
theorem fw_X9_222 : sj_fw RX9 222 9 17 := ⟨_, rfl, by decide, Or.inl kw_1124⟩
theorem fw_X9_225 : sj_fw RX9 225 9 18 := ⟨_, rfl, by decide, Or.inl kw_1125⟩
theorem fw_X9_228 : sj_fw RX9 228 9 19 := ⟨_, rfl, by decide, Or.inl kw_1126⟩
theorem fw_X9_234 : sj_fw RX9 234 9 21 := ⟨_, rfl, by decide, Or.inl kw_1128⟩
theorem mw_X9_237 : sj_mw RX9 237 m_X9_isBetter 2 := ⟨kw_1394, kw_10, ⟨by decide, by decide, by decide +kernel⟩, Or.inl kw_1391⟩
theorem vw_X9_isBetter : sj_vw 9 m_X9_isBetter := ⟨⟨_, rfl, rfl⟩, kw_1393, ks_112⟩
theorem mw_X9_243 : sj_mw RX9 243 m_X9_searches 5 := ⟨kw_1390, kw_10, ⟨by decide, by decide, by decide +kernel⟩, Or.inl kw_1387⟩
theorem vw_X9_searches : sj_vw 9 m_X9_searches := ⟨⟨_, rfl, rfl⟩, kw_1389, ks_111⟩
theorem mw_X9_74 : sj_mw RX9 74 m_X9_isColumn 1 := ⟨kw_1239, kw_10, ⟨by decide, by decide, by decide +kernel⟩, Or.inl kw_1236⟩
theorem vw_X9_isColumn : sj_vw 9 m_X9_isColumn := ⟨⟨_, rfl, rfl⟩, kw_1238, ks_91⟩
theorem mw_X9_216 : sj_mw RX9 216 m_X9_downwards 2 := ⟨kw_1381, kw_10, ⟨by decide, by decide, by decide +kernel⟩, Or.inl kw_1379⟩
theorem mw_X9_295 : sj_mw RX9 295 m_X9_thrustOf 2 := ⟨kw_1473, kw_10, ⟨by decide, by decide, by decide +kernel⟩, Or.inl kw_1470⟩
theorem vw_X9_thrustOf : sj_vw 9 m_X9_thrustOf := ⟨⟨_, rfl, rfl⟩, kw_1472, ks_121⟩
theorem mw_X9_292 : sj_mw RX9 292 m_X9_hasFast 2 := ⟨kw_1469, kw_10, ⟨by decide, by decide, by decide +kernel⟩, Or.inl kw_1466⟩
theorem vw_X9_hasFast : sj_vw 9 m_X9_hasFast := ⟨⟨_, rfl, rfl⟩, kw_1468, ks_120⟩
theorem mw_X9_280 : sj_mw RX9 280 m_X9_isSlice 1 := ⟨kw_1435, kw_10, ⟨by decide, by decide, by decide +kernel⟩, Or.inl kw_1432⟩
theorem vw_X9_isSlice : sj_vw 9 m_X9_isSlice := ⟨⟨_, rfl, rfl⟩, kw_1434, ks_118⟩
theorem kc_X9_299 : Cond.constantLong RX9 299 (Int64.ofInt (-10000000000000000)) ∈ sj_kw := by
  rw [show Int64.ofInt (-10000000000000000) = (-10000000000000000 : Int64) by decide]
  exact kw_1474
theorem mw_X9_307 : sj_mw RX9 307 m_X9_bodyOf 0 := ⟨kw_1510, kw_10, ⟨by decide, by decide, by decide +kernel⟩, Or.inl kw_1507⟩
theorem vw_X9_bodyOf : sj_vw 9 m_X9_bodyOf := ⟨⟨_, rfl, rfl⟩, kw_1509, ks_124⟩
theorem mw_X9_310 : sj_mw RX9 310 m_X9_deepest 0 := ⟨kw_1514, kw_10, ⟨by decide, by decide, by decide +kernel⟩, Or.inl kw_1511⟩
theorem vw_X9_deepest : sj_vw 9 m_X9_deepest := ⟨⟨_, rfl, rfl⟩, kw_1513, ks_125⟩
theorem mw_X9_313 : sj_mw RX9 313 m_X9_leastBase 0 := ⟨kw_1518, kw_10, ⟨by decide, by decide, by decide +kernel⟩, Or.inl kw_1515⟩
theorem vw_X9_leastBase : sj_vw 9 m_X9_leastBase := ⟨⟨_, rfl, rfl⟩, kw_1517, ks_126⟩
theorem mw_X9_316 : sj_mw RX9 316 m_X9_slicesOf 1 := ⟨kw_1522, kw_10, ⟨by decide, by decide, by decide +kernel⟩, Or.inl kw_1519⟩
theorem vw_X9_slicesOf : sj_vw 9 m_X9_slicesOf := ⟨⟨_, rfl, rfl⟩, kw_1521, ks_127⟩
theorem fw_X9_19 : sj_fw RX9 19 9 3 := ⟨_, rfl, by decide, Or.inl kw_1110⟩
theorem mw_X9_88 : sj_mw RX9 88 m_X9_turnsRound 1 := ⟨kw_1258, kw_10, ⟨by decide, by decide, by decide +kernel⟩, Or.inl kw_1255⟩
theorem vw_X9_turnsRound : sj_vw 9 m_X9_turnsRound := ⟨⟨_, rfl, rfl⟩, kw_1257, ks_93⟩
theorem mw_X9_70 : sj_mw RX9 70 m_X9_remembers 1 := ⟨kw_1231, kw_10, ⟨by decide, by decide, by decide +kernel⟩, Or.inl kw_1228⟩
theorem vw_X9_remembers : sj_vw 9 m_X9_remembers := ⟨⟨_, rfl, rfl⟩, kw_1230, ks_90⟩
theorem kc_X9_82 : Cond.constantLong RX9 82 (Int64.ofInt (100)) ∈ sj_kw := by
  rw [show Int64.ofInt (100) = (100 : Int64) by decide]
  exact kw_1242
theorem mw_X9_84 : sj_mw RX9 84 m_X9_canDig 2 := ⟨kw_1250, kw_10, ⟨by decide, by decide, by decide +kernel⟩, Or.inl kw_1247⟩
theorem vw_X9_canDig : sj_vw 9 m_X9_canDig := ⟨⟨_, rfl, rfl⟩, kw_1249, ks_92⟩
theorem kc_X9_249 : Cond.constantLong RX9 249 (Int64.ofInt (4000000000000000000)) ∈ sj_kw := by
  rw [show Int64.ofInt (4000000000000000000) = (4000000000000000000 : Int64) by decide]
  exact kw_1410
theorem kc_X9_247 : Cond.constantLong RX9 247 (Int64.ofInt (10000000000000)) ∈ sj_kw := by
  rw [show Int64.ofInt (10000000000000) = (10000000000000 : Int64) by decide]
  exact kw_1419
theorem fw_X9_29 : sj_fw RX9 29 9 22 := ⟨_, rfl, by decide, Or.inl kw_1129⟩
theorem mw_X9_255 : sj_mw RX9 255 m_X9_adds 5 := ⟨kw_1418, kw_10, ⟨by decide, by decide, by decide +kernel⟩, Or.inl kw_1415⟩
theorem vw_X9_adds : sj_vw 9 m_X9_adds := ⟨⟨_, rfl, rfl⟩, kw_1417, ks_116⟩
theorem fw_X9_33 : sj_fw RX9 33 9 23 := ⟨_, rfl, by decide, Or.inl kw_1130⟩
theorem mw_X9_251 : sj_mw RX9 251 m_X9_comes 5 := ⟨kw_1414, kw_10, ⟨by decide, by decide, by decide +kernel⟩, Or.inl kw_1411⟩
theorem vw_X9_comes : sj_vw 9 m_X9_comes := ⟨⟨_, rfl, rfl⟩, kw_1413, ks_115⟩
theorem fw_X9_36 : sj_fw RX9 36 9 24 := ⟨_, rfl, by decide, Or.inl kw_1131⟩
theorem mw_X9_259 : sj_mw RX9 259 m_X9_goes 5 := ⟨kw_1409, kw_10, ⟨by decide, by decide, by decide +kernel⟩, Or.inl kw_1406⟩
theorem vw_X9_goes : sj_vw 9 m_X9_goes := ⟨⟨_, rfl, rfl⟩, kw_1408, ks_114⟩
theorem mw_X9_269 : sj_mw RX9 269 m_X9_tableK 2 := ⟨kw_1405, kw_10, ⟨by decide, by decide, by decide +kernel⟩, Or.inl kw_1402⟩
theorem vw_X9_tableK : sj_vw 9 m_X9_tableK := ⟨⟨_, rfl, rfl⟩, kw_1404, ks_113⟩
theorem mw_X9_273 : sj_mw RX9 273 m_X9_findsWorst 3 := ⟨kw_1423, kw_10, ⟨by decide, by decide, by decide +kernel⟩, Or.inl kw_1420⟩
theorem vw_X9_findsWorst : sj_vw 9 m_X9_findsWorst := ⟨⟨_, rfl, rfl⟩, kw_1422, ks_117⟩
theorem kc_X9_263 : Cond.constantLong RX9 263 (Int64.ofInt (12)) ∈ sj_kw := by
  rw [show Int64.ofInt (12) = (12 : Int64) by decide]
  exact kw_1399
theorem kc_X9_265 : Cond.constantLong RX9 265 (Int64.ofInt (2)) ∈ sj_kw := by
  rw [show Int64.ofInt (2) = (2 : Int64) by decide]
  exact kw_1400
theorem kc_X9_64 : Cond.constantLong RX9 64 (Int64.ofInt (4)) ∈ sj_kw := by
  rw [show Int64.ofInt (4) = (4 : Int64) by decide]
  exact kw_1222
theorem kc_X9_283 : Cond.constantLong RX9 283 (Int64.ofInt (-10000000000000)) ∈ sj_kw := by
  rw [show Int64.ofInt (-10000000000000) = (-10000000000000 : Int64) by decide]
  exact kw_1440
theorem kc_X9_290 : Cond.constantLong RX9 290 (Int64.ofInt (-10)) ∈ sj_kw := by
  rw [show Int64.ofInt (-10) = (-10 : Int64) by decide]
  exact kw_1449
theorem kc_X9_96 : Cond.constantLong RX9 96 (Int64.ofInt (3)) ∈ sj_kw := by
  rw [show Int64.ofInt (3) = (3 : Int64) by decide]
  exact kw_1267
theorem mw_X9_205 : sj_mw RX9 205 m_X9_keepsSlip 0 := ⟨kw_1305, kw_10, ⟨by decide, by decide, by decide +kernel⟩, Or.inl kw_1302⟩
theorem vw_X9_keepsSlip : sj_vw 9 m_X9_keepsSlip := ⟨⟨_, rfl, rfl⟩, kw_1304, ks_97⟩
theorem mw_X9_219 : sj_mw RX9 219 m_X9_pointsCan 0 := ⟨kw_1378, kw_10, ⟨by decide, by decide, by decide +kernel⟩, Or.inl kw_1375⟩
theorem vw_X9_pointsCan : sj_vw 9 m_X9_pointsCan := ⟨⟨_, rfl, rfl⟩, kw_1377, ks_110⟩
theorem fw_X9_343 : sj_fw RX9 343 9 30 := ⟨_, rfl, by decide, Or.inl kw_1137⟩
theorem fw_X9_349 : sj_fw RX9 349 9 29 := ⟨_, rfl, by decide, Or.inl kw_1136⟩
theorem fw_X9_42 : sj_fw RX9 42 9 27 := ⟨_, rfl, by decide, Or.inl kw_1134⟩
theorem kc_X9_372 : Cond.constantLong RX9 372 (Int64.ofInt (97)) ∈ sj_kw := by
  rw [show Int64.ofInt (97) = (97 : Int64) by decide]
  exact kw_1606
theorem kc_X9_374 : Cond.constantLong RX9 374 (Int64.ofInt (122)) ∈ sj_kw := by
  rw [show Int64.ofInt (122) = (122 : Int64) by decide]
  exact kw_1607
theorem mw_X9_376 : sj_mw RX9 376 m_X9_wordEnd 0 := ⟨kw_1605, kw_10, ⟨by decide, by decide, by decide +kernel⟩, Or.inl kw_1602⟩
theorem vw_X9_wordEnd : sj_vw 9 m_X9_wordEnd := ⟨⟨_, rfl, rfl⟩, kw_1604, ks_135⟩
theorem fw_X9_346 : sj_fw RX9 346 9 32 := ⟨_, rfl, by decide, Or.inl kw_1139⟩
theorem mw_X9_352 : sj_mw RX9 352 m_X9_blanks 0 := ⟨kw_1597, kw_10, ⟨by decide, by decide, by decide +kernel⟩, Or.inl kw_1594⟩
theorem vw_X9_blanks : sj_vw 9 m_X9_blanks := ⟨⟨_, rfl, rfl⟩, kw_1596, ks_133⟩
theorem kc_X9_355 : Cond.constantLong RX9 355 (Int64.ofInt (48)) ∈ sj_kw := by
  rw [show Int64.ofInt (48) = (48 : Int64) by decide]
  exact kw_1620
theorem kc_X9_357 : Cond.constantLong RX9 357 (Int64.ofInt (57)) ∈ sj_kw := by
  rw [show Int64.ofInt (57) = (57 : Int64) by decide]
  exact kw_1621
theorem fw_X9_368 : sj_fw RX9 368 9 33 := ⟨_, rfl, by decide, Or.inl kw_1140⟩
theorem mw_X9_362 : sj_mw RX9 362 m_X9_wrong 2 := ⟨kw_1611, kw_10, ⟨by decide, by decide, by decide +kernel⟩, Or.inl kw_1608⟩
theorem vw_X9_wrong : sj_vw 9 m_X9_wrong := ⟨⟨_, rfl, rfl⟩, kw_1610, ks_136⟩
theorem kc_X9_371 : Cond.constant RX9 371 (Int32.ofInt (1000000)) ∈ sj_kw := by
  rw [show Int32.ofInt (1000000) = (1000000 : Int32) by decide]
  exact kw_1622
theorem mw_X9_365 : sj_mw RX9 365 m_X9_isDigitNext 0 := ⟨kw_1619, kw_10, ⟨by decide, by decide, by decide +kernel⟩, Or.inl kw_1616⟩
theorem vw_X9_isDigitNext : sj_vw 9 m_X9_isDigitNext := ⟨⟨_, rfl, rfl⟩, kw_1618, ks_138⟩
theorem mw_X9_359 : sj_mw RX9 359 m_X9_isNext 1 := ⟨kw_1630, kw_10, ⟨by decide, by decide, by decide +kernel⟩, Or.inl kw_1627⟩
theorem vw_X9_isNext : sj_vw 9 m_X9_isNext := ⟨⟨_, rfl, rfl⟩, kw_1629, ks_140⟩
theorem mw_X9_379 : sj_mw RX9 379 m_X9_spells 8 := ⟨kw_1601, kw_10, ⟨by decide, by decide, by decide +kernel⟩, Or.inl kw_1598⟩
theorem vw_X9_spells : sj_vw 9 m_X9_spells := ⟨⟨_, rfl, rfl⟩, kw_1600, ks_134⟩
theorem fw_X9_49 : sj_fw RX9 49 9 34 := ⟨_, rfl, by decide, Or.inl kw_1141⟩
theorem mw_X9_383 : sj_mw RX9 383 m_X9_number 2 := ⟨kw_1615, kw_10, ⟨by decide, by decide, by decide +kernel⟩, Or.inl kw_1612⟩
theorem vw_X9_number : sj_vw 9 m_X9_number := ⟨⟨_, rfl, rfl⟩, kw_1614, ks_137⟩
theorem mw_X9_386 : sj_mw RX9 386 m_X9_tells 2 := ⟨kw_1642, kw_10, ⟨by decide, by decide, by decide +kernel⟩, Or.inl kw_1639⟩
theorem vw_X9_tells : sj_vw 9 m_X9_tells := ⟨⟨_, rfl, rfl⟩, kw_1641, ks_143⟩
theorem mw_X9_401 : sj_mw RX9 401 m_X9_must 1 := ⟨kw_1626, kw_10, ⟨by decide, by decide, by decide +kernel⟩, Or.inl kw_1623⟩
theorem vw_X9_must : sj_vw 9 m_X9_must := ⟨⟨_, rfl, rfl⟩, kw_1625, ks_139⟩
theorem mw_X9_392 : sj_mw RX9 392 m_X9_runs 2 := ⟨kw_1646, kw_10, ⟨by decide, by decide, by decide +kernel⟩, Or.inl kw_1643⟩
theorem vw_X9_runs : sj_vw 9 m_X9_runs := ⟨⟨_, rfl, rfl⟩, kw_1645, ks_144⟩
theorem mw_X9_395 : sj_mw RX9 395 m_X9_soilLine 0 := ⟨kw_1650, kw_10, ⟨by decide, by decide, by decide +kernel⟩, Or.inl kw_1647⟩
theorem vw_X9_soilLine : sj_vw 9 m_X9_soilLine := ⟨⟨_, rfl, rfl⟩, kw_1649, ks_145⟩
theorem mw_X9_398 : sj_mw RX9 398 m_X9_anchorLine 0 := ⟨kw_1654, kw_10, ⟨by decide, by decide, by decide +kernel⟩, Or.inl kw_1651⟩
theorem vw_X9_anchorLine : sj_vw 9 m_X9_anchorLine := ⟨⟨_, rfl, rfl⟩, kw_1653, ks_146⟩
theorem mw_X9_389 : sj_mw RX9 389 m_X9_word 0 := ⟨kw_1638, kw_10, ⟨by decide, by decide, by decide +kernel⟩, Or.inl kw_1635⟩
theorem vw_X9_word : sj_vw 9 m_X9_word := ⟨⟨_, rfl, rfl⟩, kw_1637, ks_142⟩
theorem mw_X9_404 : sj_mw RX9 404 m_X9_line 0 := ⟨kw_1634, kw_10, ⟨by decide, by decide, by decide +kernel⟩, Or.inl kw_1631⟩
theorem vw_X9_line : sj_vw 9 m_X9_line := ⟨⟨_, rfl, rfl⟩, kw_1633, ks_141⟩
theorem mw_X9_407 : sj_mw RX9 407 m_X9_reads 0 := ⟨kw_1593, kw_10, ⟨by decide, by decide, by decide +kernel⟩, Or.inl kw_1590⟩
theorem vw_X9_reads : sj_vw 9 m_X9_reads := ⟨⟨_, rfl, rfl⟩, kw_1592, ks_132⟩
theorem mw_X9_340 : sj_mw RX9 340 m_X9_comesWord 1 := ⟨kw_1577, kw_10, ⟨by decide, by decide, by decide +kernel⟩, Or.inl kw_1574⟩
theorem vw_X9_comesWord : sj_vw 9 m_X9_comesWord := ⟨⟨_, rfl, rfl⟩, kw_1576, ks_131⟩
theorem kc_X9_98 : Cond.constantLong RX9 98 (Int64.ofInt (30)) ∈ sj_kw := by
  rw [show Int64.ofInt (30) = (30 : Int64) by decide]
  exact kw_1268
theorem kc_X9_100 : Cond.constantLong RX9 100 (Int64.ofInt (200)) ∈ sj_kw := by
  rw [show Int64.ofInt (200) = (200 : Int64) by decide]
  exact kw_1269
theorem kc_X9_102 : Cond.constantLong RX9 102 (Int64.ofInt (1500)) ∈ sj_kw := by
  rw [show Int64.ofInt (1500) = (1500 : Int64) by decide]
  exact kw_1270
theorem mw_L_65 : sj_mw RL 65 m_X9_circle 4 := ⟨kw_1282, kw_10, ⟨by decide, by decide, by decide +kernel⟩, Or.inl kw_1279⟩
theorem vw_X9_circle : sj_vw 9 m_X9_circle := ⟨⟨_, rfl, rfl⟩, kw_1280, kw_1281⟩
theorem mw_L_61 : sj_mw RL 61 m_X8_circle 4 := ⟨kw_598, kw_1, ⟨by decide, by decide, by decide +kernel⟩, Or.inl kw_595⟩
theorem vw_X8_circle : sj_vw 8 m_X8_circle := ⟨⟨_, rfl, rfl⟩, kw_596, kw_597⟩
theorem mw_L_74 : sj_mw RL 74 m_X9_points 1 := ⟨kw_1374, kw_10, ⟨by decide, by decide, by decide +kernel⟩, Or.inl kw_1371⟩
theorem vw_X9_points : sj_vw 9 m_X9_points := ⟨⟨_, rfl, rfl⟩, kw_1372, kw_1373⟩
theorem mw_L_70 : sj_mw RL 70 m_X8_points 1 := ⟨kw_632, kw_1, ⟨by decide, by decide, by decide +kernel⟩, Or.inl kw_629⟩
theorem vw_X8_points : sj_vw 8 m_X8_points := ⟨⟨_, rfl, rfl⟩, kw_630, kw_631⟩
theorem mw_L_79 : sj_mw RL 79 m_X9_worst 2 := ⟨kw_1427, kw_10, ⟨by decide, by decide, by decide +kernel⟩, Or.inl kw_1424⟩
theorem vw_X9_worst : sj_vw 9 m_X9_worst := ⟨⟨_, rfl, rfl⟩, kw_1425, kw_1426⟩
theorem mw_L_75 : sj_mw RL 75 m_X8_worst 2 := ⟨kw_646, kw_1, ⟨by decide, by decide, by decide +kernel⟩, Or.inl kw_643⟩
theorem vw_X8_worst : sj_vw 8 m_X8_worst := ⟨⟨_, rfl, rfl⟩, kw_644, kw_645⟩
theorem mw_L_137 : sj_mw RL 137 m_X9_tried 4 := ⟨kw_1309, kw_10, ⟨by decide, by decide, by decide +kernel⟩, Or.inl kw_1306⟩
theorem vw_X9_tried : sj_vw 9 m_X9_tried := ⟨⟨_, rfl, rfl⟩, kw_1307, kw_1308⟩
theorem mw_L_134 : sj_mw RL 134 m_X8_tried 4 := ⟨kw_1018, kw_1, ⟨by decide, by decide, by decide +kernel⟩, Or.inl kw_1015⟩
theorem vw_X8_tried : sj_vw 8 m_X8_tried := ⟨⟨_, rfl, rfl⟩, kw_1016, kw_1017⟩
theorem mw_L_142 : sj_mw RL 142 m_X9_boxes 6 := ⟨kw_1385, kw_10, ⟨by decide, by decide, by decide +kernel⟩, Or.inl kw_1382⟩
theorem vw_X9_boxes : sj_vw 9 m_X9_boxes := ⟨⟨_, rfl, rfl⟩, kw_1383, kw_1384⟩
theorem mw_L_138 : sj_mw RL 138 m_X8_boxes 6 := ⟨kw_1031, kw_1, ⟨by decide, by decide, by decide +kernel⟩, Or.inl kw_1028⟩
theorem vw_X8_boxes : sj_vw 8 m_X8_boxes := ⟨⟨_, rfl, rfl⟩, kw_1029, kw_1030⟩
theorem mw_L_147 : sj_mw RL 147 m_X9_tables 3 := ⟨kw_1398, kw_10, ⟨by decide, by decide, by decide +kernel⟩, Or.inl kw_1395⟩
theorem vw_X9_tables : sj_vw 9 m_X9_tables := ⟨⟨_, rfl, rfl⟩, kw_1396, kw_1397⟩
theorem mw_L_143 : sj_mw RL 143 m_X8_tables 3 := ⟨kw_1060, kw_1, ⟨by decide, by decide, by decide +kernel⟩, Or.inl kw_1057⟩
theorem vw_X8_tables : sj_vw 8 m_X8_tables := ⟨⟨_, rfl, rfl⟩, kw_1058, kw_1059⟩
theorem mw_L_152 : sj_mw RL 152 m_X9_dug 6 := ⟨kw_1530, kw_10, ⟨by decide, by decide, by decide +kernel⟩, Or.inl kw_1527⟩
theorem vw_X9_dug : sj_vw 9 m_X9_dug := ⟨⟨_, rfl, rfl⟩, kw_1528, kw_1529⟩
theorem mw_L_148 : sj_mw RL 148 m_X8_dug 6 := ⟨kw_1047, kw_1, ⟨by decide, by decide, by decide +kernel⟩, Or.inl kw_1044⟩
theorem vw_X8_dug : sj_vw 8 m_X8_dug := ⟨⟨_, rfl, rfl⟩, kw_1045, kw_1046⟩
theorem mw_L_178 : sj_mw RL 178 m_X9_deep 6 := ⟨kw_1534, kw_10, ⟨by decide, by decide, by decide +kernel⟩, Or.inl kw_1531⟩
theorem vw_X9_deep : sj_vw 9 m_X9_deep := ⟨⟨_, rfl, rfl⟩, kw_1532, kw_1533⟩
theorem mw_L_175 : sj_mw RL 175 m_X8_deep 6 := ⟨kw_1051, kw_1, ⟨by decide, by decide, by decide +kernel⟩, Or.inl kw_1048⟩
theorem vw_X8_deep : sj_vw 8 m_X8_deep := ⟨⟨_, rfl, rfl⟩, kw_1049, kw_1050⟩
theorem mw_L_183 : sj_mw RL 183 m_X9_scan 7 := ⟨kw_1538, kw_10, ⟨by decide, by decide, by decide +kernel⟩, Or.inl kw_1535⟩
theorem vw_X9_scan : sj_vw 9 m_X9_scan := ⟨⟨_, rfl, rfl⟩, kw_1536, kw_1537⟩
theorem mw_L_179 : sj_mw RL 179 m_X8_scan 7 := ⟨kw_1056, kw_1, ⟨by decide, by decide, by decide +kernel⟩, Or.inl kw_1053⟩
theorem vw_X8_scan : sj_vw 8 m_X8_scan := ⟨⟨_, rfl, rfl⟩, kw_1054, kw_1055⟩
theorem mw_L_204 : sj_mw RL 204 m_X9_image 1 := ⟨kw_1674, kw_10, ⟨by decide, by decide, by decide +kernel⟩, Or.inl kw_1671⟩
theorem vw_X9_image : sj_vw 9 m_X9_image := ⟨⟨_, rfl, rfl⟩, kw_1672, kw_1673⟩
theorem mw_L_200 : sj_mw RL 200 m_X8_image 1 := ⟨kw_786, kw_1, ⟨by decide, by decide, by decide +kernel⟩, Or.inl kw_783⟩
theorem vw_X8_image : sj_vw 8 m_X8_image := ⟨⟨_, rfl, rfl⟩, kw_784, kw_785⟩
theorem mw_L_13 : sj_mw RL 13 m_X8_size 2 := ⟨kw_376, kw_1, ⟨by decide, by decide, by decide +kernel⟩, Or.inl kw_373⟩
theorem vw_X8_size : sj_vw 8 m_X8_size := ⟨⟨_, rfl, rfl⟩, kw_374, kw_375⟩
theorem mw_L_17 : sj_mw RL 17 m_X9_size 2 := ⟨kw_1221, kw_10, ⟨by decide, by decide, by decide +kernel⟩, Or.inl kw_1218⟩
theorem vw_X9_size : sj_vw 9 m_X9_size := ⟨⟨_, rfl, rfl⟩, kw_1219, kw_1220⟩
theorem mw_L_18 : sj_mw RL 18 m_X8_tell 3 := ⟨kw_396, kw_1, ⟨by decide, by decide, by decide +kernel⟩, Or.inl kw_393⟩
theorem vw_X8_tell : sj_vw 8 m_X8_tell := ⟨⟨_, rfl, rfl⟩, kw_394, kw_395⟩
theorem mw_L_22 : sj_mw RL 22 m_X9_tell 3 := ⟨kw_1235, kw_10, ⟨by decide, by decide, by decide +kernel⟩, Or.inl kw_1232⟩
theorem vw_X9_tell : sj_vw 9 m_X9_tell := ⟨⟨_, rfl, rfl⟩, kw_1233, kw_1234⟩
theorem mw_L_23 : sj_mw RL 23 m_X8_dig 2 := ⟨kw_412, kw_1, ⟨by decide, by decide, by decide +kernel⟩, Or.inl kw_409⟩
theorem vw_X8_dig : sj_vw 8 m_X8_dig := ⟨⟨_, rfl, rfl⟩, kw_410, kw_411⟩
theorem mw_L_27 : sj_mw RL 27 m_X9_dig 2 := ⟨kw_1246, kw_10, ⟨by decide, by decide, by decide +kernel⟩, Or.inl kw_1243⟩
theorem vw_X9_dig : sj_vw 9 m_X9_dig := ⟨⟨_, rfl, rfl⟩, kw_1244, kw_1245⟩
theorem mw_L_28 : sj_mw RL 28 m_X8_soil 4 := ⟨kw_422, kw_1, ⟨by decide, by decide, by decide +kernel⟩, Or.inl kw_419⟩
theorem vw_X8_soil : sj_vw 8 m_X8_soil := ⟨⟨_, rfl, rfl⟩, kw_420, kw_421⟩
theorem mw_L_32 : sj_mw RL 32 m_X9_soil 4 := ⟨kw_1266, kw_10, ⟨by decide, by decide, by decide +kernel⟩, Or.inl kw_1263⟩
theorem vw_X9_soil : sj_vw 9 m_X9_soil := ⟨⟨_, rfl, rfl⟩, kw_1264, kw_1265⟩
theorem mw_L_33 : sj_mw RL 33 m_X8_quake 1 := ⟨kw_426, kw_1, ⟨by decide, by decide, by decide +kernel⟩, Or.inl kw_423⟩
theorem vw_X8_quake : sj_vw 8 m_X8_quake := ⟨⟨_, rfl, rfl⟩, kw_424, kw_425⟩
theorem mw_L_37 : sj_mw RL 37 m_X9_quake 1 := ⟨kw_1274, kw_10, ⟨by decide, by decide, by decide +kernel⟩, Or.inl kw_1271⟩
theorem vw_X9_quake : sj_vw 9 m_X9_quake := ⟨⟨_, rfl, rfl⟩, kw_1272, kw_1273⟩
theorem mw_L_38 : sj_mw RL 38 m_X8_anchor 4 := ⟨kw_430, kw_1, ⟨by decide, by decide, by decide +kernel⟩, Or.inl kw_427⟩
theorem vw_X8_anchor : sj_vw 8 m_X8_anchor := ⟨⟨_, rfl, rfl⟩, kw_428, kw_429⟩
theorem mw_L_41 : sj_mw RL 41 m_X9_anchor 4 := ⟨kw_1278, kw_10, ⟨by decide, by decide, by decide +kernel⟩, Or.inl kw_1275⟩
theorem vw_X9_anchor : sj_vw 9 m_X9_anchor := ⟨⟨_, rfl, rfl⟩, kw_1276, kw_1277⟩
theorem mw_L_42 : sj_mw RL 42 m_X8_feed 5 := ⟨kw_434, kw_1, ⟨by decide, by decide, by decide +kernel⟩, Or.inl kw_431⟩
theorem vw_X8_feed : sj_vw 8 m_X8_feed := ⟨⟨_, rfl, rfl⟩, kw_432, kw_433⟩
theorem mw_L_46 : sj_mw RL 46 m_X9_feed 5 := ⟨kw_1573, kw_10, ⟨by decide, by decide, by decide +kernel⟩, Or.inl kw_1570⟩
theorem vw_X9_feed : sj_vw 9 m_X9_feed := ⟨⟨_, rfl, rfl⟩, kw_1571, kw_1572⟩
theorem mw_L_47 : sj_mw RL 47 m_X8_end 1 := ⟨kw_442, kw_1, ⟨by decide, by decide, by decide +kernel⟩, Or.inl kw_439⟩
theorem vw_X8_end : sj_vw 8 m_X8_end := ⟨⟨_, rfl, rfl⟩, kw_440, kw_441⟩
theorem mw_L_50 : sj_mw RL 50 m_X9_end 1 := ⟨kw_1581, kw_10, ⟨by decide, by decide, by decide +kernel⟩, Or.inl kw_1578⟩
theorem vw_X9_end : sj_vw 9 m_X9_end := ⟨⟨_, rfl, rfl⟩, kw_1579, kw_1580⟩
theorem mw_L_51 : sj_mw RL 51 m_X8_text 0 := ⟨kw_446, kw_1, ⟨by decide, by decide, by decide +kernel⟩, Or.inl kw_443⟩
theorem vw_X8_text : sj_vw 8 m_X8_text := ⟨⟨_, rfl, rfl⟩, kw_444, kw_445⟩
theorem mw_L_55 : sj_mw RL 55 m_X9_text 0 := ⟨kw_1589, kw_10, ⟨by decide, by decide, by decide +kernel⟩, Or.inl kw_1586⟩
theorem vw_X9_text : sj_vw 9 m_X9_text := ⟨⟨_, rfl, rfl⟩, kw_1587, kw_1588⟩
theorem mw_L_56 : sj_mw RL 56 m_X8_fault 1 := ⟨kw_594, kw_1, ⟨by decide, by decide, by decide +kernel⟩, Or.inl kw_591⟩
theorem vw_X8_fault : sj_vw 8 m_X8_fault := ⟨⟨_, rfl, rfl⟩, kw_592, kw_593⟩
theorem mw_L_60 : sj_mw RL 60 m_X9_fault 1 := ⟨kw_1585, kw_10, ⟨by decide, by decide, by decide +kernel⟩, Or.inl kw_1582⟩
theorem vw_X9_fault : sj_vw 9 m_X9_fault := ⟨⟨_, rfl, rfl⟩, kw_1583, kw_1584⟩
theorem mw_L_66 : sj_mw RL 66 m_X8_point 2 := ⟨kw_628, kw_1, ⟨by decide, by decide, by decide +kernel⟩, Or.inl kw_625⟩
theorem vw_X8_point : sj_vw 8 m_X8_point := ⟨⟨_, rfl, rfl⟩, kw_626, kw_627⟩
theorem mw_L_69 : sj_mw RL 69 m_X9_point 2 := ⟨kw_1370, kw_10, ⟨by decide, by decide, by decide +kernel⟩, Or.inl kw_1367⟩
theorem vw_X9_point : sj_vw 9 m_X9_point := ⟨⟨_, rfl, rfl⟩, kw_1368, kw_1369⟩
theorem mw_L_80 : sj_mw RL 80 m_X8_undo 0 := ⟨kw_782, kw_1, ⟨by decide, by decide, by decide +kernel⟩, Or.inl kw_779⟩
theorem vw_X8_undo : sj_vw 8 m_X8_undo := ⟨⟨_, rfl, rfl⟩, kw_780, kw_781⟩
theorem mw_L_83 : sj_mw RL 83 m_X9_undo 0 := ⟨kw_1217, kw_10, ⟨by decide, by decide, by decide +kernel⟩, Or.inl kw_1214⟩
theorem vw_X9_undo : sj_vw 9 m_X9_undo := ⟨⟨_, rfl, rfl⟩, kw_1215, kw_1216⟩
theorem mw_L_84 : sj_mw RL 84 m_X8_column 2 := ⟨kw_795, kw_1, ⟨by decide, by decide, by decide +kernel⟩, Or.inl kw_792⟩
theorem vw_X8_column : sj_vw 8 m_X8_column := ⟨⟨_, rfl, rfl⟩, kw_793, kw_794⟩
theorem mw_L_87 : sj_mw RL 87 m_X9_column 2 := ⟨kw_1658, kw_10, ⟨by decide, by decide, by decide +kernel⟩, Or.inl kw_1655⟩
theorem vw_X9_column : sj_vw 9 m_X9_column := ⟨⟨_, rfl, rfl⟩, kw_1656, kw_1657⟩
theorem mw_L_88 : sj_mw RL 88 m_X8_layer 2 := ⟨kw_809, kw_1, ⟨by decide, by decide, by decide +kernel⟩, Or.inl kw_806⟩
theorem vw_X8_layer : sj_vw 8 m_X8_layer := ⟨⟨_, rfl, rfl⟩, kw_807, kw_808⟩
theorem mw_L_91 : sj_mw RL 91 m_X9_layer 2 := ⟨kw_1662, kw_10, ⟨by decide, by decide, by decide +kernel⟩, Or.inl kw_1659⟩
theorem vw_X9_layer : sj_vw 9 m_X9_layer := ⟨⟨_, rfl, rfl⟩, kw_1660, kw_1661⟩
theorem mw_L_92 : sj_mw RL 92 m_X8_anchored 2 := ⟨kw_813, kw_1, ⟨by decide, by decide, by decide +kernel⟩, Or.inl kw_810⟩
theorem vw_X8_anchored : sj_vw 8 m_X8_anchored := ⟨⟨_, rfl, rfl⟩, kw_811, kw_812⟩
theorem mw_L_95 : sj_mw RL 95 m_X9_anchored 2 := ⟨kw_1666, kw_10, ⟨by decide, by decide, by decide +kernel⟩, Or.inl kw_1663⟩
theorem vw_X9_anchored : sj_vw 9 m_X9_anchored := ⟨⟨_, rfl, rfl⟩, kw_1664, kw_1665⟩
theorem mw_L_96 : sj_mw RL 96 m_X8_slice 2 := ⟨kw_837, kw_1, ⟨by decide, by decide, by decide +kernel⟩, Or.inl kw_834⟩
theorem vw_X8_slice : sj_vw 8 m_X8_slice := ⟨⟨_, rfl, rfl⟩, kw_835, kw_836⟩
theorem mw_L_100 : sj_mw RL 100 m_X9_slice 2 := ⟨kw_1431, kw_10, ⟨by decide, by decide, by decide +kernel⟩, Or.inl kw_1428⟩
theorem vw_X9_slice : sj_vw 9 m_X9_slice := ⟨⟨_, rfl, rfl⟩, kw_1429, kw_1430⟩
theorem mw_L_101 : sj_mw RL 101 m_X8_rubs 2 := ⟨kw_877, kw_1, ⟨by decide, by decide, by decide +kernel⟩, Or.inl kw_874⟩
theorem vw_X8_rubs : sj_vw 8 m_X8_rubs := ⟨⟨_, rfl, rfl⟩, kw_875, kw_876⟩
theorem mw_L_104 : sj_mw RL 104 m_X9_rubs 2 := ⟨kw_1444, kw_10, ⟨by decide, by decide, by decide +kernel⟩, Or.inl kw_1441⟩
theorem vw_X9_rubs : sj_vw 9 m_X9_rubs := ⟨⟨_, rfl, rfl⟩, kw_1442, kw_1443⟩
theorem mw_L_105 : sj_mw RL 105 m_X8_stands 1 := ⟨kw_890, kw_1, ⟨by decide, by decide, by decide +kernel⟩, Or.inl kw_887⟩
theorem vw_X8_stands : sj_vw 8 m_X8_stands := ⟨⟨_, rfl, rfl⟩, kw_888, kw_889⟩
theorem mw_L_108 : sj_mw RL 108 m_X9_stands 1 := ⟨kw_1453, kw_10, ⟨by decide, by decide, by decide +kernel⟩, Or.inl kw_1450⟩
theorem vw_X9_stands : sj_vw 9 m_X9_stands := ⟨⟨_, rfl, rfl⟩, kw_1451, kw_1452⟩
theorem mw_L_109 : sj_mw RL 109 m_X8_factor 0 := ⟨kw_903, kw_1, ⟨by decide, by decide, by decide +kernel⟩, Or.inl kw_900⟩
theorem vw_X8_factor : sj_vw 8 m_X8_factor := ⟨⟨_, rfl, rfl⟩, kw_901, kw_902⟩
theorem mw_L_112 : sj_mw RL 112 m_X9_factor 0 := ⟨kw_1457, kw_10, ⟨by decide, by decide, by decide +kernel⟩, Or.inl kw_1454⟩
theorem mw_L_113 : sj_mw RL 113 m_X8_sum 1 := ⟨kw_912, kw_1, ⟨by decide, by decide, by decide +kernel⟩, Or.inl kw_909⟩
theorem vw_X8_sum : sj_vw 8 m_X8_sum := ⟨⟨_, rfl, rfl⟩, kw_910, kw_911⟩
theorem mw_L_117 : sj_mw RL 117 m_X9_sum 1 := ⟨kw_1461, kw_10, ⟨by decide, by decide, by decide +kernel⟩, Or.inl kw_1458⟩
theorem vw_X9_sum : sj_vw 9 m_X9_sum := ⟨⟨_, rfl, rfl⟩, kw_1459, kw_1460⟩
theorem mw_L_118 : sj_mw RL 118 m_X8_dry 0 := ⟨kw_932, kw_1, ⟨by decide, by decide, by decide +kernel⟩, Or.inl kw_929⟩
theorem vw_X8_dry : sj_vw 8 m_X8_dry := ⟨⟨_, rfl, rfl⟩, kw_930, kw_931⟩
theorem mw_L_121 : sj_mw RL 121 m_X9_dry 0 := ⟨kw_1482, kw_10, ⟨by decide, by decide, by decide +kernel⟩, Or.inl kw_1479⟩
theorem vw_X9_dry : sj_vw 9 m_X9_dry := ⟨⟨_, rfl, rfl⟩, kw_1480, kw_1481⟩
theorem mw_L_122 : sj_mw RL 122 m_X8_bears 1 := ⟨kw_940, kw_1, ⟨by decide, by decide, by decide +kernel⟩, Or.inl kw_937⟩
theorem vw_X8_bears : sj_vw 8 m_X8_bears := ⟨⟨_, rfl, rfl⟩, kw_938, kw_939⟩
theorem mw_L_125 : sj_mw RL 125 m_X9_bears 1 := ⟨kw_1494, kw_10, ⟨by decide, by decide, by decide +kernel⟩, Or.inl kw_1491⟩
theorem vw_X9_bears : sj_vw 9 m_X9_bears := ⟨⟨_, rfl, rfl⟩, kw_1492, kw_1493⟩
theorem mw_L_126 : sj_mw RL 126 m_X8_needs 1 := ⟨kw_948, kw_1, ⟨by decide, by decide, by decide +kernel⟩, Or.inl kw_945⟩
theorem vw_X8_needs : sj_vw 8 m_X8_needs := ⟨⟨_, rfl, rfl⟩, kw_946, kw_947⟩
theorem mw_L_129 : sj_mw RL 129 m_X9_needs 1 := ⟨kw_1498, kw_10, ⟨by decide, by decide, by decide +kernel⟩, Or.inl kw_1495⟩
theorem vw_X9_needs : sj_vw 9 m_X9_needs := ⟨⟨_, rfl, rfl⟩, kw_1496, kw_1497⟩
theorem mw_L_130 : sj_mw RL 130 m_X8_pull 1 := ⟨kw_952, kw_1, ⟨by decide, by decide, by decide +kernel⟩, Or.inl kw_949⟩
theorem vw_X8_pull : sj_vw 8 m_X8_pull := ⟨⟨_, rfl, rfl⟩, kw_950, kw_951⟩
theorem mw_L_133 : sj_mw RL 133 m_X9_pull 1 := ⟨kw_1526, kw_10, ⟨by decide, by decide, by decide +kernel⟩, Or.inl kw_1523⟩
theorem vw_X9_pull : sj_vw 9 m_X9_pull := ⟨⟨_, rfl, rfl⟩, kw_1524, kw_1525⟩
theorem mw_L_153 : sj_mw RL 153 m_X8_mirror 0 := ⟨kw_769, kw_1, ⟨by decide, by decide, by decide +kernel⟩, Or.inl kw_766⟩
theorem vw_X8_mirror : sj_vw 8 m_X8_mirror := ⟨⟨_, rfl, rfl⟩, kw_767, kw_768⟩
theorem mw_L_157 : sj_mw RL 157 m_X9_mirror 0 := ⟨kw_1254, kw_10, ⟨by decide, by decide, by decide +kernel⟩, Or.inl kw_1251⟩
theorem vw_X9_mirror : sj_vw 9 m_X9_mirror := ⟨⟨_, rfl, rfl⟩, kw_1252, kw_1253⟩
theorem mw_L_158 : sj_mw RL 158 m_X8_berm 3 := ⟨kw_959, kw_1, ⟨by decide, by decide, by decide +kernel⟩, Or.inl kw_956⟩
theorem vw_X8_berm : sj_vw 8 m_X8_berm := ⟨⟨_, rfl, rfl⟩, kw_957, kw_958⟩
theorem mw_L_162 : sj_mw RL 162 m_X9_berm 3 := ⟨kw_1502, kw_10, ⟨by decide, by decide, by decide +kernel⟩, Or.inl kw_1499⟩
theorem vw_X9_berm : sj_vw 9 m_X9_berm := ⟨⟨_, rfl, rfl⟩, kw_1500, kw_1501⟩
theorem mw_L_163 : sj_mw RL 163 m_X8_shape 1 := ⟨kw_967, kw_1, ⟨by decide, by decide, by decide +kernel⟩, Or.inl kw_964⟩
theorem vw_X8_shape : sj_vw 8 m_X8_shape := ⟨⟨_, rfl, rfl⟩, kw_965, kw_966⟩
theorem mw_L_166 : sj_mw RL 166 m_X9_shape 1 := ⟨kw_1506, kw_10, ⟨by decide, by decide, by decide +kernel⟩, Or.inl kw_1503⟩
theorem vw_X9_shape : sj_vw 9 m_X9_shape := ⟨⟨_, rfl, rfl⟩, kw_1504, kw_1505⟩
theorem mw_L_167 : sj_mw RL 167 m_X8_thrust 2 := ⟨kw_997, kw_1, ⟨by decide, by decide, by decide +kernel⟩, Or.inl kw_994⟩
theorem vw_X8_thrust : sj_vw 8 m_X8_thrust := ⟨⟨_, rfl, rfl⟩, kw_995, kw_996⟩
theorem mw_L_170 : sj_mw RL 170 m_X9_thrust 2 := ⟨kw_1465, kw_10, ⟨by decide, by decide, by decide +kernel⟩, Or.inl kw_1462⟩
theorem vw_X9_thrust : sj_vw 9 m_X9_thrust := ⟨⟨_, rfl, rfl⟩, kw_1463, kw_1464⟩
theorem mw_L_171 : sj_mw RL 171 m_X8_crest 1 := ⟨kw_1014, kw_1, ⟨by decide, by decide, by decide +kernel⟩, Or.inl kw_1011⟩
theorem vw_X8_crest : sj_vw 8 m_X8_crest := ⟨⟨_, rfl, rfl⟩, kw_1012, kw_1013⟩
theorem mw_L_174 : sj_mw RL 174 m_X9_crest 1 := ⟨kw_1478, kw_10, ⟨by decide, by decide, by decide +kernel⟩, Or.inl kw_1475⟩
theorem vw_X9_crest : sj_vw 9 m_X9_crest := ⟨⟨_, rfl, rfl⟩, kw_1476, kw_1477⟩
theorem mw_L_184 : sj_mw RL 184 m_X8_state 1 := ⟨kw_1064, kw_1, ⟨by decide, by decide, by decide +kernel⟩, Or.inl kw_1061⟩
theorem vw_X8_state : sj_vw 8 m_X8_state := ⟨⟨_, rfl, rfl⟩, kw_1062, kw_1063⟩
theorem mw_L_187 : sj_mw RL 187 m_X9_state 1 := ⟨kw_1542, kw_10, ⟨by decide, by decide, by decide +kernel⟩, Or.inl kw_1539⟩
theorem vw_X9_state : sj_vw 9 m_X9_state := ⟨⟨_, rfl, rfl⟩, kw_1540, kw_1541⟩
theorem mw_L_188 : sj_mw RL 188 m_X8_chance 3 := ⟨kw_1068, kw_1, ⟨by decide, by decide, by decide +kernel⟩, Or.inl kw_1065⟩
theorem vw_X8_chance : sj_vw 8 m_X8_chance := ⟨⟨_, rfl, rfl⟩, kw_1066, kw_1067⟩
theorem mw_L_191 : sj_mw RL 191 m_X9_chance 3 := ⟨kw_1546, kw_10, ⟨by decide, by decide, by decide +kernel⟩, Or.inl kw_1543⟩
theorem vw_X9_chance : sj_vw 9 m_X9_chance := ⟨⟨_, rfl, rfl⟩, kw_1544, kw_1545⟩
theorem mw_L_192 : sj_mw RL 192 m_X8_report 0 := ⟨kw_1078, kw_1, ⟨by decide, by decide, by decide +kernel⟩, Or.inl kw_1075⟩
theorem vw_X8_report : sj_vw 8 m_X8_report := ⟨⟨_, rfl, rfl⟩, kw_1076, kw_1077⟩
theorem mw_L_195 : sj_mw RL 195 m_X9_report 0 := ⟨kw_1556, kw_10, ⟨by decide, by decide, by decide +kernel⟩, Or.inl kw_1553⟩
theorem vw_X9_report : sj_vw 9 m_X9_report := ⟨⟨_, rfl, rfl⟩, kw_1554, kw_1555⟩
theorem mw_L_196 : sj_mw RL 196 m_X8_sign 1 := ⟨kw_1096, kw_1, ⟨by decide, by decide, by decide +kernel⟩, Or.inl kw_1093⟩
theorem vw_X8_sign : sj_vw 8 m_X8_sign := ⟨⟨_, rfl, rfl⟩, kw_1094, kw_1095⟩
theorem mw_L_199 : sj_mw RL 199 m_X9_sign 1 := ⟨kw_1569, kw_10, ⟨by decide, by decide, by decide +kernel⟩, Or.inl kw_1566⟩
theorem vw_X9_sign : sj_vw 9 m_X9_sign := ⟨⟨_, rfl, rfl⟩, kw_1567, kw_1568⟩
theorem mw_L_205 : sj_mw RL 205 m_X8_look 1 := ⟨kw_821, kw_1, ⟨by decide, by decide, by decide +kernel⟩, Or.inl kw_818⟩
theorem vw_X8_look : sj_vw 8 m_X8_look := ⟨⟨_, rfl, rfl⟩, kw_819, kw_820⟩
theorem mw_L_208 : sj_mw RL 208 m_X9_look 1 := ⟨kw_1678, kw_10, ⟨by decide, by decide, by decide +kernel⟩, Or.inl kw_1675⟩
theorem vw_X9_look : sj_vw 9 m_X9_look := ⟨⟨_, rfl, rfl⟩, kw_1676, kw_1677⟩
theorem nw_L_7 : sj_nw RL 7 8 15 := ⟨_, rfl, kw_18, kw_19, kw_1, rfl⟩
theorem mw_L_9 : sj_mw RL 9 m_X8_init 0 := ⟨kw_22, kw_1, ⟨by decide, by decide, by decide +kernel⟩, Or.inl kw_20⟩
theorem nw_L_10 : sj_nw RL 10 9 35 := ⟨_, rfl, kw_1097, kw_1098, kw_10, rfl⟩
theorem mw_L_12 : sj_mw RL 12 m_X9_init 0 := ⟨kw_1101, kw_10, ⟨by decide, by decide, by decide +kernel⟩, Or.inl kw_1099⟩
theorem nf0_0 : ∀ q : vw_C, vwCl[0]? = some q → (q.2.1 0).2.2.2 = false := fun _ hq => by cases hq; rfl
theorem nf0_1 : ∀ q : vw_C, vwCl[0]? = some q → (q.2.1 1).2.2.2 = false := fun _ hq => by cases hq; rfl
theorem nf0_2 : ∀ q : vw_C, vwCl[0]? = some q → (q.2.1 2).2.2.2 = false := fun _ hq => by cases hq; rfl
theorem nf1_2 : ∀ q : vw_C, vwCl[1]? = some q → (q.2.1 2).2.2.2 = false := fun _ hq => by cases hq; rfl
theorem nf1_3 : ∀ q : vw_C, vwCl[1]? = some q → (q.2.1 3).2.2.2 = false := fun _ hq => by cases hq; rfl
theorem nf2_1 : ∀ q : vw_C, vwCl[2]? = some q → (q.2.1 1).2.2.2 = false := fun _ hq => by cases hq; rfl
theorem nf3_2 : ∀ q : vw_C, vwCl[3]? = some q → (q.2.1 2).2.2.2 = false := fun _ hq => by cases hq; rfl
theorem nf3_3 : ∀ q : vw_C, vwCl[3]? = some q → (q.2.1 3).2.2.2 = false := fun _ hq => by cases hq; rfl
theorem nf3_4 : ∀ q : vw_C, vwCl[3]? = some q → (q.2.1 4).2.2.2 = false := fun _ hq => by cases hq; rfl
theorem nf3_5 : ∀ q : vw_C, vwCl[3]? = some q → (q.2.1 5).2.2.2 = false := fun _ hq => by cases hq; rfl
theorem nf3_6 : ∀ q : vw_C, vwCl[3]? = some q → (q.2.1 6).2.2.2 = false := fun _ hq => by cases hq; rfl
theorem nf4_8 : ∀ q : vw_C, vwCl[4]? = some q → (q.2.1 8).2.2.2 = false := fun _ hq => by cases hq; rfl
theorem nf4_9 : ∀ q : vw_C, vwCl[4]? = some q → (q.2.1 9).2.2.2 = false := fun _ hq => by cases hq; rfl
theorem nf4_10 : ∀ q : vw_C, vwCl[4]? = some q → (q.2.1 10).2.2.2 = false := fun _ hq => by cases hq; rfl
theorem nf5_1 : ∀ q : vw_C, vwCl[5]? = some q → (q.2.1 1).2.2.2 = false := fun _ hq => by cases hq; rfl
theorem nf5_2 : ∀ q : vw_C, vwCl[5]? = some q → (q.2.1 2).2.2.2 = false := fun _ hq => by cases hq; rfl
theorem nf5_3 : ∀ q : vw_C, vwCl[5]? = some q → (q.2.1 3).2.2.2 = false := fun _ hq => by cases hq; rfl
theorem nf6_8 : ∀ q : vw_C, vwCl[6]? = some q → (q.2.1 8).2.2.2 = false := fun _ hq => by cases hq; rfl
theorem nf6_10 : ∀ q : vw_C, vwCl[6]? = some q → (q.2.1 10).2.2.2 = false := fun _ hq => by cases hq; rfl
theorem nf6_11 : ∀ q : vw_C, vwCl[6]? = some q → (q.2.1 11).2.2.2 = false := fun _ hq => by cases hq; rfl
theorem nf6_12 : ∀ q : vw_C, vwCl[6]? = some q → (q.2.1 12).2.2.2 = false := fun _ hq => by cases hq; rfl
theorem nf6_13 : ∀ q : vw_C, vwCl[6]? = some q → (q.2.1 13).2.2.2 = false := fun _ hq => by cases hq; rfl
theorem nf7_1 : ∀ q : vw_C, vwCl[7]? = some q → (q.2.1 1).2.2.2 = false := fun _ hq => by cases hq; rfl
theorem nf7_2 : ∀ q : vw_C, vwCl[7]? = some q → (q.2.1 2).2.2.2 = false := fun _ hq => by cases hq; rfl
theorem nf7_3 : ∀ q : vw_C, vwCl[7]? = some q → (q.2.1 3).2.2.2 = false := fun _ hq => by cases hq; rfl
theorem nf7_4 : ∀ q : vw_C, vwCl[7]? = some q → (q.2.1 4).2.2.2 = false := fun _ hq => by cases hq; rfl
theorem nf7_5 : ∀ q : vw_C, vwCl[7]? = some q → (q.2.1 5).2.2.2 = false := fun _ hq => by cases hq; rfl
theorem nf7_6 : ∀ q : vw_C, vwCl[7]? = some q → (q.2.1 6).2.2.2 = false := fun _ hq => by cases hq; rfl
theorem nf7_7 : ∀ q : vw_C, vwCl[7]? = some q → (q.2.1 7).2.2.2 = false := fun _ hq => by cases hq; rfl
theorem nf8_12 : ∀ q : vw_C, vwCl[8]? = some q → (q.2.1 12).2.2.2 = false := fun _ hq => by cases hq; rfl
theorem nf8_13 : ∀ q : vw_C, vwCl[8]? = some q → (q.2.1 13).2.2.2 = false := fun _ hq => by cases hq; rfl
theorem nf8_14 : ∀ q : vw_C, vwCl[8]? = some q → (q.2.1 14).2.2.2 = false := fun _ hq => by cases hq; rfl
theorem nf9_4 : ∀ q : vw_C, vwCl[9]? = some q → (q.2.1 4).2.2.2 = false := fun _ hq => by cases hq; rfl
theorem nf9_5 : ∀ q : vw_C, vwCl[9]? = some q → (q.2.1 5).2.2.2 = false := fun _ hq => by cases hq; rfl
theorem nf9_6 : ∀ q : vw_C, vwCl[9]? = some q → (q.2.1 6).2.2.2 = false := fun _ hq => by cases hq; rfl
theorem nf9_7 : ∀ q : vw_C, vwCl[9]? = some q → (q.2.1 7).2.2.2 = false := fun _ hq => by cases hq; rfl
theorem nf9_8 : ∀ q : vw_C, vwCl[9]? = some q → (q.2.1 8).2.2.2 = false := fun _ hq => by cases hq; rfl
theorem nf9_9 : ∀ q : vw_C, vwCl[9]? = some q → (q.2.1 9).2.2.2 = false := fun _ hq => by cases hq; rfl
theorem nf9_10 : ∀ q : vw_C, vwCl[9]? = some q → (q.2.1 10).2.2.2 = false := fun _ hq => by cases hq; rfl
theorem nf9_11 : ∀ q : vw_C, vwCl[9]? = some q → (q.2.1 11).2.2.2 = false := fun _ hq => by cases hq; rfl
theorem nf9_12 : ∀ q : vw_C, vwCl[9]? = some q → (q.2.1 12).2.2.2 = false := fun _ hq => by cases hq; rfl
theorem nf9_13 : ∀ q : vw_C, vwCl[9]? = some q → (q.2.1 13).2.2.2 = false := fun _ hq => by cases hq; rfl
theorem nf9_14 : ∀ q : vw_C, vwCl[9]? = some q → (q.2.1 14).2.2.2 = false := fun _ hq => by cases hq; rfl
theorem nf9_15 : ∀ q : vw_C, vwCl[9]? = some q → (q.2.1 15).2.2.2 = false := fun _ hq => by cases hq; rfl
theorem nf9_17 : ∀ q : vw_C, vwCl[9]? = some q → (q.2.1 17).2.2.2 = false := fun _ hq => by cases hq; rfl
theorem nf9_18 : ∀ q : vw_C, vwCl[9]? = some q → (q.2.1 18).2.2.2 = false := fun _ hq => by cases hq; rfl
theorem nf9_19 : ∀ q : vw_C, vwCl[9]? = some q → (q.2.1 19).2.2.2 = false := fun _ hq => by cases hq; rfl
theorem nf9_20 : ∀ q : vw_C, vwCl[9]? = some q → (q.2.1 20).2.2.2 = false := fun _ hq => by cases hq; rfl
theorem nf9_21 : ∀ q : vw_C, vwCl[9]? = some q → (q.2.1 21).2.2.2 = false := fun _ hq => by cases hq; rfl
theorem nf9_26 : ∀ q : vw_C, vwCl[9]? = some q → (q.2.1 26).2.2.2 = false := fun _ hq => by cases hq; rfl
theorem nf9_28 : ∀ q : vw_C, vwCl[9]? = some q → (q.2.1 28).2.2.2 = false := fun _ hq => by cases hq; rfl
theorem nf9_29 : ∀ q : vw_C, vwCl[9]? = some q → (q.2.1 29).2.2.2 = false := fun _ hq => by cases hq; rfl
theorem nf9_30 : ∀ q : vw_C, vwCl[9]? = some q → (q.2.1 30).2.2.2 = false := fun _ hq => by cases hq; rfl
theorem nf9_31 : ∀ q : vw_C, vwCl[9]? = some q → (q.2.1 31).2.2.2 = false := fun _ hq => by cases hq; rfl
theorem nf9_32 : ∀ q : vw_C, vwCl[9]? = some q → (q.2.1 32).2.2.2 = false := fun _ hq => by cases hq; rfl
theorem nf9_33 : ∀ q : vw_C, vwCl[9]? = some q → (q.2.1 33).2.2.2 = false := fun _ hq => by cases hq; rfl
