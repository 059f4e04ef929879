theorem dX9_column_0 : decode cX9_column 0 = .ok (.aload_n 0, 1) := by decide +kernel
theorem dX9_column_1 : decode cX9_column 1 = .ok (.iload_n 1, 1) := by decide +kernel
theorem dX9_column_2 : decode cX9_column 2 = .ok (.invokevirtual 74, 3) := by decide +kernel
theorem dX9_column_5 : decode cX9_column 5 = .ok (.ifCond .ne 6, 3) := by decide +kernel
theorem dX9_column_8 : decode cX9_column 8 = .ok (.bipush (-10), 2) := by decide +kernel
theorem dX9_column_10 : decode cX9_column 10 = .ok (.ireturn, 1) := by decide +kernel
theorem dX9_column_11 : decode cX9_column 11 = .ok (.iload_n 2, 1) := by decide +kernel
theorem dX9_column_12 : decode cX9_column 12 = .ok (.tableswitch 144 0 8 #[52, 61, 71, 77, 87, 87, 87, 87, 96], 52) := by decide +kernel
theorem dX9_column_64 : decode cX9_column 64 = .ok (.aload_n 0, 1) := by decide +kernel
theorem dX9_column_65 : decode cX9_column 65 = .ok (.getfield 9, 3) := by decide +kernel
theorem dX9_column_68 : decode cX9_column 68 = .ok (.iconst 3, 1) := by decide +kernel
theorem dX9_column_69 : decode cX9_column 69 = .ok (.iload_n 1, 1) := by decide +kernel
theorem dX9_column_70 : decode cX9_column 70 = .ok (.iadd, 1) := by decide +kernel
theorem dX9_column_71 : decode cX9_column 71 = .ok (.iaload, 1) := by decide +kernel
theorem dX9_column_72 : decode cX9_column 72 = .ok (.ireturn, 1) := by decide +kernel
theorem dX9_column_73 : decode cX9_column 73 = .ok (.aload_n 0, 1) := by decide +kernel
theorem dX9_column_74 : decode cX9_column 74 = .ok (.getfield 9, 3) := by decide +kernel
theorem dX9_column_77 : decode cX9_column 77 = .ok (.bipush 44, 2) := by decide +kernel
theorem dX9_column_79 : decode cX9_column 79 = .ok (.iload_n 1, 1) := by decide +kernel
theorem dX9_column_80 : decode cX9_column 80 = .ok (.iadd, 1) := by decide +kernel
theorem dX9_column_81 : decode cX9_column 81 = .ok (.iaload, 1) := by decide +kernel
theorem dX9_column_82 : decode cX9_column 82 = .ok (.ireturn, 1) := by decide +kernel
theorem dX9_column_83 : decode cX9_column 83 = .ok (.aload_n 0, 1) := by decide +kernel
theorem dX9_column_84 : decode cX9_column 84 = .ok (.iload_n 1, 1) := by decide +kernel
theorem dX9_column_85 : decode cX9_column 85 = .ok (.invokevirtual 128, 3) := by decide +kernel
theorem dX9_column_88 : decode cX9_column 88 = .ok (.ireturn, 1) := by decide +kernel
theorem dX9_column_89 : decode cX9_column 89 = .ok (.aload_n 0, 1) := by decide +kernel
theorem dX9_column_90 : decode cX9_column 90 = .ok (.getfield 9, 3) := by decide +kernel
theorem dX9_column_93 : decode cX9_column 93 = .ok (.bipush 126, 2) := by decide +kernel
theorem dX9_column_95 : decode cX9_column 95 = .ok (.iload_n 1, 1) := by decide +kernel
theorem dX9_column_96 : decode cX9_column 96 = .ok (.iadd, 1) := by decide +kernel
theorem dX9_column_97 : decode cX9_column 97 = .ok (.iaload, 1) := by decide +kernel
theorem dX9_column_98 : decode cX9_column 98 = .ok (.ireturn, 1) := by decide +kernel
theorem dX9_column_99 : decode cX9_column 99 = .ok (.aload_n 0, 1) := by decide +kernel
theorem dX9_column_100 : decode cX9_column 100 = .ok (.iload_n 2, 1) := by decide +kernel
theorem dX9_column_101 : decode cX9_column 101 = .ok (.iconst 4, 1) := by decide +kernel
theorem dX9_column_102 : decode cX9_column 102 = .ok (.isub, 1) := by decide +kernel
theorem dX9_column_103 : decode cX9_column 103 = .ok (.iload_n 1, 1) := by decide +kernel
theorem dX9_column_104 : decode cX9_column 104 = .ok (.invokevirtual 108, 3) := by decide +kernel
theorem dX9_column_107 : decode cX9_column 107 = .ok (.ireturn, 1) := by decide +kernel
theorem dX9_column_108 : decode cX9_column 108 = .ok (.aload_n 0, 1) := by decide +kernel
theorem dX9_column_109 : decode cX9_column 109 = .ok (.invokevirtual 92, 3) := by decide +kernel
theorem dX9_column_112 : decode cX9_column 112 = .ok (.ifCond .eq 42, 3) := by decide +kernel
theorem dX9_column_115 : decode cX9_column 115 = .ok (.iload_n 1, 1) := by decide +kernel
theorem dX9_column_116 : decode cX9_column 116 = .ok (.i2l, 1) := by decide +kernel
theorem dX9_column_117 : decode cX9_column 117 = .ok (.aload_n 0, 1) := by decide +kernel
theorem dX9_column_118 : decode cX9_column 118 = .ok (.getfield 9, 3) := by decide +kernel
theorem dX9_column_121 : decode cX9_column 121 = .ok (.sipush 320, 3) := by decide +kernel
theorem dX9_column_124 : decode cX9_column 124 = .ok (.iaload, 1) := by decide +kernel
theorem dX9_column_125 : decode cX9_column 125 = .ok (.i2l, 1) := by decide +kernel
theorem dX9_column_126 : decode cX9_column 126 = .ok (.aload_n 0, 1) := by decide +kernel
theorem dX9_column_127 : decode cX9_column 127 = .ok (.getfield 9, 3) := by decide +kernel
theorem dX9_column_130 : decode cX9_column 130 = .ok (.sipush 321, 3) := by decide +kernel
theorem dX9_column_133 : decode cX9_column 133 = .ok (.iaload, 1) := by decide +kernel
theorem dX9_column_134 : decode cX9_column 134 = .ok (.i2l, 1) := by decide +kernel
theorem dX9_column_135 : decode cX9_column 135 = .ok (.invokestatic 57, 3) := by decide +kernel
theorem dX9_column_138 : decode cX9_column 138 = .ok (.ifCond .eq 16, 3) := by decide +kernel
theorem dX9_column_141 : decode cX9_column 141 = .ok (.aload_n 0, 1) := by decide +kernel
theorem dX9_column_142 : decode cX9_column 142 = .ok (.getfield 9, 3) := by decide +kernel
theorem dX9_column_145 : decode cX9_column 145 = .ok (.sipush 323, 3) := by decide +kernel
theorem dX9_column_148 : decode cX9_column 148 = .ok (.iload_n 1, 1) := by decide +kernel
theorem dX9_column_149 : decode cX9_column 149 = .ok (.iadd, 1) := by decide +kernel
theorem dX9_column_150 : decode cX9_column 150 = .ok (.iaload, 1) := by decide +kernel
theorem dX9_column_151 : decode cX9_column 151 = .ok (.goto 4, 3) := by decide +kernel
theorem dX9_column_154 : decode cX9_column 154 = .ok (.iconst (-1), 1) := by decide +kernel
theorem dX9_column_155 : decode cX9_column 155 = .ok (.ireturn, 1) := by decide +kernel
theorem dX9_column_156 : decode cX9_column 156 = .ok (.bipush (-10), 2) := by decide +kernel
theorem dX9_column_158 : decode cX9_column 158 = .ok (.ireturn, 1) := by decide +kernel
set_option maxHeartbeats 4000000 in
theorem st_X9_column_0 {X : sj_X} {g : sj_G} {s0 : sj_Mem} {N : Nat} {q : Int × sj_VV} :
    ∀ (a0 : Nat) (x1 : Int) (x2 : Int) (V : sj_VV), OK9 g a0 → g_X9_column N a0 x1 x2 V = some q → sj_T X m_X9_column s0 (some (sj_i q.1), (g, q.2)) 0 [some (sj_r (some a0)), some (sj_i x1), some (sj_i x2)] [] (g, V) := by
  intro a0 x1 x2 V ha0 h
  unfold g_X9_column at h
  refine r_aload_n (pc := 0) dX9_column_0 rfl rfl ?_
  refine r_iload_n (pc := 1) dX9_column_1 rfl rfl ?_
  refine r_callVs (pc := 2) (fun v => some (sj_i v)) (As := [sj_i x1]) (rest := []) (b := a0) (ok9 ha0) h dX9_column_2 mw_X9_74 vw_X9_isColumn (fun _ _ hc => cg_X9_isColumn ha0 hc) rfl ⟨(Nat.le_of_ble_eq_true rfl), (Nat.le_of_ble_eq_true rfl)⟩ (Nat.le_of_ble_eq_true rfl) rfl (fun v2 V1 h => ?_)
  refine r_if_ne (pc := 5) (tgt := 11) h dX9_column_5 (by decide) (fun h => ?_) (fun h => ?_)
  · refine r_bipush (pc := 8) dX9_column_8 ⟨by decide, by decide⟩ ?_
    exact r_irets (pc := 10) h rfl dX9_column_10
  · refine r_iload_n (pc := 11) dX9_column_11 rfl rfl ?_
    obtain ⟨hr, h⟩ := e_sw_some h
    refine sj_if h (fun c0 h => ?_) (fun c0 h => ?_)
    · refine r_tcase (pc := 12) (tgt := 64) (j := 0) hr c0 dX9_column_12 (by decide) (by decide) rfl (by decide) ?_
      refine r_aload_n (pc := 64) dX9_column_64 rfl rfl ?_
      refine r_gRs (b := a0 + 1) (pc := 65) dX9_column_65 fw_X9_9 rfl (ok9 ha0) (ok9_0 ha0).1 ?_
      refine r_iconst (pc := 68) dX9_column_68 ?_
      refine r_iload_n (pc := 69) dX9_column_69 rfl rfl ?_
      refine r_iadd (pc := 70) dX9_column_70 ?_
      refine r_ialoads (pc := 71) h dX9_column_71 (ok9_0 ha0).2 (fun h => ?_)
      exact r_irets (pc := 72) h rfl dX9_column_72
    refine sj_if h (fun c1 h => ?_) (fun c1 h => ?_)
    · refine r_tcase (pc := 12) (tgt := 73) (j := 1) hr c1 dX9_column_12 (by decide) (by decide) rfl (by decide) ?_
      refine r_aload_n (pc := 73) dX9_column_73 rfl rfl ?_
      refine r_gRs (b := a0 + 1) (pc := 74) dX9_column_74 fw_X9_9 rfl (ok9 ha0) (ok9_0 ha0).1 ?_
      refine r_bipush (pc := 77) dX9_column_77 ⟨by decide, by decide⟩ ?_
      refine r_iload_n (pc := 79) dX9_column_79 rfl rfl ?_
      refine r_iadd (pc := 80) dX9_column_80 ?_
      refine r_ialoads (pc := 81) h dX9_column_81 (ok9_0 ha0).2 (fun h => ?_)
      exact r_irets (pc := 82) h rfl dX9_column_82
    refine sj_if h (fun c2 h => ?_) (fun c2 h => ?_)
    · refine r_tcase (pc := 12) (tgt := 83) (j := 2) hr c2 dX9_column_12 (by decide) (by decide) rfl (by decide) ?_
      refine r_aload_n (pc := 83) dX9_column_83 rfl rfl ?_
      refine r_iload_n (pc := 84) dX9_column_84 rfl rfl ?_
      refine r_callVs (pc := 85) (fun v => some (sj_i v)) (As := [sj_i x1]) (rest := []) (b := a0) (ok9 ha0) h dX9_column_85 mw_X9_128 vw_X9_water (fun _ _ hc => cg_X9_water ha0 hc) rfl ⟨(Nat.le_of_ble_eq_true rfl), (Nat.le_of_ble_eq_true rfl)⟩ (Nat.le_of_ble_eq_true rfl) rfl (fun v4 V3 h => ?_)
      exact r_irets (pc := 88) h rfl dX9_column_88
    refine sj_if h (fun c3 h => ?_) (fun c3 h => ?_)
    · refine r_tcase (pc := 12) (tgt := 89) (j := 3) hr c3 dX9_column_12 (by decide) (by decide) rfl (by decide) ?_
      refine r_aload_n (pc := 89) dX9_column_89 rfl rfl ?_
      refine r_gRs (b := a0 + 1) (pc := 90) dX9_column_90 fw_X9_9 rfl (ok9 ha0) (ok9_0 ha0).1 ?_
      refine r_bipush (pc := 93) dX9_column_93 ⟨by decide, by decide⟩ ?_
      refine r_iload_n (pc := 95) dX9_column_95 rfl rfl ?_
      refine r_iadd (pc := 96) dX9_column_96 ?_
      refine r_ialoads (pc := 97) h dX9_column_97 (ok9_0 ha0).2 (fun h => ?_)
      exact r_irets (pc := 98) h rfl dX9_column_98
    refine sj_if h (fun c4 h => ?_) (fun c4 h => ?_)
    · refine r_tcase (pc := 12) (tgt := 99) (j := 4) hr c4 dX9_column_12 (by decide) (by decide) rfl (by decide) ?_
      refine r_aload_n (pc := 99) dX9_column_99 rfl rfl ?_
      refine r_iload_n (pc := 100) dX9_column_100 rfl rfl ?_
      refine r_iconst (pc := 101) dX9_column_101 ?_
      refine r_isub (pc := 102) dX9_column_102 ?_
      refine r_iload_n (pc := 103) dX9_column_103 rfl rfl ?_
      refine r_callVs (pc := 104) (fun v => some (sj_i v)) (As := [sj_i (x2 - 4), sj_i x1]) (rest := []) (b := a0) (ok9 ha0) h dX9_column_104 mw_X9_108 vw_X9_top (fun _ _ hc => cg_X9_top ha0 hc) rfl ⟨(Nat.le_of_ble_eq_true rfl), (Nat.le_of_ble_eq_true rfl)⟩ (Nat.le_of_ble_eq_true rfl) rfl (fun v6 V5 h => ?_)
      exact r_irets (pc := 107) h rfl dX9_column_107
    refine sj_if h (fun c5 h => ?_) (fun c5 h => ?_)
    · refine r_tcase (pc := 12) (tgt := 99) (j := 5) hr c5 dX9_column_12 (by decide) (by decide) rfl (by decide) ?_
      refine r_aload_n (pc := 99) dX9_column_99 rfl rfl ?_
      refine r_iload_n (pc := 100) dX9_column_100 rfl rfl ?_
      refine r_iconst (pc := 101) dX9_column_101 ?_
      refine r_isub (pc := 102) dX9_column_102 ?_
      refine r_iload_n (pc := 103) dX9_column_103 rfl rfl ?_
      refine r_callVs (pc := 104) (fun v => some (sj_i v)) (As := [sj_i (x2 - 4), sj_i x1]) (rest := []) (b := a0) (ok9 ha0) h dX9_column_104 mw_X9_108 vw_X9_top (fun _ _ hc => cg_X9_top ha0 hc) rfl ⟨(Nat.le_of_ble_eq_true rfl), (Nat.le_of_ble_eq_true rfl)⟩ (Nat.le_of_ble_eq_true rfl) rfl (fun v8 V7 h => ?_)
      exact r_irets (pc := 107) h rfl dX9_column_107
    refine sj_if h (fun c6 h => ?_) (fun c6 h => ?_)
    · refine r_tcase (pc := 12) (tgt := 99) (j := 6) hr c6 dX9_column_12 (by decide) (by decide) rfl (by decide) ?_
      refine r_aload_n (pc := 99) dX9_column_99 rfl rfl ?_
      refine r_iload_n (pc := 100) dX9_column_100 rfl rfl ?_
      refine r_iconst (pc := 101) dX9_column_101 ?_
      refine r_isub (pc := 102) dX9_column_102 ?_
      refine r_iload_n (pc := 103) dX9_column_103 rfl rfl ?_
      refine r_callVs (pc := 104) (fun v => some (sj_i v)) (As := [sj_i (x2 - 4), sj_i x1]) (rest := []) (b := a0) (ok9 ha0) h dX9_column_104 mw_X9_108 vw_X9_top (fun _ _ hc => cg_X9_top ha0 hc) rfl ⟨(Nat.le_of_ble_eq_true rfl), (Nat.le_of_ble_eq_true rfl)⟩ (Nat.le_of_ble_eq_true rfl) rfl (fun v10 V9 h => ?_)
      exact r_irets (pc := 107) h rfl dX9_column_107
    refine sj_if h (fun c7 h => ?_) (fun c7 h => ?_)
    · refine r_tcase (pc := 12) (tgt := 99) (j := 7) hr c7 dX9_column_12 (by decide) (by decide) rfl (by decide) ?_
      refine r_aload_n (pc := 99) dX9_column_99 rfl rfl ?_
      refine r_iload_n (pc := 100) dX9_column_100 rfl rfl ?_
      refine r_iconst (pc := 101) dX9_column_101 ?_
      refine r_isub (pc := 102) dX9_column_102 ?_
      refine r_iload_n (pc := 103) dX9_column_103 rfl rfl ?_
      refine r_callVs (pc := 104) (fun v => some (sj_i v)) (As := [sj_i (x2 - 4), sj_i x1]) (rest := []) (b := a0) (ok9 ha0) h dX9_column_104 mw_X9_108 vw_X9_top (fun _ _ hc => cg_X9_top ha0 hc) rfl ⟨(Nat.le_of_ble_eq_true rfl), (Nat.le_of_ble_eq_true rfl)⟩ (Nat.le_of_ble_eq_true rfl) rfl (fun v12 V11 h => ?_)
      exact r_irets (pc := 107) h rfl dX9_column_107
    refine sj_if h (fun c8 h => ?_) (fun c8 h => ?_)
    · refine r_tcase (pc := 12) (tgt := 108) (j := 8) hr c8 dX9_column_12 (by decide) (by decide) rfl (by decide) ?_
      refine r_aload_n (pc := 108) dX9_column_108 rfl rfl ?_
      refine r_callVs (pc := 109) (fun v => some (sj_i v)) (As := []) (rest := []) (b := a0) (ok9 ha0) h dX9_column_109 mw_X9_92 vw_X9_hasSlip (fun _ _ hc => cg_X9_hasSlip ha0 hc) rfl ⟨(Nat.le_of_ble_eq_true rfl), (Nat.le_of_ble_eq_true rfl)⟩ (Nat.le_of_ble_eq_true rfl) rfl (fun v14 V13 h => ?_)
      refine r_if_eq (pc := 112) (tgt := 154) h dX9_column_112 (by decide) (fun h => ?_) (fun h => ?_)
      · refine r_iconst (pc := 154) dX9_column_154 ?_
        exact r_irets (pc := 155) h rfl dX9_column_155
      · refine r_iload_n (pc := 115) dX9_column_115 rfl rfl ?_
        refine r_i2l (pc := 116) h dX9_column_116 (fun v15 h => ?_)
        refine r_aload_n (pc := 117) dX9_column_117 rfl rfl ?_
        refine r_gRs (b := a0 + 1) (pc := 118) dX9_column_118 fw_X9_9 rfl (ok9 ha0) (ok9_0 ha0).1 ?_
        refine r_sipush (pc := 121) dX9_column_121 ⟨by decide, by decide⟩ ?_
        refine r_ialoads (pc := 124) h dX9_column_124 (ok9_0 ha0).2 (fun h => ?_)
        refine r_i2l (pc := 125) h dX9_column_125 (fun v16 h => ?_)
        refine r_aload_n (pc := 126) dX9_column_126 rfl rfl ?_
        refine r_gRs (b := a0 + 1) (pc := 127) dX9_column_127 fw_X9_9 rfl (ok9 ha0) (ok9_0 ha0).1 ?_
        refine r_sipush (pc := 130) dX9_column_130 ⟨by decide, by decide⟩ ?_
        refine r_ialoads (pc := 133) h dX9_column_133 (ok9_0 ha0).2 (fun h => ?_)
        refine r_i2l (pc := 134) h dX9_column_134 (fun v17 h => ?_)
        refine r_callSs (pc := 135) (fun v => some (sj_i v)) (As := [sj_j v15, sj_j v16, sj_j v17]) (rest := []) h dX9_column_135 mw_X9_57 kw_1225 (fun _ _ hc => cg_X9_isIn  hc) rfl ⟨(Nat.le_of_ble_eq_true rfl), (Nat.le_of_ble_eq_true rfl)⟩ (Nat.le_of_ble_eq_true rfl) rfl (fun v19 V18 h => ?_)
        refine r_if_eq (pc := 138) (tgt := 154) h dX9_column_138 (by decide) (fun h => ?_) (fun h => ?_)
        · refine r_iconst (pc := 154) dX9_column_154 ?_
          exact r_irets (pc := 155) h rfl dX9_column_155
        · refine r_aload_n (pc := 141) dX9_column_141 rfl rfl ?_
          refine r_gRs (b := a0 + 1) (pc := 142) dX9_column_142 fw_X9_9 rfl (ok9 ha0) (ok9_0 ha0).1 ?_
          refine r_sipush (pc := 145) dX9_column_145 ⟨by decide, by decide⟩ ?_
          refine r_iload_n (pc := 148) dX9_column_148 rfl rfl ?_
          refine r_iadd (pc := 149) dX9_column_149 ?_
          refine r_ialoads (pc := 150) h dX9_column_150 (ok9_0 ha0).2 (fun h => ?_)
          refine r_goto (pc := 151) (tgt := 155) dX9_column_151 (by decide) ?_
          exact r_irets (pc := 155) h rfl dX9_column_155
    refine r_tdflt (pc := 12) (tgt := 156) hr dX9_column_12 (by omega) (by decide) ?_
    refine r_bipush (pc := 156) dX9_column_156 ⟨by decide, by decide⟩ ?_
    exact r_irets (pc := 158) h rfl dX9_column_158
set_option maxHeartbeats 4000000 in
theorem cg_X9_column {X : sj_X} {g : sj_G} {N : Nat} {a0 : Nat} {x1 : Int} {x2 : Int} {V : sj_VV} {q : Int × sj_VV} (ha0 : OK9 g a0) (h : g_X9_column N a0 x1 x2 V = some q) : sj_C X m_X9_column [sj_r (some a0), sj_i x1, sj_i x2] (g, V) (some (sj_i q.1), (g, q.2)) :=
  sj_C_of (by decide +kernel) (Nat.le_of_ble_eq_true rfl) (lo := [some (sj_r (some a0)), some (sj_i x1), some (sj_i x2)]) rfl (sj_weak (l2 := [some (sj_r (some a0)), some (sj_i x1), some (sj_i x2)]) (⟨rfl, ⟨rfl, ⟨rfl, trivial⟩⟩⟩) (st_X9_column_0 a0 x1 x2 V ha0 h))
set_option maxHeartbeats 4000000 in
theorem c_X9_column {X : sj_X} {N : Nat} {a0 : Nat} {x1 : Int} {x2 : Int} {s : sj_Mem} {q : Int × sj_Mem} (h : f_X9_column N a0 x1 x2 s = some q) : sj_C X m_X9_column [sj_r (some a0), sj_i x1, sj_i x2] s (some (sj_i q.1), q.2) := by
  obtain ⟨g, V⟩ := s
  unfold f_X9_column at h
  obtain ⟨ho, h1⟩ := e_ok_some h
  obtain ⟨q2, h2, rfl⟩ := sj_map_some h1
  exact cg_X9_column ho h2
theorem dX9_undo_0 : decode cX9_undo 0 = .ok (.aload_n 0, 1) := by decide +kernel
theorem dX9_undo_1 : decode cX9_undo 1 = .ok (.getfield 61, 3) := by decide +kernel
theorem dX9_undo_4 : decode cX9_undo 4 = .ok (.ifCond .ne 5, 3) := by decide +kernel
theorem dX9_undo_7 : decode cX9_undo 7 = .ok (.iconst (-1), 1) := by decide +kernel
theorem dX9_undo_8 : decode cX9_undo 8 = .ok (.ireturn, 1) := by decide +kernel
theorem dX9_undo_9 : decode cX9_undo 9 = .ok (.aload_n 0, 1) := by decide +kernel
theorem dX9_undo_10 : decode cX9_undo 10 = .ok (.dup, 1) := by decide +kernel
theorem dX9_undo_11 : decode cX9_undo 11 = .ok (.getfield 61, 3) := by decide +kernel
theorem dX9_undo_14 : decode cX9_undo 14 = .ok (.iconst 1, 1) := by decide +kernel
theorem dX9_undo_15 : decode cX9_undo 15 = .ok (.isub, 1) := by decide +kernel
theorem dX9_undo_16 : decode cX9_undo 16 = .ok (.putfield 61, 3) := by decide +kernel
theorem dX9_undo_19 : decode cX9_undo 19 = .ok (.iconst 0, 1) := by decide +kernel
theorem dX9_undo_20 : decode cX9_undo 20 = .ok (.istore_n 1, 1) := by decide +kernel
theorem dX9_undo_21 : decode cX9_undo 21 = .ok (.iload_n 1, 1) := by decide +kernel
theorem dX9_undo_22 : decode cX9_undo 22 = .ok (.sipush 364, 3) := by decide +kernel
theorem dX9_undo_25 : decode cX9_undo 25 = .ok (.if_icmp .ge 30, 3) := by decide +kernel
theorem dX9_undo_28 : decode cX9_undo 28 = .ok (.aload_n 0, 1) := by decide +kernel
theorem dX9_undo_29 : decode cX9_undo 29 = .ok (.getfield 9, 3) := by decide +kernel
theorem dX9_undo_32 : decode cX9_undo 32 = .ok (.iload_n 1, 1) := by decide +kernel
theorem dX9_undo_33 : decode cX9_undo 33 = .ok (.aload_n 0, 1) := by decide +kernel
theorem dX9_undo_34 : decode cX9_undo 34 = .ok (.getfield 19, 3) := by decide +kernel
theorem dX9_undo_37 : decode cX9_undo 37 = .ok (.sipush 364, 3) := by decide +kernel
theorem dX9_undo_40 : decode cX9_undo 40 = .ok (.aload_n 0, 1) := by decide +kernel
theorem dX9_undo_41 : decode cX9_undo 41 = .ok (.getfield 61, 3) := by decide +kernel
theorem dX9_undo_44 : decode cX9_undo 44 = .ok (.imul, 1) := by decide +kernel
theorem dX9_undo_45 : decode cX9_undo 45 = .ok (.iload_n 1, 1) := by decide +kernel
theorem dX9_undo_46 : decode cX9_undo 46 = .ok (.iadd, 1) := by decide +kernel
theorem dX9_undo_47 : decode cX9_undo 47 = .ok (.iaload, 1) := by decide +kernel
theorem dX9_undo_48 : decode cX9_undo 48 = .ok (.iastore, 1) := by decide +kernel
theorem dX9_undo_49 : decode cX9_undo 49 = .ok (.iinc 1 1, 3) := by decide +kernel
theorem dX9_undo_52 : decode cX9_undo 52 = .ok (.goto (-31), 3) := by decide +kernel
theorem dX9_undo_55 : decode cX9_undo 55 = .ok (.aload_n 0, 1) := by decide +kernel
theorem dX9_undo_56 : decode cX9_undo 56 = .ok (.getfield 61, 3) := by decide +kernel
theorem dX9_undo_59 : decode cX9_undo 59 = .ok (.ireturn, 1) := by decide +kernel
set_option maxHeartbeats 4000000 in
theorem st_X9_undo_21_b {X : sj_X} {g : sj_G} {s0 : sj_Mem} {N : Nat} {q : Int × sj_VV} {k21 : Nat → Int → sj_VV → Option (Int × sj_VV)} (hk21 : ∀ (a0 : Nat) (x1 : Int) (V : sj_VV), OK9 g a0 → k21 a0 x1 V = some q → sj_T X m_X9_undo s0 (some (sj_i q.1), (g, q.2)) 21 [some (sj_r (some a0)), some (sj_i x1)] [] (g, V)) :
    ∀ (a0 : Nat) (x1 : Int) (V : sj_VV), OK9 g a0 → g_X9_undo_21_b N k21 a0 x1 V = some q → sj_T X m_X9_undo s0 (some (sj_i q.1), (g, q.2)) 21 [some (sj_r (some a0)), some (sj_i x1)] [] (g, V) := by
  intro a0 x1 V ha0 h
  unfold g_X9_undo_21_b at h
  refine r_iload_n (pc := 21) dX9_undo_21 rfl rfl ?_
  refine r_sipush (pc := 22) dX9_undo_22 ⟨by decide, by decide⟩ ?_
  refine r_icmp_ge (pc := 25) (tgt := 55) h dX9_undo_25 (by decide) (fun h => ?_) (fun h => ?_)
  · refine r_aload_n (pc := 55) dX9_undo_55 rfl rfl ?_
    refine r_gIs (pc := 56) dX9_undo_56 fw_X9_61 rfl (ok9 ha0) ?_
    exact r_irets (pc := 59) h rfl dX9_undo_59
  · refine r_aload_n (pc := 28) dX9_undo_28 rfl rfl ?_
    refine r_gRs (b := a0 + 1) (pc := 29) dX9_undo_29 fw_X9_9 rfl (ok9 ha0) (ok9_0 ha0).1 ?_
    refine r_iload_n (pc := 32) dX9_undo_32 rfl rfl ?_
    refine r_aload_n (pc := 33) dX9_undo_33 rfl rfl ?_
    refine r_gRs (b := a0 + 4) (pc := 34) dX9_undo_34 fw_X9_19 rfl (ok9 ha0) (ok9_3 ha0).1 ?_
    refine r_sipush (pc := 37) dX9_undo_37 ⟨by decide, by decide⟩ ?_
    refine r_aload_n (pc := 40) dX9_undo_40 rfl rfl ?_
    refine r_gIs (pc := 41) dX9_undo_41 fw_X9_61 rfl (ok9 ha0) ?_
    refine r_imul (pc := 44) dX9_undo_44 ?_
    refine r_iload_n (pc := 45) dX9_undo_45 rfl rfl ?_
    refine r_iadd (pc := 46) dX9_undo_46 ?_
    refine r_ialoads (pc := 47) h dX9_undo_47 (ok9_3 ha0).2 (fun h => ?_)
    refine r_iastores (pc := 48) h dX9_undo_48 (ok9_0 ha0).2 (fun V1 h => ?_)
    refine r_iinc (ln := fun w => [some (sj_r (some a0)), some (sj_i w)]) (pc := 49) h dX9_undo_49 rfl (Nat.le_of_ble_eq_true rfl) (fun _ => rfl) (fun v2 h => ?_)
    refine r_goto (pc := 52) (tgt := 21) dX9_undo_52 (by decide) ?_
    exact sj_weak (l2 := [some (sj_r (some a0)), some (sj_i v2)]) (⟨rfl, ⟨rfl, trivial⟩⟩) (hk21 a0 v2 V1 ha0 h)
set_option maxHeartbeats 4000000 in
theorem st_X9_undo_21 {X : sj_X} {g : sj_G} {s0 : sj_Mem} {N : Nat} {q : Int × sj_VV} :
    ∀ (n : Nat) (a0 : Nat) (x1 : Int) (V : sj_VV), OK9 g a0 → g_X9_undo_21 N n a0 x1 V = some q → sj_T X m_X9_undo s0 (some (sj_i q.1), (g, q.2)) 21 [some (sj_r (some a0)), some (sj_i x1)] [] (g, V) := by
  intro n
  induction n with
  | zero => intro a0 x1 V ha0 h; exact nomatch h
  | succ n ih => intro a0 x1 V ha0 h; exact st_X9_undo_21_b (N := N) ih a0 x1 V ha0 h
set_option maxHeartbeats 4000000 in
theorem st_X9_undo_0 {X : sj_X} {g : sj_G} {s0 : sj_Mem} {N : Nat} {q : Int × sj_VV} :
    ∀ (a0 : Nat) (V : sj_VV), OK9 g a0 → g_X9_undo N a0 V = some q → sj_T X m_X9_undo s0 (some (sj_i q.1), (g, q.2)) 0 [some (sj_r (some a0)), none] [] (g, V) := by
  intro a0 V ha0 h
  unfold g_X9_undo at h
  refine r_aload_n (pc := 0) dX9_undo_0 rfl rfl ?_
  refine r_gIs (pc := 1) dX9_undo_1 fw_X9_61 rfl (ok9 ha0) ?_
  refine r_if_ne (pc := 4) (tgt := 9) h dX9_undo_4 (by decide) (fun h => ?_) (fun h => ?_)
  · refine r_iconst (pc := 7) dX9_undo_7 ?_
    exact r_irets (pc := 8) h rfl dX9_undo_8
  · refine r_aload_n (pc := 9) dX9_undo_9 rfl rfl ?_
    refine r_dup (pc := 10) dX9_undo_10 rfl ?_
    refine r_gIs (pc := 11) dX9_undo_11 fw_X9_61 rfl (ok9 ha0) ?_
    refine r_iconst (pc := 14) dX9_undo_14 ?_
    refine r_isub (pc := 15) dX9_undo_15 ?_
    refine r_pIs (pc := 16) h dX9_undo_16 fw_X9_61 rfl rfl (nf9_4) (ok9 ha0) (fun V1 h => ?_)
    refine r_iconst (pc := 19) dX9_undo_19 ?_
    refine r_istore_n (ln := [some (sj_r (some a0)), some (sj_i 0)]) (pc := 20) dX9_undo_20 rfl (Nat.le_of_ble_eq_true rfl) rfl ?_
    exact sj_weak (l2 := [some (sj_r (some a0)), some (sj_i 0)]) (⟨rfl, ⟨rfl, trivial⟩⟩) (st_X9_undo_21 N a0 0 V1 ha0 h)
set_option maxHeartbeats 4000000 in
theorem cg_X9_undo {X : sj_X} {g : sj_G} {N : Nat} {a0 : Nat} {V : sj_VV} {q : Int × sj_VV} (ha0 : OK9 g a0) (h : g_X9_undo N a0 V = some q) : sj_C X m_X9_undo [sj_r (some a0)] (g, V) (some (sj_i q.1), (g, q.2)) :=
  sj_C_of (by decide +kernel) (Nat.le_of_ble_eq_true rfl) (lo := [some (sj_r (some a0)), none]) rfl (sj_weak (l2 := [some (sj_r (some a0)), none]) (⟨rfl, trivial⟩) (st_X9_undo_0 a0 V ha0 h))
set_option maxHeartbeats 4000000 in
theorem c_X9_undo {X : sj_X} {N : Nat} {a0 : Nat} {s : sj_Mem} {q : Int × sj_Mem} (h : f_X9_undo N a0 s = some q) : sj_C X m_X9_undo [sj_r (some a0)] s (some (sj_i q.1), q.2) := by
  obtain ⟨g, V⟩ := s
  unfold f_X9_undo at h
  obtain ⟨ho, h1⟩ := e_ok_some h
  obtain ⟨q2, h2, rfl⟩ := sj_map_some h1
  exact cg_X9_undo ho h2
theorem dX9_keepsSlip_0 : decode cX9_keepsSlip 0 = .ok (.aload_n 0, 1) := by decide +kernel
theorem dX9_keepsSlip_1 : decode cX9_keepsSlip 1 = .ok (.getfield 9, 3) := by decide +kernel
theorem dX9_keepsSlip_4 : decode cX9_keepsSlip 4 = .ok (.sipush 320, 3) := by decide +kernel
theorem dX9_keepsSlip_7 : decode cX9_keepsSlip 7 = .ok (.aload_n 0, 1) := by decide +kernel
theorem dX9_keepsSlip_8 : decode cX9_keepsSlip 8 = .ok (.getfield 22, 3) := by decide +kernel
theorem dX9_keepsSlip_11 : decode cX9_keepsSlip 11 = .ok (.iastore, 1) := by decide +kernel
theorem dX9_keepsSlip_12 : decode cX9_keepsSlip 12 = .ok (.aload_n 0, 1) := by decide +kernel
theorem dX9_keepsSlip_13 : decode cX9_keepsSlip 13 = .ok (.getfield 9, 3) := by decide +kernel
theorem dX9_keepsSlip_16 : decode cX9_keepsSlip 16 = .ok (.sipush 321, 3) := by decide +kernel
theorem dX9_keepsSlip_19 : decode cX9_keepsSlip 19 = .ok (.aload_n 0, 1) := by decide +kernel
theorem dX9_keepsSlip_20 : decode cX9_keepsSlip 20 = .ok (.getfield 150, 3) := by decide +kernel
theorem dX9_keepsSlip_23 : decode cX9_keepsSlip 23 = .ok (.iastore, 1) := by decide +kernel
theorem dX9_keepsSlip_24 : decode cX9_keepsSlip 24 = .ok (.aload_n 0, 1) := by decide +kernel
theorem dX9_keepsSlip_25 : decode cX9_keepsSlip 25 = .ok (.getfield 9, 3) := by decide +kernel
theorem dX9_keepsSlip_28 : decode cX9_keepsSlip 28 = .ok (.sipush 322, 3) := by decide +kernel
theorem dX9_keepsSlip_31 : decode cX9_keepsSlip 31 = .ok (.aload_n 0, 1) := by decide +kernel
theorem dX9_keepsSlip_32 : decode cX9_keepsSlip 32 = .ok (.getfield 153, 3) := by decide +kernel
theorem dX9_keepsSlip_35 : decode cX9_keepsSlip 35 = .ok (.ifCond .eq 7, 3) := by decide +kernel
theorem dX9_keepsSlip_38 : decode cX9_keepsSlip 38 = .ok (.iconst 1, 1) := by decide +kernel
theorem dX9_keepsSlip_39 : decode cX9_keepsSlip 39 = .ok (.goto 4, 3) := by decide +kernel
theorem dX9_keepsSlip_42 : decode cX9_keepsSlip 42 = .ok (.iconst 0, 1) := by decide +kernel
theorem dX9_keepsSlip_43 : decode cX9_keepsSlip 43 = .ok (.iastore, 1) := by decide +kernel
theorem dX9_keepsSlip_44 : decode cX9_keepsSlip 44 = .ok (.iconst 0, 1) := by decide +kernel
theorem dX9_keepsSlip_45 : decode cX9_keepsSlip 45 = .ok (.istore_n 1, 1) := by decide +kernel
theorem dX9_keepsSlip_46 : decode cX9_keepsSlip 46 = .ok (.iload_n 1, 1) := by decide +kernel
theorem dX9_keepsSlip_47 : decode cX9_keepsSlip 47 = .ok (.bipush 41, 2) := by decide +kernel
theorem dX9_keepsSlip_49 : decode cX9_keepsSlip 49 = .ok (.if_icmp .ge 25, 3) := by decide +kernel
theorem dX9_keepsSlip_52 : decode cX9_keepsSlip 52 = .ok (.aload_n 0, 1) := by decide +kernel
theorem dX9_keepsSlip_53 : decode cX9_keepsSlip 53 = .ok (.getfield 9, 3) := by decide +kernel
theorem dX9_keepsSlip_56 : decode cX9_keepsSlip 56 = .ok (.sipush 323, 3) := by decide +kernel
theorem dX9_keepsSlip_59 : decode cX9_keepsSlip 59 = .ok (.iload_n 1, 1) := by decide +kernel
theorem dX9_keepsSlip_60 : decode cX9_keepsSlip 60 = .ok (.iadd, 1) := by decide +kernel
theorem dX9_keepsSlip_61 : decode cX9_keepsSlip 61 = .ok (.aload_n 0, 1) := by decide +kernel
theorem dX9_keepsSlip_62 : decode cX9_keepsSlip 62 = .ok (.getfield 26, 3) := by decide +kernel
theorem dX9_keepsSlip_65 : decode cX9_keepsSlip 65 = .ok (.iload_n 1, 1) := by decide +kernel
theorem dX9_keepsSlip_66 : decode cX9_keepsSlip 66 = .ok (.iaload, 1) := by decide +kernel
theorem dX9_keepsSlip_67 : decode cX9_keepsSlip 67 = .ok (.iastore, 1) := by decide +kernel
theorem dX9_keepsSlip_68 : decode cX9_keepsSlip 68 = .ok (.iinc 1 1, 3) := by decide +kernel
theorem dX9_keepsSlip_71 : decode cX9_keepsSlip 71 = .ok (.goto (-25), 3) := by decide +kernel
theorem dX9_keepsSlip_74 : decode cX9_keepsSlip 74 = .ok (.aload_n 0, 1) := by decide +kernel
theorem dX9_keepsSlip_75 : decode cX9_keepsSlip 75 = .ok (.getfield 150, 3) := by decide +kernel
theorem dX9_keepsSlip_78 : decode cX9_keepsSlip 78 = .ok (.aload_n 0, 1) := by decide +kernel
theorem dX9_keepsSlip_79 : decode cX9_keepsSlip 79 = .ok (.getfield 22, 3) := by decide +kernel
theorem dX9_keepsSlip_82 : decode cX9_keepsSlip 82 = .ok (.isub, 1) := by decide +kernel
theorem dX9_keepsSlip_83 : decode cX9_keepsSlip 83 = .ok (.ireturn, 1) := by decide +kernel
set_option maxHeartbeats 4000000 in
theorem st_X9_keepsSlip_46_b {X : sj_X} {g : sj_G} {s0 : sj_Mem} {N : Nat} {q : Int × sj_VV} {k46 : Nat → Int → sj_VV → Option (Int × sj_VV)} (hk46 : ∀ (a0 : Nat) (x1 : Int) (V : sj_VV), OK9 g a0 → k46 a0 x1 V = some q → sj_T X m_X9_keepsSlip s0 (some (sj_i q.1), (g, q.2)) 46 [some (sj_r (some a0)), some (sj_i x1)] [] (g, V)) :
    ∀ (a0 : Nat) (x1 : Int) (V : sj_VV), OK9 g a0 → g_X9_keepsSlip_46_b N k46 a0 x1 V = some q → sj_T X m_X9_keepsSlip s0 (some (sj_i q.1), (g, q.2)) 46 [some (sj_r (some a0)), some (sj_i x1)] [] (g, V) := by
  intro a0 x1 V ha0 h
  unfold g_X9_keepsSlip_46_b at h
  refine r_iload_n (pc := 46) dX9_keepsSlip_46 rfl rfl ?_
  refine r_bipush (pc := 47) dX9_keepsSlip_47 ⟨by decide, by decide⟩ ?_
  refine r_icmp_ge (pc := 49) (tgt := 74) h dX9_keepsSlip_49 (by decide) (fun h => ?_) (fun h => ?_)
  · refine r_aload_n (pc := 74) dX9_keepsSlip_74 rfl rfl ?_
    refine r_gIs (pc := 75) dX9_keepsSlip_75 fw_X9_150 rfl (ok9 ha0) ?_
    refine r_aload_n (pc := 78) dX9_keepsSlip_78 rfl rfl ?_
    refine r_gIs (pc := 79) dX9_keepsSlip_79 fw_X9_22 rfl (ok9 ha0) ?_
    refine r_isub (pc := 82) dX9_keepsSlip_82 ?_
    exact r_irets (pc := 83) h rfl dX9_keepsSlip_83
  · refine r_aload_n (pc := 52) dX9_keepsSlip_52 rfl rfl ?_
    refine r_gRs (b := a0 + 1) (pc := 53) dX9_keepsSlip_53 fw_X9_9 rfl (ok9 ha0) (ok9_0 ha0).1 ?_
    refine r_sipush (pc := 56) dX9_keepsSlip_56 ⟨by decide, by decide⟩ ?_
    refine r_iload_n (pc := 59) dX9_keepsSlip_59 rfl rfl ?_
    refine r_iadd (pc := 60) dX9_keepsSlip_60 ?_
    refine r_aload_n (pc := 61) dX9_keepsSlip_61 rfl rfl ?_
    refine r_gRs (b := a0 + 5) (pc := 62) dX9_keepsSlip_62 fw_X9_26 rfl (ok9 ha0) (ok9_16 ha0).1 ?_
    refine r_iload_n (pc := 65) dX9_keepsSlip_65 rfl rfl ?_
    refine r_ialoads (pc := 66) h dX9_keepsSlip_66 (ok9_16 ha0).2 (fun h => ?_)
    refine r_iastores (pc := 67) h dX9_keepsSlip_67 (ok9_0 ha0).2 (fun V1 h => ?_)
    refine r_iinc (ln := fun w => [some (sj_r (some a0)), some (sj_i w)]) (pc := 68) h dX9_keepsSlip_68 rfl (Nat.le_of_ble_eq_true rfl) (fun _ => rfl) (fun v2 h => ?_)
    refine r_goto (pc := 71) (tgt := 46) dX9_keepsSlip_71 (by decide) ?_
    exact sj_weak (l2 := [some (sj_r (some a0)), some (sj_i v2)]) (⟨rfl, ⟨rfl, trivial⟩⟩) (hk46 a0 v2 V1 ha0 h)
set_option maxHeartbeats 4000000 in
theorem st_X9_keepsSlip_46 {X : sj_X} {g : sj_G} {s0 : sj_Mem} {N : Nat} {q : Int × sj_VV} :
    ∀ (n : Nat) (a0 : Nat) (x1 : Int) (V : sj_VV), OK9 g a0 → g_X9_keepsSlip_46 N n a0 x1 V = some q → sj_T X m_X9_keepsSlip s0 (some (sj_i q.1), (g, q.2)) 46 [some (sj_r (some a0)), some (sj_i x1)] [] (g, V) := by
  intro n
  induction n with
  | zero => intro a0 x1 V ha0 h; exact nomatch h
  | succ n ih => intro a0 x1 V ha0 h; exact st_X9_keepsSlip_46_b (N := N) ih a0 x1 V ha0 h
set_option maxHeartbeats 4000000 in
theorem st_X9_keepsSlip_43 {X : sj_X} {g : sj_G} {s0 : sj_Mem} {N : Nat} {q : Int × sj_VV} :
    ∀ (a0 : Nat) (y0 : Int) (y1 : Int) (y2 : Nat) (m2 : Nat) (V : sj_VV), OK9 g a0 → OKA g 100 y2 m2 → g_X9_keepsSlip_43 N a0 y0 y1 y2 m2 V = some q → sj_T X m_X9_keepsSlip s0 (some (sj_i q.1), (g, q.2)) 43 [some (sj_r (some a0)), none] [(sj_i y0), (sj_i y1), (sj_r (some y2))] (g, V) := by
  intro a0 y0 y1 y2 m2 V ha0 hy2 h
  unfold g_X9_keepsSlip_43 at h
  refine r_iastores (pc := 43) h dX9_keepsSlip_43 hy2 (fun V1 h => ?_)
  refine r_iconst (pc := 44) dX9_keepsSlip_44 ?_
  refine r_istore_n (ln := [some (sj_r (some a0)), some (sj_i 0)]) (pc := 45) dX9_keepsSlip_45 rfl (Nat.le_of_ble_eq_true rfl) rfl ?_
  exact sj_weak (l2 := [some (sj_r (some a0)), some (sj_i 0)]) (⟨rfl, ⟨rfl, trivial⟩⟩) (st_X9_keepsSlip_46 N a0 0 V1 ha0 h)
set_option maxHeartbeats 4000000 in
theorem st_X9_keepsSlip_0 {X : sj_X} {g : sj_G} {s0 : sj_Mem} {N : Nat} {q : Int × sj_VV} :
    ∀ (a0 : Nat) (V : sj_VV), OK9 g a0 → g_X9_keepsSlip N a0 V = some q → sj_T X m_X9_keepsSlip s0 (some (sj_i q.1), (g, q.2)) 0 [some (sj_r (some a0)), none] [] (g, V) := by
  intro a0 V ha0 h
  unfold g_X9_keepsSlip at h
  refine r_aload_n (pc := 0) dX9_keepsSlip_0 rfl rfl ?_
  refine r_gRs (b := a0 + 1) (pc := 1) dX9_keepsSlip_1 fw_X9_9 rfl (ok9 ha0) (ok9_0 ha0).1 ?_
  refine r_sipush (pc := 4) dX9_keepsSlip_4 ⟨by decide, by decide⟩ ?_
  refine r_aload_n (pc := 7) dX9_keepsSlip_7 rfl rfl ?_
  refine r_gIs (pc := 8) dX9_keepsSlip_8 fw_X9_22 rfl (ok9 ha0) ?_
  refine r_iastores (pc := 11) h dX9_keepsSlip_11 (ok9_0 ha0).2 (fun V1 h => ?_)
  refine r_aload_n (pc := 12) dX9_keepsSlip_12 rfl rfl ?_
  refine r_gRs (b := a0 + 1) (pc := 13) dX9_keepsSlip_13 fw_X9_9 rfl (ok9 ha0) (ok9_0 ha0).1 ?_
  refine r_sipush (pc := 16) dX9_keepsSlip_16 ⟨by decide, by decide⟩ ?_
  refine r_aload_n (pc := 19) dX9_keepsSlip_19 rfl rfl ?_
  refine r_gIs (pc := 20) dX9_keepsSlip_20 fw_X9_150 rfl (ok9 ha0) ?_
  refine r_iastores (pc := 23) h dX9_keepsSlip_23 (ok9_0 ha0).2 (fun V2 h => ?_)
  refine r_aload_n (pc := 24) dX9_keepsSlip_24 rfl rfl ?_
  refine r_gRs (b := a0 + 1) (pc := 25) dX9_keepsSlip_25 fw_X9_9 rfl (ok9 ha0) (ok9_0 ha0).1 ?_
  refine r_sipush (pc := 28) dX9_keepsSlip_28 ⟨by decide, by decide⟩ ?_
  refine r_aload_n (pc := 31) dX9_keepsSlip_31 rfl rfl ?_
  refine r_gIs (pc := 32) dX9_keepsSlip_32 fw_X9_153 rfl (ok9 ha0) ?_
  refine r_if_eq (pc := 35) (tgt := 42) h dX9_keepsSlip_35 (by decide) (fun h => ?_) (fun h => ?_)
  · refine r_iconst (pc := 42) dX9_keepsSlip_42 ?_
    exact sj_weak (l2 := [some (sj_r (some a0)), none]) (⟨rfl, trivial⟩) (st_X9_keepsSlip_43 a0 0 322 (a0 + 1) 390 V2 ha0 (ok9_0 ha0).2 h)
  · refine r_iconst (pc := 38) dX9_keepsSlip_38 ?_
    refine r_goto (pc := 39) (tgt := 43) dX9_keepsSlip_39 (by decide) ?_
    exact sj_weak (l2 := [some (sj_r (some a0)), none]) (⟨rfl, trivial⟩) (st_X9_keepsSlip_43 a0 1 322 (a0 + 1) 390 V2 ha0 (ok9_0 ha0).2 h)
set_option maxHeartbeats 4000000 in
theorem cg_X9_keepsSlip {X : sj_X} {g : sj_G} {N : Nat} {a0 : Nat} {V : sj_VV} {q : Int × sj_VV} (ha0 : OK9 g a0) (h : g_X9_keepsSlip N a0 V = some q) : sj_C X m_X9_keepsSlip [sj_r (some a0)] (g, V) (some (sj_i q.1), (g, q.2)) :=
  sj_C_of (by decide +kernel) (Nat.le_of_ble_eq_true rfl) (lo := [some (sj_r (some a0)), none]) rfl (sj_weak (l2 := [some (sj_r (some a0)), none]) (⟨rfl, trivial⟩) (st_X9_keepsSlip_0 a0 V ha0 h))
set_option maxHeartbeats 4000000 in
theorem c_X9_keepsSlip {X : sj_X} {N : Nat} {a0 : Nat} {s : sj_Mem} {q : Int × sj_Mem} (h : f_X9_keepsSlip N a0 s = some q) : sj_C X m_X9_keepsSlip [sj_r (some a0)] s (some (sj_i q.1), q.2) := by
  obtain ⟨g, V⟩ := s
  unfold f_X9_keepsSlip at h
  obtain ⟨ho, h1⟩ := e_ok_some h
  obtain ⟨q2, h2, rfl⟩ := sj_map_some h1
  exact cg_X9_keepsSlip ho h2
theorem dX9_worst_0 : decode cX9_worst 0 = .ok (.iload_n 1, 1) := by decide +kernel
theorem dX9_worst_1 : decode cX9_worst 1 = .ok (.i2l, 1) := by decide +kernel
theorem dX9_worst_2 : decode cX9_worst 2 = .ok (.lconst 1, 1) := by decide +kernel
theorem dX9_worst_3 : decode cX9_worst 3 = .ok (.ldc2_w 263, 3) := by decide +kernel
theorem dX9_worst_6 : decode cX9_worst 6 = .ok (.invokestatic 57, 3) := by decide +kernel
theorem dX9_worst_9 : decode cX9_worst 9 = .ok (.ifCond .eq 25, 3) := by decide +kernel
theorem dX9_worst_12 : decode cX9_worst 12 = .ok (.aload_n 0, 1) := by decide +kernel
theorem dX9_worst_13 : decode cX9_worst 13 = .ok (.iload_n 1, 1) := by decide +kernel
theorem dX9_worst_14 : decode cX9_worst 14 = .ok (.iload_n 2, 1) := by decide +kernel
theorem dX9_worst_15 : decode cX9_worst 15 = .ok (.aload_n 0, 1) := by decide +kernel
theorem dX9_worst_16 : decode cX9_worst 16 = .ok (.iload_n 1, 1) := by decide +kernel
theorem dX9_worst_17 : decode cX9_worst 17 = .ok (.iload_n 2, 1) := by decide +kernel
theorem dX9_worst_18 : decode cX9_worst 18 = .ok (.invokevirtual 269, 3) := by decide +kernel
theorem dX9_worst_21 : decode cX9_worst 21 = .ok (.invokevirtual 273, 3) := by decide +kernel
theorem dX9_worst_24 : decode cX9_worst 24 = .ok (.ifCond .eq 10, 3) := by decide +kernel
theorem dX9_worst_27 : decode cX9_worst 27 = .ok (.aload_n 0, 1) := by decide +kernel
theorem dX9_worst_28 : decode cX9_worst 28 = .ok (.invokevirtual 205, 3) := by decide +kernel
theorem dX9_worst_31 : decode cX9_worst 31 = .ok (.goto 4, 3) := by decide +kernel
theorem dX9_worst_34 : decode cX9_worst 34 = .ok (.iconst (-1), 1) := by decide +kernel
theorem dX9_worst_35 : decode cX9_worst 35 = .ok (.ireturn, 1) := by decide +kernel
set_option maxHeartbeats 4000000 in
theorem st_X9_worst_0 {X : sj_X} {g : sj_G} {s0 : sj_Mem} {N : Nat} {q : Int × sj_VV} :
    ∀ (a0 : Nat) (x1 : Int) (x2 : Int) (V : sj_VV), OK9 g a0 → g_X9_worst N a0 x1 x2 V = some q → sj_T X m_X9_worst s0 (some (sj_i q.1), (g, q.2)) 0 [some (sj_r (some a0)), some (sj_i x1), some (sj_i x2)] [] (g, V) := by
  intro a0 x1 x2 V ha0 h
  unfold g_X9_worst at h
  refine r_iload_n (pc := 0) dX9_worst_0 rfl rfl ?_
  refine r_i2l (pc := 1) h dX9_worst_1 (fun v1 h => ?_)
  refine r_lconst1 (pc := 2) dX9_worst_2 ?_
  refine r_ldc2 (n := 12) (pc := 3) dX9_worst_3 kc_X9_263 ?_
  refine r_callSs (pc := 6) (fun v => some (sj_i v)) (As := [sj_j v1, sj_j 1, sj_j 12]) (rest := []) h dX9_worst_6 mw_X9_57 kw_1225 (fun _ _ hc => cg_X9_isIn  hc) rfl ⟨(Nat.le_of_ble_eq_true rfl), (Nat.le_of_ble_eq_true rfl)⟩ (Nat.le_of_ble_eq_true rfl) rfl (fun v3 V2 h => ?_)
  refine r_if_eq (pc := 9) (tgt := 34) h dX9_worst_9 (by decide) (fun h => ?_) (fun h => ?_)
  · refine r_iconst (pc := 34) dX9_worst_34 ?_
    exact r_irets (pc := 35) h rfl dX9_worst_35
  · refine r_aload_n (pc := 12) dX9_worst_12 rfl rfl ?_
    refine r_iload_n (pc := 13) dX9_worst_13 rfl rfl ?_
    refine r_iload_n (pc := 14) dX9_worst_14 rfl rfl ?_
    refine r_aload_n (pc := 15) dX9_worst_15 rfl rfl ?_
    refine r_iload_n (pc := 16) dX9_worst_16 rfl rfl ?_
    refine r_iload_n (pc := 17) dX9_worst_17 rfl rfl ?_
    refine r_callVs (pc := 18) (fun v => some (sj_i v)) (As := [sj_i x1, sj_i x2]) (rest := [(sj_i x2), (sj_i x1), (sj_r (some a0))]) (b := a0) (ok9 ha0) h dX9_worst_18 mw_X9_269 vw_X9_tableK (fun _ _ hc => cg_X9_tableK ha0 hc) rfl ⟨(Nat.le_of_ble_eq_true rfl), (Nat.le_of_ble_eq_true rfl)⟩ (Nat.le_of_ble_eq_true rfl) rfl (fun v5 V4 h => ?_)
    refine r_callVs (pc := 21) (fun v => some (sj_i v)) (As := [sj_i x1, sj_i x2, sj_i v5]) (rest := []) (b := a0) (ok9 ha0) h dX9_worst_21 mw_X9_273 vw_X9_findsWorst (fun _ _ hc => cg_X9_findsWorst ha0 hc) rfl ⟨(Nat.le_of_ble_eq_true rfl), (Nat.le_of_ble_eq_true rfl)⟩ (Nat.le_of_ble_eq_true rfl) rfl (fun v7 V6 h => ?_)
    refine r_if_eq (pc := 24) (tgt := 34) h dX9_worst_24 (by decide) (fun h => ?_) (fun h => ?_)
    · refine r_iconst (pc := 34) dX9_worst_34 ?_
      exact r_irets (pc := 35) h rfl dX9_worst_35
    · refine r_aload_n (pc := 27) dX9_worst_27 rfl rfl ?_
      refine r_callVs (pc := 28) (fun v => some (sj_i v)) (As := []) (rest := []) (b := a0) (ok9 ha0) h dX9_worst_28 mw_X9_205 vw_X9_keepsSlip (fun _ _ hc => cg_X9_keepsSlip ha0 hc) rfl ⟨(Nat.le_of_ble_eq_true rfl), (Nat.le_of_ble_eq_true rfl)⟩ (Nat.le_of_ble_eq_true rfl) rfl (fun v9 V8 h => ?_)
      refine r_goto (pc := 31) (tgt := 35) dX9_worst_31 (by decide) ?_
      exact r_irets (pc := 35) h rfl dX9_worst_35
set_option maxHeartbeats 4000000 in
theorem cg_X9_worst {X : sj_X} {g : sj_G} {N : Nat} {a0 : Nat} {x1 : Int} {x2 : Int} {V : sj_VV} {q : Int × sj_VV} (ha0 : OK9 g a0) (h : g_X9_worst N a0 x1 x2 V = some q) : sj_C X m_X9_worst [sj_r (some a0), sj_i x1, sj_i x2] (g, V) (some (sj_i q.1), (g, q.2)) :=
  sj_C_of (by decide +kernel) (Nat.le_of_ble_eq_true rfl) (lo := [some (sj_r (some a0)), some (sj_i x1), some (sj_i x2)]) rfl (sj_weak (l2 := [some (sj_r (some a0)), some (sj_i x1), some (sj_i x2)]) (⟨rfl, ⟨rfl, ⟨rfl, trivial⟩⟩⟩) (st_X9_worst_0 a0 x1 x2 V ha0 h))
set_option maxHeartbeats 4000000 in
theorem c_X9_worst {X : sj_X} {N : Nat} {a0 : Nat} {x1 : Int} {x2 : Int} {s : sj_Mem} {q : Int × sj_Mem} (h : f_X9_worst N a0 x1 x2 s = some q) : sj_C X m_X9_worst [sj_r (some a0), sj_i x1, sj_i x2] s (some (sj_i q.1), q.2) := by
  obtain ⟨g, V⟩ := s
  unfold f_X9_worst at h
  obtain ⟨ho, h1⟩ := e_ok_some h
  obtain ⟨q2, h2, rfl⟩ := sj_map_some h1
  exact cg_X9_worst ho h2
theorem dX9_pointsCan_0 : decode cX9_pointsCan 0 = .ok (.aload_n 0, 1) := by decide +kernel
theorem dX9_pointsCan_1 : decode cX9_pointsCan 1 = .ok (.getfield 9, 3) := by decide +kernel
theorem dX9_pointsCan_4 : decode cX9_pointsCan 4 = .ok (.sipush 364, 3) := by decide +kernel
theorem dX9_pointsCan_7 : decode cX9_pointsCan 7 = .ok (.iaload, 1) := by decide +kernel
theorem dX9_pointsCan_8 : decode cX9_pointsCan 8 = .ok (.istore_n 1, 1) := by decide +kernel
theorem dX9_pointsCan_9 : decode cX9_pointsCan 9 = .ok (.iload_n 1, 1) := by decide +kernel
theorem dX9_pointsCan_10 : decode cX9_pointsCan 10 = .ok (.iconst 2, 1) := by decide +kernel
theorem dX9_pointsCan_11 : decode cX9_pointsCan 11 = .ok (.if_icmp .lt 24, 3) := by decide +kernel
theorem dX9_pointsCan_14 : decode cX9_pointsCan 14 = .ok (.aload_n 0, 1) := by decide +kernel
theorem dX9_pointsCan_15 : decode cX9_pointsCan 15 = .ok (.getfield 9, 3) := by decide +kernel
theorem dX9_pointsCan_18 : decode cX9_pointsCan 18 = .ok (.sipush 365, 3) := by decide +kernel
theorem dX9_pointsCan_21 : decode cX9_pointsCan 21 = .ok (.iload_n 1, 1) := by decide +kernel
theorem dX9_pointsCan_22 : decode cX9_pointsCan 22 = .ok (.iadd, 1) := by decide +kernel
theorem dX9_pointsCan_23 : decode cX9_pointsCan 23 = .ok (.iconst 1, 1) := by decide +kernel
theorem dX9_pointsCan_24 : decode cX9_pointsCan 24 = .ok (.isub, 1) := by decide +kernel
theorem dX9_pointsCan_25 : decode cX9_pointsCan 25 = .ok (.iaload, 1) := by decide +kernel
theorem dX9_pointsCan_26 : decode cX9_pointsCan 26 = .ok (.aload_n 0, 1) := by decide +kernel
theorem dX9_pointsCan_27 : decode cX9_pointsCan 27 = .ok (.getfield 9, 3) := by decide +kernel
theorem dX9_pointsCan_30 : decode cX9_pointsCan 30 = .ok (.iconst 0, 1) := by decide +kernel
theorem dX9_pointsCan_31 : decode cX9_pointsCan 31 = .ok (.iaload, 1) := by decide +kernel
theorem dX9_pointsCan_32 : decode cX9_pointsCan 32 = .ok (.if_icmp .le 5, 3) := by decide +kernel
theorem dX9_pointsCan_35 : decode cX9_pointsCan 35 = .ok (.iconst 0, 1) := by decide +kernel
theorem dX9_pointsCan_36 : decode cX9_pointsCan 36 = .ok (.ireturn, 1) := by decide +kernel
theorem dX9_pointsCan_37 : decode cX9_pointsCan 37 = .ok (.aload_n 0, 1) := by decide +kernel
theorem dX9_pointsCan_38 : decode cX9_pointsCan 38 = .ok (.aload_n 0, 1) := by decide +kernel
theorem dX9_pointsCan_39 : decode cX9_pointsCan 39 = .ok (.getfield 9, 3) := by decide +kernel
theorem dX9_pointsCan_42 : decode cX9_pointsCan 42 = .ok (.sipush 365, 3) := by decide +kernel
theorem dX9_pointsCan_45 : decode cX9_pointsCan 45 = .ok (.iaload, 1) := by decide +kernel
theorem dX9_pointsCan_46 : decode cX9_pointsCan 46 = .ok (.putfield 22, 3) := by decide +kernel
theorem dX9_pointsCan_49 : decode cX9_pointsCan 49 = .ok (.aload_n 0, 1) := by decide +kernel
theorem dX9_pointsCan_50 : decode cX9_pointsCan 50 = .ok (.aload_n 0, 1) := by decide +kernel
theorem dX9_pointsCan_51 : decode cX9_pointsCan 51 = .ok (.getfield 9, 3) := by decide +kernel
theorem dX9_pointsCan_54 : decode cX9_pointsCan 54 = .ok (.sipush 365, 3) := by decide +kernel
theorem dX9_pointsCan_57 : decode cX9_pointsCan 57 = .ok (.iload_n 1, 1) := by decide +kernel
theorem dX9_pointsCan_58 : decode cX9_pointsCan 58 = .ok (.iadd, 1) := by decide +kernel
theorem dX9_pointsCan_59 : decode cX9_pointsCan 59 = .ok (.iconst 1, 1) := by decide +kernel
theorem dX9_pointsCan_60 : decode cX9_pointsCan 60 = .ok (.isub, 1) := by decide +kernel
theorem dX9_pointsCan_61 : decode cX9_pointsCan 61 = .ok (.iaload, 1) := by decide +kernel
theorem dX9_pointsCan_62 : decode cX9_pointsCan 62 = .ok (.putfield 150, 3) := by decide +kernel
theorem dX9_pointsCan_65 : decode cX9_pointsCan 65 = .ok (.iconst 0, 1) := by decide +kernel
theorem dX9_pointsCan_66 : decode cX9_pointsCan 66 = .ok (.istore_n 2, 1) := by decide +kernel
theorem dX9_pointsCan_67 : decode cX9_pointsCan 67 = .ok (.iload_n 2, 1) := by decide +kernel
theorem dX9_pointsCan_68 : decode cX9_pointsCan 68 = .ok (.iconst 1, 1) := by decide +kernel
theorem dX9_pointsCan_69 : decode cX9_pointsCan 69 = .ok (.iadd, 1) := by decide +kernel
theorem dX9_pointsCan_70 : decode cX9_pointsCan 70 = .ok (.iload_n 1, 1) := by decide +kernel
theorem dX9_pointsCan_71 : decode cX9_pointsCan 71 = .ok (.if_icmp .ge 107, 3) := by decide +kernel
theorem dX9_pointsCan_74 : decode cX9_pointsCan 74 = .ok (.aload_n 0, 1) := by decide +kernel
theorem dX9_pointsCan_75 : decode cX9_pointsCan 75 = .ok (.getfield 9, 3) := by decide +kernel
theorem dX9_pointsCan_78 : decode cX9_pointsCan 78 = .ok (.sipush 365, 3) := by decide +kernel
theorem dX9_pointsCan_81 : decode cX9_pointsCan 81 = .ok (.iload_n 2, 1) := by decide +kernel
theorem dX9_pointsCan_82 : decode cX9_pointsCan 82 = .ok (.iadd, 1) := by decide +kernel
theorem dX9_pointsCan_83 : decode cX9_pointsCan 83 = .ok (.iaload, 1) := by decide +kernel
theorem dX9_pointsCan_84 : decode cX9_pointsCan 84 = .ok (.istore_n 3, 1) := by decide +kernel
theorem dX9_pointsCan_85 : decode cX9_pointsCan 85 = .ok (.aload_n 0, 1) := by decide +kernel
theorem dX9_pointsCan_86 : decode cX9_pointsCan 86 = .ok (.getfield 9, 3) := by decide +kernel
theorem dX9_pointsCan_89 : decode cX9_pointsCan 89 = .ok (.sipush 365, 3) := by decide +kernel
theorem dX9_pointsCan_92 : decode cX9_pointsCan 92 = .ok (.iload_n 2, 1) := by decide +kernel
theorem dX9_pointsCan_93 : decode cX9_pointsCan 93 = .ok (.iadd, 1) := by decide +kernel
theorem dX9_pointsCan_94 : decode cX9_pointsCan 94 = .ok (.iconst 1, 1) := by decide +kernel
theorem dX9_pointsCan_95 : decode cX9_pointsCan 95 = .ok (.iadd, 1) := by decide +kernel
theorem dX9_pointsCan_96 : decode cX9_pointsCan 96 = .ok (.iaload, 1) := by decide +kernel
theorem dX9_pointsCan_97 : decode cX9_pointsCan 97 = .ok (.istore 4, 2) := by decide +kernel
theorem dX9_pointsCan_99 : decode cX9_pointsCan 99 = .ok (.iload_n 3, 1) := by decide +kernel
theorem dX9_pointsCan_100 : decode cX9_pointsCan 100 = .ok (.istore 5, 2) := by decide +kernel
theorem dX9_pointsCan_102 : decode cX9_pointsCan 102 = .ok (.iload 5, 2) := by decide +kernel
theorem dX9_pointsCan_104 : decode cX9_pointsCan 104 = .ok (.iload 4, 2) := by decide +kernel
theorem dX9_pointsCan_106 : decode cX9_pointsCan 106 = .ok (.if_icmp .gt 66, 3) := by decide +kernel
theorem dX9_pointsCan_109 : decode cX9_pointsCan 109 = .ok (.aload_n 0, 1) := by decide +kernel
theorem dX9_pointsCan_110 : decode cX9_pointsCan 110 = .ok (.getfield 26, 3) := by decide +kernel
theorem dX9_pointsCan_113 : decode cX9_pointsCan 113 = .ok (.iload 5, 2) := by decide +kernel
theorem dX9_pointsCan_115 : decode cX9_pointsCan 115 = .ok (.aload_n 0, 1) := by decide +kernel
theorem dX9_pointsCan_116 : decode cX9_pointsCan 116 = .ok (.getfield 9, 3) := by decide +kernel
theorem dX9_pointsCan_119 : decode cX9_pointsCan 119 = .ok (.sipush 377, 3) := by decide +kernel
theorem dX9_pointsCan_122 : decode cX9_pointsCan 122 = .ok (.iload_n 2, 1) := by decide +kernel
theorem dX9_pointsCan_123 : decode cX9_pointsCan 123 = .ok (.iadd, 1) := by decide +kernel
theorem dX9_pointsCan_124 : decode cX9_pointsCan 124 = .ok (.iaload, 1) := by decide +kernel
theorem dX9_pointsCan_125 : decode cX9_pointsCan 125 = .ok (.aload_n 0, 1) := by decide +kernel
theorem dX9_pointsCan_126 : decode cX9_pointsCan 126 = .ok (.getfield 9, 3) := by decide +kernel
theorem dX9_pointsCan_129 : decode cX9_pointsCan 129 = .ok (.sipush 377, 3) := by decide +kernel
theorem dX9_pointsCan_132 : decode cX9_pointsCan 132 = .ok (.iload_n 2, 1) := by decide +kernel
theorem dX9_pointsCan_133 : decode cX9_pointsCan 133 = .ok (.iadd, 1) := by decide +kernel
theorem dX9_pointsCan_134 : decode cX9_pointsCan 134 = .ok (.iconst 1, 1) := by decide +kernel
theorem dX9_pointsCan_135 : decode cX9_pointsCan 135 = .ok (.iadd, 1) := by decide +kernel
theorem dX9_pointsCan_136 : decode cX9_pointsCan 136 = .ok (.iaload, 1) := by decide +kernel
theorem dX9_pointsCan_137 : decode cX9_pointsCan 137 = .ok (.aload_n 0, 1) := by decide +kernel
theorem dX9_pointsCan_138 : decode cX9_pointsCan 138 = .ok (.getfield 9, 3) := by decide +kernel
theorem dX9_pointsCan_141 : decode cX9_pointsCan 141 = .ok (.sipush 377, 3) := by decide +kernel
theorem dX9_pointsCan_144 : decode cX9_pointsCan 144 = .ok (.iload_n 2, 1) := by decide +kernel
theorem dX9_pointsCan_145 : decode cX9_pointsCan 145 = .ok (.iadd, 1) := by decide +kernel
theorem dX9_pointsCan_146 : decode cX9_pointsCan 146 = .ok (.iaload, 1) := by decide +kernel
theorem dX9_pointsCan_147 : decode cX9_pointsCan 147 = .ok (.isub, 1) := by decide +kernel
theorem dX9_pointsCan_148 : decode cX9_pointsCan 148 = .ok (.i2l, 1) := by decide +kernel
theorem dX9_pointsCan_149 : decode cX9_pointsCan 149 = .ok (.iload 5, 2) := by decide +kernel
theorem dX9_pointsCan_151 : decode cX9_pointsCan 151 = .ok (.iload_n 3, 1) := by decide +kernel
theorem dX9_pointsCan_152 : decode cX9_pointsCan 152 = .ok (.isub, 1) := by decide +kernel
theorem dX9_pointsCan_153 : decode cX9_pointsCan 153 = .ok (.i2l, 1) := by decide +kernel
theorem dX9_pointsCan_154 : decode cX9_pointsCan 154 = .ok (.lmul, 1) := by decide +kernel
theorem dX9_pointsCan_155 : decode cX9_pointsCan 155 = .ok (.iload 4, 2) := by decide +kernel
theorem dX9_pointsCan_157 : decode cX9_pointsCan 157 = .ok (.iload_n 3, 1) := by decide +kernel
theorem dX9_pointsCan_158 : decode cX9_pointsCan 158 = .ok (.isub, 1) := by decide +kernel
theorem dX9_pointsCan_159 : decode cX9_pointsCan 159 = .ok (.i2l, 1) := by decide +kernel
theorem dX9_pointsCan_160 : decode cX9_pointsCan 160 = .ok (.invokestatic 216, 3) := by decide +kernel
theorem dX9_pointsCan_163 : decode cX9_pointsCan 163 = .ok (.l2i, 1) := by decide +kernel
theorem dX9_pointsCan_164 : decode cX9_pointsCan 164 = .ok (.iadd, 1) := by decide +kernel
theorem dX9_pointsCan_165 : decode cX9_pointsCan 165 = .ok (.iastore, 1) := by decide +kernel
theorem dX9_pointsCan_166 : decode cX9_pointsCan 166 = .ok (.iinc 5 1, 3) := by decide +kernel
theorem dX9_pointsCan_169 : decode cX9_pointsCan 169 = .ok (.goto (-67), 3) := by decide +kernel
theorem dX9_pointsCan_172 : decode cX9_pointsCan 172 = .ok (.iinc 2 1, 3) := by decide +kernel
theorem dX9_pointsCan_175 : decode cX9_pointsCan 175 = .ok (.goto (-108), 3) := by decide +kernel
theorem dX9_pointsCan_178 : decode cX9_pointsCan 178 = .ok (.aload_n 0, 1) := by decide +kernel
theorem dX9_pointsCan_179 : decode cX9_pointsCan 179 = .ok (.getfield 26, 3) := by decide +kernel
theorem dX9_pointsCan_182 : decode cX9_pointsCan 182 = .ok (.aload_n 0, 1) := by decide +kernel
theorem dX9_pointsCan_183 : decode cX9_pointsCan 183 = .ok (.getfield 22, 3) := by decide +kernel
theorem dX9_pointsCan_186 : decode cX9_pointsCan 186 = .ok (.aload_n 0, 1) := by decide +kernel
theorem dX9_pointsCan_187 : decode cX9_pointsCan 187 = .ok (.getfield 9, 3) := by decide +kernel
theorem dX9_pointsCan_190 : decode cX9_pointsCan 190 = .ok (.iconst 3, 1) := by decide +kernel
theorem dX9_pointsCan_191 : decode cX9_pointsCan 191 = .ok (.aload_n 0, 1) := by decide +kernel
theorem dX9_pointsCan_192 : decode cX9_pointsCan 192 = .ok (.getfield 22, 3) := by decide +kernel
theorem dX9_pointsCan_195 : decode cX9_pointsCan 195 = .ok (.iadd, 1) := by decide +kernel
theorem dX9_pointsCan_196 : decode cX9_pointsCan 196 = .ok (.iaload, 1) := by decide +kernel
theorem dX9_pointsCan_197 : decode cX9_pointsCan 197 = .ok (.iastore, 1) := by decide +kernel
theorem dX9_pointsCan_198 : decode cX9_pointsCan 198 = .ok (.aload_n 0, 1) := by decide +kernel
theorem dX9_pointsCan_199 : decode cX9_pointsCan 199 = .ok (.getfield 26, 3) := by decide +kernel
theorem dX9_pointsCan_202 : decode cX9_pointsCan 202 = .ok (.aload_n 0, 1) := by decide +kernel
theorem dX9_pointsCan_203 : decode cX9_pointsCan 203 = .ok (.getfield 150, 3) := by decide +kernel
theorem dX9_pointsCan_206 : decode cX9_pointsCan 206 = .ok (.aload_n 0, 1) := by decide +kernel
theorem dX9_pointsCan_207 : decode cX9_pointsCan 207 = .ok (.getfield 9, 3) := by decide +kernel
theorem dX9_pointsCan_210 : decode cX9_pointsCan 210 = .ok (.iconst 3, 1) := by decide +kernel
theorem dX9_pointsCan_211 : decode cX9_pointsCan 211 = .ok (.aload_n 0, 1) := by decide +kernel
theorem dX9_pointsCan_212 : decode cX9_pointsCan 212 = .ok (.getfield 150, 3) := by decide +kernel
theorem dX9_pointsCan_215 : decode cX9_pointsCan 215 = .ok (.iadd, 1) := by decide +kernel
theorem dX9_pointsCan_216 : decode cX9_pointsCan 216 = .ok (.iaload, 1) := by decide +kernel
theorem dX9_pointsCan_217 : decode cX9_pointsCan 217 = .ok (.iastore, 1) := by decide +kernel
theorem dX9_pointsCan_218 : decode cX9_pointsCan 218 = .ok (.aload_n 0, 1) := by decide +kernel
theorem dX9_pointsCan_219 : decode cX9_pointsCan 219 = .ok (.getfield 22, 3) := by decide +kernel
theorem dX9_pointsCan_222 : decode cX9_pointsCan 222 = .ok (.iconst 1, 1) := by decide +kernel
theorem dX9_pointsCan_223 : decode cX9_pointsCan 223 = .ok (.iadd, 1) := by decide +kernel
theorem dX9_pointsCan_224 : decode cX9_pointsCan 224 = .ok (.istore_n 2, 1) := by decide +kernel
theorem dX9_pointsCan_225 : decode cX9_pointsCan 225 = .ok (.iload_n 2, 1) := by decide +kernel
theorem dX9_pointsCan_226 : decode cX9_pointsCan 226 = .ok (.aload_n 0, 1) := by decide +kernel
theorem dX9_pointsCan_227 : decode cX9_pointsCan 227 = .ok (.getfield 150, 3) := by decide +kernel
theorem dX9_pointsCan_230 : decode cX9_pointsCan 230 = .ok (.if_icmp .ge 46, 3) := by decide +kernel
theorem dX9_pointsCan_233 : decode cX9_pointsCan 233 = .ok (.aload_n 0, 1) := by decide +kernel
theorem dX9_pointsCan_234 : decode cX9_pointsCan 234 = .ok (.getfield 26, 3) := by decide +kernel
theorem dX9_pointsCan_237 : decode cX9_pointsCan 237 = .ok (.iload_n 2, 1) := by decide +kernel
theorem dX9_pointsCan_238 : decode cX9_pointsCan 238 = .ok (.iaload, 1) := by decide +kernel
theorem dX9_pointsCan_239 : decode cX9_pointsCan 239 = .ok (.aload_n 0, 1) := by decide +kernel
theorem dX9_pointsCan_240 : decode cX9_pointsCan 240 = .ok (.getfield 9, 3) := by decide +kernel
theorem dX9_pointsCan_243 : decode cX9_pointsCan 243 = .ok (.iconst 3, 1) := by decide +kernel
theorem dX9_pointsCan_244 : decode cX9_pointsCan 244 = .ok (.iload_n 2, 1) := by decide +kernel
theorem dX9_pointsCan_245 : decode cX9_pointsCan 245 = .ok (.iadd, 1) := by decide +kernel
theorem dX9_pointsCan_246 : decode cX9_pointsCan 246 = .ok (.iaload, 1) := by decide +kernel
theorem dX9_pointsCan_247 : decode cX9_pointsCan 247 = .ok (.if_icmp .ge 21, 3) := by decide +kernel
theorem dX9_pointsCan_250 : decode cX9_pointsCan 250 = .ok (.aload_n 0, 1) := by decide +kernel
theorem dX9_pointsCan_251 : decode cX9_pointsCan 251 = .ok (.getfield 26, 3) := by decide +kernel
theorem dX9_pointsCan_254 : decode cX9_pointsCan 254 = .ok (.iload_n 2, 1) := by decide +kernel
theorem dX9_pointsCan_255 : decode cX9_pointsCan 255 = .ok (.iaload, 1) := by decide +kernel
theorem dX9_pointsCan_256 : decode cX9_pointsCan 256 = .ok (.aload_n 0, 1) := by decide +kernel
theorem dX9_pointsCan_257 : decode cX9_pointsCan 257 = .ok (.getfield 9, 3) := by decide +kernel
theorem dX9_pointsCan_260 : decode cX9_pointsCan 260 = .ok (.bipush 44, 2) := by decide +kernel
theorem dX9_pointsCan_262 : decode cX9_pointsCan 262 = .ok (.iload_n 2, 1) := by decide +kernel
theorem dX9_pointsCan_263 : decode cX9_pointsCan 263 = .ok (.iadd, 1) := by decide +kernel
theorem dX9_pointsCan_264 : decode cX9_pointsCan 264 = .ok (.iaload, 1) := by decide +kernel
theorem dX9_pointsCan_265 : decode cX9_pointsCan 265 = .ok (.if_icmp .ge 5, 3) := by decide +kernel
theorem dX9_pointsCan_268 : decode cX9_pointsCan 268 = .ok (.iconst 0, 1) := by decide +kernel
theorem dX9_pointsCan_269 : decode cX9_pointsCan 269 = .ok (.ireturn, 1) := by decide +kernel
theorem dX9_pointsCan_270 : decode cX9_pointsCan 270 = .ok (.iinc 2 1, 3) := by decide +kernel
theorem dX9_pointsCan_273 : decode cX9_pointsCan 273 = .ok (.goto (-48), 3) := by decide +kernel
theorem dX9_pointsCan_276 : decode cX9_pointsCan 276 = .ok (.iconst 1, 1) := by decide +kernel
theorem dX9_pointsCan_277 : decode cX9_pointsCan 277 = .ok (.ireturn, 1) := by decide +kernel
set_option maxHeartbeats 4000000 in
theorem st_X9_pointsCan_102_b {X : sj_X} {g : sj_G} {s0 : sj_Mem} {N : Nat} {q : Int × sj_VV} {k67 : Nat → Int → Int → sj_VV → Option (Int × sj_VV)} {k102 : Nat → Int → Int → Int → Int → Int → sj_VV → Option (Int × sj_VV)} (hk67 : ∀ (a0 : Nat) (x1 : Int) (x2 : Int) (V : sj_VV), OK9 g a0 → k67 a0 x1 x2 V = some q → sj_T X m_X9_pointsCan s0 (some (sj_i q.1), (g, q.2)) 67 [some (sj_r (some a0)), some (sj_i x1), some (sj_i x2), none, none, none] [] (g, V)) (hk102 : ∀ (a0 : Nat) (x1 : Int) (x2 : Int) (x3 : Int) (x4 : Int) (x5 : Int) (V : sj_VV), OK9 g a0 → k102 a0 x1 x2 x3 x4 x5 V = some q → sj_T X m_X9_pointsCan s0 (some (sj_i q.1), (g, q.2)) 102 [some (sj_r (some a0)), some (sj_i x1), some (sj_i x2), some (sj_i x3), some (sj_i x4), some (sj_i x5)] [] (g, V)) :
    ∀ (a0 : Nat) (x1 : Int) (x2 : Int) (x3 : Int) (x4 : Int) (x5 : Int) (V : sj_VV), OK9 g a0 → g_X9_pointsCan_102_b N k67 k102 a0 x1 x2 x3 x4 x5 V = some q → sj_T X m_X9_pointsCan s0 (some (sj_i q.1), (g, q.2)) 102 [some (sj_r (some a0)), some (sj_i x1), some (sj_i x2), some (sj_i x3), some (sj_i x4), some (sj_i x5)] [] (g, V) := by
  intro a0 x1 x2 x3 x4 x5 V ha0 h
  unfold g_X9_pointsCan_102_b at h
  refine r_iload (pc := 102) dX9_pointsCan_102 rfl ?_
  refine r_iload (pc := 104) dX9_pointsCan_104 rfl ?_
  refine r_icmp_gt (pc := 106) (tgt := 172) h dX9_pointsCan_106 (by decide) (fun h => ?_) (fun h => ?_)
  · refine r_iinc (ln := fun w => [some (sj_r (some a0)), some (sj_i x1), some (sj_i w), some (sj_i x3), some (sj_i x4), some (sj_i x5)]) (pc := 172) h dX9_pointsCan_172 rfl (Nat.le_of_ble_eq_true rfl) (fun _ => rfl) (fun v1 h => ?_)
    refine r_goto (pc := 175) (tgt := 67) dX9_pointsCan_175 (by decide) ?_
    exact sj_weak (l2 := [some (sj_r (some a0)), some (sj_i x1), some (sj_i v1), none, none, none]) (⟨rfl, ⟨rfl, ⟨rfl, trivial⟩⟩⟩) (hk67 a0 x1 v1 V ha0 h)
  · refine r_aload_n (pc := 109) dX9_pointsCan_109 rfl rfl ?_
    refine r_gRs (b := a0 + 5) (pc := 110) dX9_pointsCan_110 fw_X9_26 rfl (ok9 ha0) (ok9_16 ha0).1 ?_
    refine r_iload (pc := 113) dX9_pointsCan_113 rfl ?_
    refine r_aload_n (pc := 115) dX9_pointsCan_115 rfl rfl ?_
    refine r_gRs (b := a0 + 1) (pc := 116) dX9_pointsCan_116 fw_X9_9 rfl (ok9 ha0) (ok9_0 ha0).1 ?_
    refine r_sipush (pc := 119) dX9_pointsCan_119 ⟨by decide, by decide⟩ ?_
    refine r_iload_n (pc := 122) dX9_pointsCan_122 rfl rfl ?_
    refine r_iadd (pc := 123) dX9_pointsCan_123 ?_
    refine r_ialoads (pc := 124) h dX9_pointsCan_124 (ok9_0 ha0).2 (fun h => ?_)
    refine r_aload_n (pc := 125) dX9_pointsCan_125 rfl rfl ?_
    refine r_gRs (b := a0 + 1) (pc := 126) dX9_pointsCan_126 fw_X9_9 rfl (ok9 ha0) (ok9_0 ha0).1 ?_
    refine r_sipush (pc := 129) dX9_pointsCan_129 ⟨by decide, by decide⟩ ?_
    refine r_iload_n (pc := 132) dX9_pointsCan_132 rfl rfl ?_
    refine r_iadd (pc := 133) dX9_pointsCan_133 ?_
    refine r_iconst (pc := 134) dX9_pointsCan_134 ?_
    refine r_iadd (pc := 135) dX9_pointsCan_135 ?_
    refine r_ialoads (pc := 136) h dX9_pointsCan_136 (ok9_0 ha0).2 (fun h => ?_)
    refine r_aload_n (pc := 137) dX9_pointsCan_137 rfl rfl ?_
    refine r_gRs (b := a0 + 1) (pc := 138) dX9_pointsCan_138 fw_X9_9 rfl (ok9 ha0) (ok9_0 ha0).1 ?_
    refine r_sipush (pc := 141) dX9_pointsCan_141 ⟨by decide, by decide⟩ ?_
    refine r_iload_n (pc := 144) dX9_pointsCan_144 rfl rfl ?_
    refine r_iadd (pc := 145) dX9_pointsCan_145 ?_
    refine r_ialoads (pc := 146) h dX9_pointsCan_146 (ok9_0 ha0).2 (fun h => ?_)
    refine r_isub (pc := 147) dX9_pointsCan_147 ?_
    refine r_i2l (pc := 148) h dX9_pointsCan_148 (fun v2 h => ?_)
    refine r_iload (pc := 149) dX9_pointsCan_149 rfl ?_
    refine r_iload_n (pc := 151) dX9_pointsCan_151 rfl rfl ?_
    refine r_isub (pc := 152) dX9_pointsCan_152 ?_
    refine r_i2l (pc := 153) h dX9_pointsCan_153 (fun v3 h => ?_)
    refine r_lmul (pc := 154) dX9_pointsCan_154 ?_
    refine r_iload (pc := 155) dX9_pointsCan_155 rfl ?_
    refine r_iload_n (pc := 157) dX9_pointsCan_157 rfl rfl ?_
    refine r_isub (pc := 158) dX9_pointsCan_158 ?_
    refine r_i2l (pc := 159) h dX9_pointsCan_159 (fun v4 h => ?_)
    refine r_callSs (pc := 160) (fun v => some (sj_j v)) (As := [sj_j (v2 * v3), sj_j v4]) (rest := [(sj_i (V (a0 + 1) (377 + x2).toNat)), (sj_i x5), (sj_r (some (a0 + 5)))]) h dX9_pointsCan_160 mw_X9_216 kw_1380 (fun _ _ hc => cg_X9_downwards  hc) rfl ⟨(Nat.le_of_ble_eq_true rfl), (Nat.le_of_ble_eq_true rfl)⟩ (Nat.le_of_ble_eq_true rfl) rfl (fun v6 V5 h => ?_)
    refine r_l2i (pc := 163) dX9_pointsCan_163 ?_
    refine r_iadd (pc := 164) dX9_pointsCan_164 ?_
    refine r_iastores (pc := 165) h dX9_pointsCan_165 (ok9_16 ha0).2 (fun V7 h => ?_)
    refine r_iinc (ln := fun w => [some (sj_r (some a0)), some (sj_i x1), some (sj_i x2), some (sj_i x3), some (sj_i x4), some (sj_i w)]) (pc := 166) h dX9_pointsCan_166 rfl (Nat.le_of_ble_eq_true rfl) (fun _ => rfl) (fun v8 h => ?_)
    refine r_goto (pc := 169) (tgt := 102) dX9_pointsCan_169 (by decide) ?_
    exact sj_weak (l2 := [some (sj_r (some a0)), some (sj_i x1), some (sj_i x2), some (sj_i x3), some (sj_i x4), some (sj_i v8)]) (⟨rfl, ⟨rfl, ⟨rfl, ⟨rfl, ⟨rfl, ⟨rfl, trivial⟩⟩⟩⟩⟩⟩) (hk102 a0 x1 x2 x3 x4 v8 V7 ha0 h)
set_option maxHeartbeats 4000000 in
theorem st_X9_pointsCan_102 {X : sj_X} {g : sj_G} {s0 : sj_Mem} {N : Nat} {q : Int × sj_VV} {k67 : Nat → Int → Int → sj_VV → Option (Int × sj_VV)} (hk67 : ∀ (a0 : Nat) (x1 : Int) (x2 : Int) (V : sj_VV), OK9 g a0 → k67 a0 x1 x2 V = some q → sj_T X m_X9_pointsCan s0 (some (sj_i q.1), (g, q.2)) 67 [some (sj_r (some a0)), some (sj_i x1), some (sj_i x2), none, none, none] [] (g, V)) :
    ∀ (n : Nat) (a0 : Nat) (x1 : Int) (x2 : Int) (x3 : Int) (x4 : Int) (x5 : Int) (V : sj_VV), OK9 g a0 → g_X9_pointsCan_102 N k67 n a0 x1 x2 x3 x4 x5 V = some q → sj_T X m_X9_pointsCan s0 (some (sj_i q.1), (g, q.2)) 102 [some (sj_r (some a0)), some (sj_i x1), some (sj_i x2), some (sj_i x3), some (sj_i x4), some (sj_i x5)] [] (g, V) := by
  intro n
  induction n with
  | zero => intro a0 x1 x2 x3 x4 x5 V ha0 h; exact nomatch h
  | succ n ih => intro a0 x1 x2 x3 x4 x5 V ha0 h; exact st_X9_pointsCan_102_b (N := N) hk67 ih a0 x1 x2 x3 x4 x5 V ha0 h
set_option maxHeartbeats 4000000 in
theorem st_X9_pointsCan_225_b {X : sj_X} {g : sj_G} {s0 : sj_Mem} {N : Nat} {q : Int × sj_VV} {k225 : Nat → Int → sj_VV → Option (Int × sj_VV)} (hk225 : ∀ (a0 : Nat) (x2 : Int) (V : sj_VV), OK9 g a0 → k225 a0 x2 V = some q → sj_T X m_X9_pointsCan s0 (some (sj_i q.1), (g, q.2)) 225 [some (sj_r (some a0)), none, some (sj_i x2), none, none, none] [] (g, V)) :
    ∀ (a0 : Nat) (x2 : Int) (V : sj_VV), OK9 g a0 → g_X9_pointsCan_225_b N k225 a0 x2 V = some q → sj_T X m_X9_pointsCan s0 (some (sj_i q.1), (g, q.2)) 225 [some (sj_r (some a0)), none, some (sj_i x2), none, none, none] [] (g, V) := by
  intro a0 x2 V ha0 h
  unfold g_X9_pointsCan_225_b at h
  refine r_iload_n (pc := 225) dX9_pointsCan_225 rfl rfl ?_
  refine r_aload_n (pc := 226) dX9_pointsCan_226 rfl rfl ?_
  refine r_gIs (pc := 227) dX9_pointsCan_227 fw_X9_150 rfl (ok9 ha0) ?_
  refine r_icmp_ge (pc := 230) (tgt := 276) h dX9_pointsCan_230 (by decide) (fun h => ?_) (fun h => ?_)
  · refine r_iconst (pc := 276) dX9_pointsCan_276 ?_
    exact r_zrets (pc := 277) h rfl dX9_pointsCan_277
  · refine r_aload_n (pc := 233) dX9_pointsCan_233 rfl rfl ?_
    refine r_gRs (b := a0 + 5) (pc := 234) dX9_pointsCan_234 fw_X9_26 rfl (ok9 ha0) (ok9_16 ha0).1 ?_
    refine r_iload_n (pc := 237) dX9_pointsCan_237 rfl rfl ?_
    refine r_ialoads (pc := 238) h dX9_pointsCan_238 (ok9_16 ha0).2 (fun h => ?_)
    refine r_aload_n (pc := 239) dX9_pointsCan_239 rfl rfl ?_
    refine r_gRs (b := a0 + 1) (pc := 240) dX9_pointsCan_240 fw_X9_9 rfl (ok9 ha0) (ok9_0 ha0).1 ?_
    refine r_iconst (pc := 243) dX9_pointsCan_243 ?_
    refine r_iload_n (pc := 244) dX9_pointsCan_244 rfl rfl ?_
    refine r_iadd (pc := 245) dX9_pointsCan_245 ?_
    refine r_ialoads (pc := 246) h dX9_pointsCan_246 (ok9_0 ha0).2 (fun h => ?_)
    refine r_icmp_ge (pc := 247) (tgt := 268) h dX9_pointsCan_247 (by decide) (fun h => ?_) (fun h => ?_)
    · refine r_iconst (pc := 268) dX9_pointsCan_268 ?_
      exact r_zrets (pc := 269) h rfl dX9_pointsCan_269
    · refine r_aload_n (pc := 250) dX9_pointsCan_250 rfl rfl ?_
      refine r_gRs (b := a0 + 5) (pc := 251) dX9_pointsCan_251 fw_X9_26 rfl (ok9 ha0) (ok9_16 ha0).1 ?_
      refine r_iload_n (pc := 254) dX9_pointsCan_254 rfl rfl ?_
      refine r_ialoads (pc := 255) h dX9_pointsCan_255 (ok9_16 ha0).2 (fun h => ?_)
      refine r_aload_n (pc := 256) dX9_pointsCan_256 rfl rfl ?_
      refine r_gRs (b := a0 + 1) (pc := 257) dX9_pointsCan_257 fw_X9_9 rfl (ok9 ha0) (ok9_0 ha0).1 ?_
      refine r_bipush (pc := 260) dX9_pointsCan_260 ⟨by decide, by decide⟩ ?_
      refine r_iload_n (pc := 262) dX9_pointsCan_262 rfl rfl ?_
      refine r_iadd (pc := 263) dX9_pointsCan_263 ?_
      refine r_ialoads (pc := 264) h dX9_pointsCan_264 (ok9_0 ha0).2 (fun h => ?_)
      refine r_icmp_ge (pc := 265) (tgt := 270) h dX9_pointsCan_265 (by decide) (fun h => ?_) (fun h => ?_)
      · refine r_iinc (ln := fun w => [some (sj_r (some a0)), none, some (sj_i w), none, none, none]) (pc := 270) h dX9_pointsCan_270 rfl (Nat.le_of_ble_eq_true rfl) (fun _ => rfl) (fun v1 h => ?_)
        refine r_goto (pc := 273) (tgt := 225) dX9_pointsCan_273 (by decide) ?_
        exact sj_weak (l2 := [some (sj_r (some a0)), none, some (sj_i v1), none, none, none]) (⟨rfl, ⟨rfl, trivial⟩⟩) (hk225 a0 v1 V ha0 h)
      · refine r_iconst (pc := 268) dX9_pointsCan_268 ?_
        exact r_zrets (pc := 269) h rfl dX9_pointsCan_269
set_option maxHeartbeats 4000000 in
theorem st_X9_pointsCan_225 {X : sj_X} {g : sj_G} {s0 : sj_Mem} {N : Nat} {q : Int × sj_VV} :
    ∀ (n : Nat) (a0 : Nat) (x2 : Int) (V : sj_VV), OK9 g a0 → g_X9_pointsCan_225 N n a0 x2 V = some q → sj_T X m_X9_pointsCan s0 (some (sj_i q.1), (g, q.2)) 225 [some (sj_r (some a0)), none, some (sj_i x2), none, none, none] [] (g, V) := by
  intro n
  induction n with
  | zero => intro a0 x2 V ha0 h; exact nomatch h
  | succ n ih => intro a0 x2 V ha0 h; exact st_X9_pointsCan_225_b (N := N) ih a0 x2 V ha0 h
set_option maxHeartbeats 4000000 in
theorem st_X9_pointsCan_67_b {X : sj_X} {g : sj_G} {s0 : sj_Mem} {N : Nat} {q : Int × sj_VV} {k67 : Nat → Int → Int → sj_VV → Option (Int × sj_VV)} (hk67 : ∀ (a0 : Nat) (x1 : Int) (x2 : Int) (V : sj_VV), OK9 g a0 → k67 a0 x1 x2 V = some q → sj_T X m_X9_pointsCan s0 (some (sj_i q.1), (g, q.2)) 67 [some (sj_r (some a0)), some (sj_i x1), some (sj_i x2), none, none, none] [] (g, V)) :
    ∀ (a0 : Nat) (x1 : Int) (x2 : Int) (V : sj_VV), OK9 g a0 → g_X9_pointsCan_67_b N k67 a0 x1 x2 V = some q → sj_T X m_X9_pointsCan s0 (some (sj_i q.1), (g, q.2)) 67 [some (sj_r (some a0)), some (sj_i x1), some (sj_i x2), none, none, none] [] (g, V) := by
  intro a0 x1 x2 V ha0 h
  unfold g_X9_pointsCan_67_b at h
  refine r_iload_n (pc := 67) dX9_pointsCan_67 rfl rfl ?_
  refine r_iconst (pc := 68) dX9_pointsCan_68 ?_
  refine r_iadd (pc := 69) dX9_pointsCan_69 ?_
  refine r_iload_n (pc := 70) dX9_pointsCan_70 rfl rfl ?_
  refine r_icmp_ge (pc := 71) (tgt := 178) h dX9_pointsCan_71 (by decide) (fun h => ?_) (fun h => ?_)
  · refine r_aload_n (pc := 178) dX9_pointsCan_178 rfl rfl ?_
    refine r_gRs (b := a0 + 5) (pc := 179) dX9_pointsCan_179 fw_X9_26 rfl (ok9 ha0) (ok9_16 ha0).1 ?_
    refine r_aload_n (pc := 182) dX9_pointsCan_182 rfl rfl ?_
    refine r_gIs (pc := 183) dX9_pointsCan_183 fw_X9_22 rfl (ok9 ha0) ?_
    refine r_aload_n (pc := 186) dX9_pointsCan_186 rfl rfl ?_
    refine r_gRs (b := a0 + 1) (pc := 187) dX9_pointsCan_187 fw_X9_9 rfl (ok9 ha0) (ok9_0 ha0).1 ?_
    refine r_iconst (pc := 190) dX9_pointsCan_190 ?_
    refine r_aload_n (pc := 191) dX9_pointsCan_191 rfl rfl ?_
    refine r_gIs (pc := 192) dX9_pointsCan_192 fw_X9_22 rfl (ok9 ha0) ?_
    refine r_iadd (pc := 195) dX9_pointsCan_195 ?_
    refine r_ialoads (pc := 196) h dX9_pointsCan_196 (ok9_0 ha0).2 (fun h => ?_)
    refine r_iastores (pc := 197) h dX9_pointsCan_197 (ok9_16 ha0).2 (fun V1 h => ?_)
    refine r_aload_n (pc := 198) dX9_pointsCan_198 rfl rfl ?_
    refine r_gRs (b := a0 + 5) (pc := 199) dX9_pointsCan_199 fw_X9_26 rfl (ok9 ha0) (ok9_16 ha0).1 ?_
    refine r_aload_n (pc := 202) dX9_pointsCan_202 rfl rfl ?_
    refine r_gIs (pc := 203) dX9_pointsCan_203 fw_X9_150 rfl (ok9 ha0) ?_
    refine r_aload_n (pc := 206) dX9_pointsCan_206 rfl rfl ?_
    refine r_gRs (b := a0 + 1) (pc := 207) dX9_pointsCan_207 fw_X9_9 rfl (ok9 ha0) (ok9_0 ha0).1 ?_
    refine r_iconst (pc := 210) dX9_pointsCan_210 ?_
    refine r_aload_n (pc := 211) dX9_pointsCan_211 rfl rfl ?_
    refine r_gIs (pc := 212) dX9_pointsCan_212 fw_X9_150 rfl (ok9 ha0) ?_
    refine r_iadd (pc := 215) dX9_pointsCan_215 ?_
    refine r_ialoads (pc := 216) h dX9_pointsCan_216 (ok9_0 ha0).2 (fun h => ?_)
    refine r_iastores (pc := 217) h dX9_pointsCan_217 (ok9_16 ha0).2 (fun V2 h => ?_)
    refine r_aload_n (pc := 218) dX9_pointsCan_218 rfl rfl ?_
    refine r_gIs (pc := 219) dX9_pointsCan_219 fw_X9_22 rfl (ok9 ha0) ?_
    refine r_iconst (pc := 222) dX9_pointsCan_222 ?_
    refine r_iadd (pc := 223) dX9_pointsCan_223 ?_
    refine r_istore_nL (ln := fun w => [some (sj_r (some a0)), some (sj_i x1), some (sj_i w), none, none, none]) (pc := 224) h dX9_pointsCan_224 rfl (Nat.le_of_ble_eq_true rfl) (fun _ => rfl) (fun v3 h => ?_)
    exact sj_weak (l2 := [some (sj_r (some a0)), none, some (sj_i v3), none, none, none]) (⟨rfl, ⟨rfl, trivial⟩⟩) (st_X9_pointsCan_225 N a0 v3 V2 ha0 h)
  · refine r_aload_n (pc := 74) dX9_pointsCan_74 rfl rfl ?_
    refine r_gRs (b := a0 + 1) (pc := 75) dX9_pointsCan_75 fw_X9_9 rfl (ok9 ha0) (ok9_0 ha0).1 ?_
    refine r_sipush (pc := 78) dX9_pointsCan_78 ⟨by decide, by decide⟩ ?_
    refine r_iload_n (pc := 81) dX9_pointsCan_81 rfl rfl ?_
    refine r_iadd (pc := 82) dX9_pointsCan_82 ?_
    refine r_ialoads (pc := 83) h dX9_pointsCan_83 (ok9_0 ha0).2 (fun h => ?_)
    refine r_istore_nL (ln := fun w => [some (sj_r (some a0)), some (sj_i x1), some (sj_i x2), some (sj_i w), none, none]) (pc := 84) h dX9_pointsCan_84 rfl (Nat.le_of_ble_eq_true rfl) (fun _ => rfl) (fun v4 h => ?_)
    refine r_aload_n (pc := 85) dX9_pointsCan_85 rfl rfl ?_
    refine r_gRs (b := a0 + 1) (pc := 86) dX9_pointsCan_86 fw_X9_9 rfl (ok9 ha0) (ok9_0 ha0).1 ?_
    refine r_sipush (pc := 89) dX9_pointsCan_89 ⟨by decide, by decide⟩ ?_
    refine r_iload_n (pc := 92) dX9_pointsCan_92 rfl rfl ?_
    refine r_iadd (pc := 93) dX9_pointsCan_93 ?_
    refine r_iconst (pc := 94) dX9_pointsCan_94 ?_
    refine r_iadd (pc := 95) dX9_pointsCan_95 ?_
    refine r_ialoads (pc := 96) h dX9_pointsCan_96 (ok9_0 ha0).2 (fun h => ?_)
    refine r_istoreL (ln := fun w => [some (sj_r (some a0)), some (sj_i x1), some (sj_i x2), some (sj_i v4), some (sj_i w), none]) (pc := 97) h dX9_pointsCan_97 (Nat.le_of_ble_eq_true rfl) (fun _ => rfl) (fun v5 h => ?_)
    refine r_iload_n (pc := 99) dX9_pointsCan_99 rfl rfl ?_
    refine r_istore (ln := [some (sj_r (some a0)), some (sj_i x1), some (sj_i x2), some (sj_i v4), some (sj_i v5), some (sj_i v4)]) (pc := 100) dX9_pointsCan_100 (Nat.le_of_ble_eq_true rfl) rfl ?_
    exact sj_weak (l2 := [some (sj_r (some a0)), some (sj_i x1), some (sj_i x2), some (sj_i v4), some (sj_i v5), some (sj_i v4)]) (⟨rfl, ⟨rfl, ⟨rfl, ⟨rfl, ⟨rfl, ⟨rfl, trivial⟩⟩⟩⟩⟩⟩) (st_X9_pointsCan_102 hk67 N a0 x1 x2 v4 v5 v4 V ha0 h)
set_option maxHeartbeats 4000000 in
theorem st_X9_pointsCan_67 {X : sj_X} {g : sj_G} {s0 : sj_Mem} {N : Nat} {q : Int × sj_VV} :
    ∀ (n : Nat) (a0 : Nat) (x1 : Int) (x2 : Int) (V : sj_VV), OK9 g a0 → g_X9_pointsCan_67 N n a0 x1 x2 V = some q → sj_T X m_X9_pointsCan s0 (some (sj_i q.1), (g, q.2)) 67 [some (sj_r (some a0)), some (sj_i x1), some (sj_i x2), none, none, none] [] (g, V) := by
  intro n
  induction n with
  | zero => intro a0 x1 x2 V ha0 h; exact nomatch h
  | succ n ih => intro a0 x1 x2 V ha0 h; exact st_X9_pointsCan_67_b (N := N) ih a0 x1 x2 V ha0 h
set_option maxHeartbeats 4000000 in
theorem st_X9_pointsCan_0 {X : sj_X} {g : sj_G} {s0 : sj_Mem} {N : Nat} {q : Int × sj_VV} :
    ∀ (a0 : Nat) (V : sj_VV), OK9 g a0 → g_X9_pointsCan N a0 V = some q → sj_T X m_X9_pointsCan s0 (some (sj_i q.1), (g, q.2)) 0 [some (sj_r (some a0)), none, none, none, none, none] [] (g, V) := by
  intro a0 V ha0 h
  unfold g_X9_pointsCan at h
  refine r_aload_n (pc := 0) dX9_pointsCan_0 rfl rfl ?_
  refine r_gRs (b := a0 + 1) (pc := 1) dX9_pointsCan_1 fw_X9_9 rfl (ok9 ha0) (ok9_0 ha0).1 ?_
  refine r_sipush (pc := 4) dX9_pointsCan_4 ⟨by decide, by decide⟩ ?_
  refine r_ialoads (pc := 7) h dX9_pointsCan_7 (ok9_0 ha0).2 (fun h => ?_)
  refine r_istore_nL (ln := fun w => [some (sj_r (some a0)), some (sj_i w), none, none, none, none]) (pc := 8) h dX9_pointsCan_8 rfl (Nat.le_of_ble_eq_true rfl) (fun _ => rfl) (fun v1 h => ?_)
  refine r_iload_n (pc := 9) dX9_pointsCan_9 rfl rfl ?_
  refine r_iconst (pc := 10) dX9_pointsCan_10 ?_
  refine r_icmp_lt (pc := 11) (tgt := 35) h dX9_pointsCan_11 (by decide) (fun h => ?_) (fun h => ?_)
  · refine r_iconst (pc := 35) dX9_pointsCan_35 ?_
    exact r_zrets (pc := 36) h rfl dX9_pointsCan_36
  · refine r_aload_n (pc := 14) dX9_pointsCan_14 rfl rfl ?_
    refine r_gRs (b := a0 + 1) (pc := 15) dX9_pointsCan_15 fw_X9_9 rfl (ok9 ha0) (ok9_0 ha0).1 ?_
    refine r_sipush (pc := 18) dX9_pointsCan_18 ⟨by decide, by decide⟩ ?_
    refine r_iload_n (pc := 21) dX9_pointsCan_21 rfl rfl ?_
    refine r_iadd (pc := 22) dX9_pointsCan_22 ?_
    refine r_iconst (pc := 23) dX9_pointsCan_23 ?_
    refine r_isub (pc := 24) dX9_pointsCan_24 ?_
    refine r_ialoads (pc := 25) h dX9_pointsCan_25 (ok9_0 ha0).2 (fun h => ?_)
    refine r_aload_n (pc := 26) dX9_pointsCan_26 rfl rfl ?_
    refine r_gRs (b := a0 + 1) (pc := 27) dX9_pointsCan_27 fw_X9_9 rfl (ok9 ha0) (ok9_0 ha0).1 ?_
    refine r_iconst (pc := 30) dX9_pointsCan_30 ?_
    refine r_ialoads (pc := 31) h dX9_pointsCan_31 (ok9_0 ha0).2 (fun h => ?_)
    refine r_icmp_le (pc := 32) (tgt := 37) h dX9_pointsCan_32 (by decide) (fun h => ?_) (fun h => ?_)
    · refine r_aload_n (pc := 37) dX9_pointsCan_37 rfl rfl ?_
      refine r_aload_n (pc := 38) dX9_pointsCan_38 rfl rfl ?_
      refine r_gRs (b := a0 + 1) (pc := 39) dX9_pointsCan_39 fw_X9_9 rfl (ok9 ha0) (ok9_0 ha0).1 ?_
      refine r_sipush (pc := 42) dX9_pointsCan_42 ⟨by decide, by decide⟩ ?_
      refine r_ialoads (pc := 45) h dX9_pointsCan_45 (ok9_0 ha0).2 (fun h => ?_)
      refine r_pIs (pc := 46) h dX9_pointsCan_46 fw_X9_22 rfl rfl (nf9_13) (ok9 ha0) (fun V2 h => ?_)
      refine r_aload_n (pc := 49) dX9_pointsCan_49 rfl rfl ?_
      refine r_aload_n (pc := 50) dX9_pointsCan_50 rfl rfl ?_
      refine r_gRs (b := a0 + 1) (pc := 51) dX9_pointsCan_51 fw_X9_9 rfl (ok9 ha0) (ok9_0 ha0).1 ?_
      refine r_sipush (pc := 54) dX9_pointsCan_54 ⟨by decide, by decide⟩ ?_
      refine r_iload_n (pc := 57) dX9_pointsCan_57 rfl rfl ?_
      refine r_iadd (pc := 58) dX9_pointsCan_58 ?_
      refine r_iconst (pc := 59) dX9_pointsCan_59 ?_
      refine r_isub (pc := 60) dX9_pointsCan_60 ?_
      refine r_ialoads (pc := 61) h dX9_pointsCan_61 (ok9_0 ha0).2 (fun h => ?_)
      refine r_pIs (pc := 62) h dX9_pointsCan_62 fw_X9_150 rfl rfl (nf9_14) (ok9 ha0) (fun V3 h => ?_)
      refine r_iconst (pc := 65) dX9_pointsCan_65 ?_
      refine r_istore_n (ln := [some (sj_r (some a0)), some (sj_i v1), some (sj_i 0), none, none, none]) (pc := 66) dX9_pointsCan_66 rfl (Nat.le_of_ble_eq_true rfl) rfl ?_
      exact sj_weak (l2 := [some (sj_r (some a0)), some (sj_i v1), some (sj_i 0), none, none, none]) (⟨rfl, ⟨rfl, ⟨rfl, trivial⟩⟩⟩) (st_X9_pointsCan_67 N a0 v1 0 V3 ha0 h)
    · refine r_iconst (pc := 35) dX9_pointsCan_35 ?_
      exact r_zrets (pc := 36) h rfl dX9_pointsCan_36
set_option maxHeartbeats 4000000 in
theorem cg_X9_pointsCan {X : sj_X} {g : sj_G} {N : Nat} {a0 : Nat} {V : sj_VV} {q : Int × sj_VV} (ha0 : OK9 g a0) (h : g_X9_pointsCan N a0 V = some q) : sj_C X m_X9_pointsCan [sj_r (some a0)] (g, V) (some (sj_i q.1), (g, q.2)) :=
  sj_C_of (by decide +kernel) (Nat.le_of_ble_eq_true rfl) (lo := [some (sj_r (some a0)), none, none, none, none, none]) rfl (sj_weak (l2 := [some (sj_r (some a0)), none, none, none, none, none]) (⟨rfl, trivial⟩) (st_X9_pointsCan_0 a0 V ha0 h))
set_option maxHeartbeats 4000000 in
theorem c_X9_pointsCan {X : sj_X} {N : Nat} {a0 : Nat} {s : sj_Mem} {q : Int × sj_Mem} (h : f_X9_pointsCan N a0 s = some q) : sj_C X m_X9_pointsCan [sj_r (some a0)] s (some (sj_i q.1), q.2) := by
  obtain ⟨g, V⟩ := s
  unfold f_X9_pointsCan at h
  obtain ⟨ho, h1⟩ := e_ok_some h
  obtain ⟨q2, h2, rfl⟩ := sj_map_some h1
  exact cg_X9_pointsCan ho h2
theorem dX9_points_0 : decode cX9_points 0 = .ok (.aload_n 0, 1) := by decide +kernel
theorem dX9_points_1 : decode cX9_points 1 = .ok (.invokevirtual 219, 3) := by decide +kernel
theorem dX9_points_4 : decode cX9_points 4 = .ok (.ifCond .ne 5, 3) := by decide +kernel
theorem dX9_points_7 : decode cX9_points 7 = .ok (.iconst (-1), 1) := by decide +kernel
theorem dX9_points_8 : decode cX9_points 8 = .ok (.ireturn, 1) := by decide +kernel
theorem dX9_points_9 : decode cX9_points 9 = .ok (.aload_n 0, 1) := by decide +kernel
theorem dX9_points_10 : decode cX9_points 10 = .ok (.iload_n 1, 1) := by decide +kernel
theorem dX9_points_11 : decode cX9_points 11 = .ok (.putfield 153, 3) := by decide +kernel
theorem dX9_points_14 : decode cX9_points 14 = .ok (.aload_n 0, 1) := by decide +kernel
theorem dX9_points_15 : decode cX9_points 15 = .ok (.invokevirtual 205, 3) := by decide +kernel
theorem dX9_points_18 : decode cX9_points 18 = .ok (.ireturn, 1) := by decide +kernel
set_option maxHeartbeats 4000000 in
theorem st_X9_points_0 {X : sj_X} {g : sj_G} {s0 : sj_Mem} {N : Nat} {q : Int × sj_VV} :
    ∀ (a0 : Nat) (x1 : Int) (V : sj_VV), OK9 g a0 → g_X9_points N a0 x1 V = some q → sj_T X m_X9_points s0 (some (sj_i q.1), (g, q.2)) 0 [some (sj_r (some a0)), some (sj_i x1)] [] (g, V) := by
  intro a0 x1 V ha0 h
  unfold g_X9_points at h
  refine r_aload_n (pc := 0) dX9_points_0 rfl rfl ?_
  refine r_callVs (pc := 1) (fun v => some (sj_i v)) (As := []) (rest := []) (b := a0) (ok9 ha0) h dX9_points_1 mw_X9_219 vw_X9_pointsCan (fun _ _ hc => cg_X9_pointsCan ha0 hc) rfl ⟨(Nat.le_of_ble_eq_true rfl), (Nat.le_of_ble_eq_true rfl)⟩ (Nat.le_of_ble_eq_true rfl) rfl (fun v2 V1 h => ?_)
  refine r_if_ne (pc := 4) (tgt := 9) h dX9_points_4 (by decide) (fun h => ?_) (fun h => ?_)
  · refine r_iconst (pc := 7) dX9_points_7 ?_
    exact r_irets (pc := 8) h rfl dX9_points_8
  · refine r_aload_n (pc := 9) dX9_points_9 rfl rfl ?_
    refine r_iload_n (pc := 10) dX9_points_10 rfl rfl ?_
    refine r_pZs (pc := 11) h dX9_points_11 fw_X9_153 rfl rfl (nf9_15) (ok9 ha0) (fun V3 h => ?_)
    refine r_aload_n (pc := 14) dX9_points_14 rfl rfl ?_
    refine r_callVs (pc := 15) (fun v => some (sj_i v)) (As := []) (rest := []) (b := a0) (ok9 ha0) h dX9_points_15 mw_X9_205 vw_X9_keepsSlip (fun _ _ hc => cg_X9_keepsSlip ha0 hc) rfl ⟨(Nat.le_of_ble_eq_true rfl), (Nat.le_of_ble_eq_true rfl)⟩ (Nat.le_of_ble_eq_true rfl) rfl (fun v5 V4 h => ?_)
    exact r_irets (pc := 18) h rfl dX9_points_18
set_option maxHeartbeats 4000000 in
theorem cg_X9_points {X : sj_X} {g : sj_G} {N : Nat} {a0 : Nat} {x1 : Int} {V : sj_VV} {q : Int × sj_VV} (ha0 : OK9 g a0) (h : g_X9_points N a0 x1 V = some q) : sj_C X m_X9_points [sj_r (some a0), sj_i x1] (g, V) (some (sj_i q.1), (g, q.2)) :=
  sj_C_of (by decide +kernel) (Nat.le_of_ble_eq_true rfl) (lo := [some (sj_r (some a0)), some (sj_i x1)]) rfl (sj_weak (l2 := [some (sj_r (some a0)), some (sj_i x1)]) (⟨rfl, ⟨rfl, trivial⟩⟩) (st_X9_points_0 a0 x1 V ha0 h))
set_option maxHeartbeats 4000000 in
theorem c_X9_points {X : sj_X} {N : Nat} {a0 : Nat} {x1 : Int} {s : sj_Mem} {q : Int × sj_Mem} (h : f_X9_points N a0 x1 s = some q) : sj_C X m_X9_points [sj_r (some a0), sj_i x1] s (some (sj_i q.1), q.2) := by
  obtain ⟨g, V⟩ := s
  unfold f_X9_points at h
  obtain ⟨ho, h1⟩ := e_ok_some h
  obtain ⟨q2, h2, rfl⟩ := sj_map_some h1
  exact cg_X9_points ho h2
theorem dX9_point_0 : decode cX9_point 0 = .ok (.iload_n 1, 1) := by decide +kernel
theorem dX9_point_1 : decode cX9_point 1 = .ok (.iconst (-1), 1) := by decide +kernel
theorem dX9_point_2 : decode cX9_point 2 = .ok (.if_icmp .ne 14, 3) := by decide +kernel
theorem dX9_point_5 : decode cX9_point 5 = .ok (.aload_n 0, 1) := by decide +kernel
theorem dX9_point_6 : decode cX9_point 6 = .ok (.getfield 9, 3) := by decide +kernel
theorem dX9_point_9 : decode cX9_point 9 = .ok (.sipush 364, 3) := by decide +kernel
theorem dX9_point_12 : decode cX9_point 12 = .ok (.iconst 0, 1) := by decide +kernel
theorem dX9_point_13 : decode cX9_point 13 = .ok (.iastore, 1) := by decide +kernel
theorem dX9_point_14 : decode cX9_point 14 = .ok (.iconst 0, 1) := by decide +kernel
theorem dX9_point_15 : decode cX9_point 15 = .ok (.ireturn, 1) := by decide +kernel
theorem dX9_point_16 : decode cX9_point 16 = .ok (.aload_n 0, 1) := by decide +kernel
theorem dX9_point_17 : decode cX9_point 17 = .ok (.getfield 9, 3) := by decide +kernel
theorem dX9_point_20 : decode cX9_point 20 = .ok (.sipush 364, 3) := by decide +kernel
theorem dX9_point_23 : decode cX9_point 23 = .ok (.iaload, 1) := by decide +kernel
theorem dX9_point_24 : decode cX9_point 24 = .ok (.istore_n 3, 1) := by decide +kernel
theorem dX9_point_25 : decode cX9_point 25 = .ok (.aload_n 0, 1) := by decide +kernel
theorem dX9_point_26 : decode cX9_point 26 = .ok (.iload_n 1, 1) := by decide +kernel
theorem dX9_point_27 : decode cX9_point 27 = .ok (.invokevirtual 74, 3) := by decide +kernel
theorem dX9_point_30 : decode cX9_point 30 = .ok (.ifCond .eq 41, 3) := by decide +kernel
theorem dX9_point_33 : decode cX9_point 33 = .ok (.iload_n 2, 1) := by decide +kernel
theorem dX9_point_34 : decode cX9_point 34 = .ok (.i2l, 1) := by decide +kernel
theorem dX9_point_35 : decode cX9_point 35 = .ok (.lconst 0, 1) := by decide +kernel
theorem dX9_point_36 : decode cX9_point 36 = .ok (.ldc2_w 82, 3) := by decide +kernel
theorem dX9_point_39 : decode cX9_point 39 = .ok (.invokestatic 57, 3) := by decide +kernel
theorem dX9_point_42 : decode cX9_point 42 = .ok (.ifCond .eq 29, 3) := by decide +kernel
theorem dX9_point_45 : decode cX9_point 45 = .ok (.iload_n 3, 1) := by decide +kernel
theorem dX9_point_46 : decode cX9_point 46 = .ok (.bipush 12, 2) := by decide +kernel
theorem dX9_point_48 : decode cX9_point 48 = .ok (.if_icmp .eq 23, 3) := by decide +kernel
theorem dX9_point_51 : decode cX9_point 51 = .ok (.iload_n 3, 1) := by decide +kernel
theorem dX9_point_52 : decode cX9_point 52 = .ok (.ifCond .le 21, 3) := by decide +kernel
theorem dX9_point_55 : decode cX9_point 55 = .ok (.iload_n 1, 1) := by decide +kernel
theorem dX9_point_56 : decode cX9_point 56 = .ok (.aload_n 0, 1) := by decide +kernel
theorem dX9_point_57 : decode cX9_point 57 = .ok (.getfield 9, 3) := by decide +kernel
theorem dX9_point_60 : decode cX9_point 60 = .ok (.sipush 365, 3) := by decide +kernel
theorem dX9_point_63 : decode cX9_point 63 = .ok (.iload_n 3, 1) := by decide +kernel
theorem dX9_point_64 : decode cX9_point 64 = .ok (.iadd, 1) := by decide +kernel
theorem dX9_point_65 : decode cX9_point 65 = .ok (.iconst 1, 1) := by decide +kernel
theorem dX9_point_66 : decode cX9_point 66 = .ok (.isub, 1) := by decide +kernel
theorem dX9_point_67 : decode cX9_point 67 = .ok (.iaload, 1) := by decide +kernel
theorem dX9_point_68 : decode cX9_point 68 = .ok (.if_icmp .gt 5, 3) := by decide +kernel
theorem dX9_point_71 : decode cX9_point 71 = .ok (.iconst (-1), 1) := by decide +kernel
theorem dX9_point_72 : decode cX9_point 72 = .ok (.ireturn, 1) := by decide +kernel
theorem dX9_point_73 : decode cX9_point 73 = .ok (.aload_n 0, 1) := by decide +kernel
theorem dX9_point_74 : decode cX9_point 74 = .ok (.getfield 9, 3) := by decide +kernel
theorem dX9_point_77 : decode cX9_point 77 = .ok (.sipush 365, 3) := by decide +kernel
theorem dX9_point_80 : decode cX9_point 80 = .ok (.iload_n 3, 1) := by decide +kernel
theorem dX9_point_81 : decode cX9_point 81 = .ok (.iadd, 1) := by decide +kernel
theorem dX9_point_82 : decode cX9_point 82 = .ok (.iload_n 1, 1) := by decide +kernel
theorem dX9_point_83 : decode cX9_point 83 = .ok (.iastore, 1) := by decide +kernel
theorem dX9_point_84 : decode cX9_point 84 = .ok (.aload_n 0, 1) := by decide +kernel
theorem dX9_point_85 : decode cX9_point 85 = .ok (.getfield 9, 3) := by decide +kernel
theorem dX9_point_88 : decode cX9_point 88 = .ok (.sipush 377, 3) := by decide +kernel
theorem dX9_point_91 : decode cX9_point 91 = .ok (.iload_n 3, 1) := by decide +kernel
theorem dX9_point_92 : decode cX9_point 92 = .ok (.iadd, 1) := by decide +kernel
theorem dX9_point_93 : decode cX9_point 93 = .ok (.iload_n 2, 1) := by decide +kernel
theorem dX9_point_94 : decode cX9_point 94 = .ok (.iastore, 1) := by decide +kernel
theorem dX9_point_95 : decode cX9_point 95 = .ok (.aload_n 0, 1) := by decide +kernel
theorem dX9_point_96 : decode cX9_point 96 = .ok (.getfield 9, 3) := by decide +kernel
theorem dX9_point_99 : decode cX9_point 99 = .ok (.sipush 364, 3) := by decide +kernel
theorem dX9_point_102 : decode cX9_point 102 = .ok (.dup2, 1) := by decide +kernel
theorem dX9_point_103 : decode cX9_point 103 = .ok (.iaload, 1) := by decide +kernel
theorem dX9_point_104 : decode cX9_point 104 = .ok (.iconst 1, 1) := by decide +kernel
theorem dX9_point_105 : decode cX9_point 105 = .ok (.iadd, 1) := by decide +kernel
theorem dX9_point_106 : decode cX9_point 106 = .ok (.iastore, 1) := by decide +kernel
theorem dX9_point_107 : decode cX9_point 107 = .ok (.aload_n 0, 1) := by decide +kernel
theorem dX9_point_108 : decode cX9_point 108 = .ok (.getfield 9, 3) := by decide +kernel
theorem dX9_point_111 : decode cX9_point 111 = .ok (.sipush 364, 3) := by decide +kernel
theorem dX9_point_114 : decode cX9_point 114 = .ok (.iaload, 1) := by decide +kernel
theorem dX9_point_115 : decode cX9_point 115 = .ok (.ireturn, 1) := by decide +kernel
set_option maxHeartbeats 4000000 in
theorem st_X9_point_73 {X : sj_X} {g : sj_G} {s0 : sj_Mem} {N : Nat} {q : Int × sj_VV} :
    ∀ (a0 : Nat) (x1 : Int) (x2 : Int) (x3 : Int) (V : sj_VV), OK9 g a0 → g_X9_point_73 N a0 x1 x2 x3 V = some q → sj_T X m_X9_point s0 (some (sj_i q.1), (g, q.2)) 73 [some (sj_r (some a0)), some (sj_i x1), some (sj_i x2), some (sj_i x3)] [] (g, V) := by
  intro a0 x1 x2 x3 V ha0 h
  unfold g_X9_point_73 at h
  refine r_aload_n (pc := 73) dX9_point_73 rfl rfl ?_
  refine r_gRs (b := a0 + 1) (pc := 74) dX9_point_74 fw_X9_9 rfl (ok9 ha0) (ok9_0 ha0).1 ?_
  refine r_sipush (pc := 77) dX9_point_77 ⟨by decide, by decide⟩ ?_
  refine r_iload_n (pc := 80) dX9_point_80 rfl rfl ?_
  refine r_iadd (pc := 81) dX9_point_81 ?_
  refine r_iload_n (pc := 82) dX9_point_82 rfl rfl ?_
  refine r_iastores (pc := 83) h dX9_point_83 (ok9_0 ha0).2 (fun V1 h => ?_)
  refine r_aload_n (pc := 84) dX9_point_84 rfl rfl ?_
  refine r_gRs (b := a0 + 1) (pc := 85) dX9_point_85 fw_X9_9 rfl (ok9 ha0) (ok9_0 ha0).1 ?_
  refine r_sipush (pc := 88) dX9_point_88 ⟨by decide, by decide⟩ ?_
  refine r_iload_n (pc := 91) dX9_point_91 rfl rfl ?_
  refine r_iadd (pc := 92) dX9_point_92 ?_
  refine r_iload_n (pc := 93) dX9_point_93 rfl rfl ?_
  refine r_iastores (pc := 94) h dX9_point_94 (ok9_0 ha0).2 (fun V2 h => ?_)
  refine r_aload_n (pc := 95) dX9_point_95 rfl rfl ?_
  refine r_gRs (b := a0 + 1) (pc := 96) dX9_point_96 fw_X9_9 rfl (ok9 ha0) (ok9_0 ha0).1 ?_
  refine r_sipush (pc := 99) dX9_point_99 ⟨by decide, by decide⟩ ?_
  refine r_dup2_11 (pc := 102) dX9_point_102 rfl rfl ?_
  refine r_ialoads (pc := 103) h dX9_point_103 (ok9_0 ha0).2 (fun h => ?_)
  refine r_iconst (pc := 104) dX9_point_104 ?_
  refine r_iadd (pc := 105) dX9_point_105 ?_
  refine r_iastores (pc := 106) h dX9_point_106 (ok9_0 ha0).2 (fun V3 h => ?_)
  refine r_aload_n (pc := 107) dX9_point_107 rfl rfl ?_
  refine r_gRs (b := a0 + 1) (pc := 108) dX9_point_108 fw_X9_9 rfl (ok9 ha0) (ok9_0 ha0).1 ?_
  refine r_sipush (pc := 111) dX9_point_111 ⟨by decide, by decide⟩ ?_
  refine r_ialoads (pc := 114) h dX9_point_114 (ok9_0 ha0).2 (fun h => ?_)
  exact r_irets (pc := 115) h rfl dX9_point_115
set_option maxHeartbeats 4000000 in
theorem st_X9_point_0 {X : sj_X} {g : sj_G} {s0 : sj_Mem} {N : Nat} {q : Int × sj_VV} :
    ∀ (a0 : Nat) (x1 : Int) (x2 : Int) (V : sj_VV), OK9 g a0 → g_X9_point N a0 x1 x2 V = some q → sj_T X m_X9_point s0 (some (sj_i q.1), (g, q.2)) 0 [some (sj_r (some a0)), some (sj_i x1), some (sj_i x2), none] [] (g, V) := by
  intro a0 x1 x2 V ha0 h
  unfold g_X9_point at h
  refine r_iload_n (pc := 0) dX9_point_0 rfl rfl ?_
  refine r_iconst (pc := 1) dX9_point_1 ?_
  refine r_icmp_ne (pc := 2) (tgt := 16) h dX9_point_2 (by decide) (fun h => ?_) (fun h => ?_)
  · refine r_aload_n (pc := 5) dX9_point_5 rfl rfl ?_
    refine r_gRs (b := a0 + 1) (pc := 6) dX9_point_6 fw_X9_9 rfl (ok9 ha0) (ok9_0 ha0).1 ?_
    refine r_sipush (pc := 9) dX9_point_9 ⟨by decide, by decide⟩ ?_
    refine r_iconst (pc := 12) dX9_point_12 ?_
    refine r_iastores (pc := 13) h dX9_point_13 (ok9_0 ha0).2 (fun V7 h => ?_)
    refine r_iconst (pc := 14) dX9_point_14 ?_
    exact r_irets (pc := 15) h rfl dX9_point_15
  · refine r_aload_n (pc := 16) dX9_point_16 rfl rfl ?_
    refine r_gRs (b := a0 + 1) (pc := 17) dX9_point_17 fw_X9_9 rfl (ok9 ha0) (ok9_0 ha0).1 ?_
    refine r_sipush (pc := 20) dX9_point_20 ⟨by decide, by decide⟩ ?_
    refine r_ialoads (pc := 23) h dX9_point_23 (ok9_0 ha0).2 (fun h => ?_)
    refine r_istore_nL (ln := fun w => [some (sj_r (some a0)), some (sj_i x1), some (sj_i x2), some (sj_i w)]) (pc := 24) h dX9_point_24 rfl (Nat.le_of_ble_eq_true rfl) (fun _ => rfl) (fun v1 h => ?_)
    refine r_aload_n (pc := 25) dX9_point_25 rfl rfl ?_
    refine r_iload_n (pc := 26) dX9_point_26 rfl rfl ?_
    refine r_callVs (pc := 27) (fun v => some (sj_i v)) (As := [sj_i x1]) (rest := []) (b := a0) (ok9 ha0) h dX9_point_27 mw_X9_74 vw_X9_isColumn (fun _ _ hc => cg_X9_isColumn ha0 hc) rfl ⟨(Nat.le_of_ble_eq_true rfl), (Nat.le_of_ble_eq_true rfl)⟩ (Nat.le_of_ble_eq_true rfl) rfl (fun v3 V2 h => ?_)
    refine r_if_eq (pc := 30) (tgt := 71) h dX9_point_30 (by decide) (fun h => ?_) (fun h => ?_)
    · refine r_iconst (pc := 71) dX9_point_71 ?_
      exact r_irets (pc := 72) h rfl dX9_point_72
    · refine r_iload_n (pc := 33) dX9_point_33 rfl rfl ?_
      refine r_i2l (pc := 34) h dX9_point_34 (fun v4 h => ?_)
      refine r_lconst0 (pc := 35) dX9_point_35 ?_
      refine r_ldc2 (n := 100) (pc := 36) dX9_point_36 kc_X9_82 ?_
      refine r_callSs (pc := 39) (fun v => some (sj_i v)) (As := [sj_j v4, sj_j 0, sj_j 100]) (rest := []) h dX9_point_39 mw_X9_57 kw_1225 (fun _ _ hc => cg_X9_isIn  hc) rfl ⟨(Nat.le_of_ble_eq_true rfl), (Nat.le_of_ble_eq_true rfl)⟩ (Nat.le_of_ble_eq_true rfl) rfl (fun v6 V5 h => ?_)
      refine r_if_eq (pc := 42) (tgt := 71) h dX9_point_42 (by decide) (fun h => ?_) (fun h => ?_)
      · refine r_iconst (pc := 71) dX9_point_71 ?_
        exact r_irets (pc := 72) h rfl dX9_point_72
      · refine r_iload_n (pc := 45) dX9_point_45 rfl rfl ?_
        refine r_bipush (pc := 46) dX9_point_46 ⟨by decide, by decide⟩ ?_
        refine r_icmp_eq (pc := 48) (tgt := 71) h dX9_point_48 (by decide) (fun h => ?_) (fun h => ?_)
        · refine r_iconst (pc := 71) dX9_point_71 ?_
          exact r_irets (pc := 72) h rfl dX9_point_72
        · refine r_iload_n (pc := 51) dX9_point_51 rfl rfl ?_
          refine r_if_le (pc := 52) (tgt := 73) h dX9_point_52 (by decide) (fun h => ?_) (fun h => ?_)
          · exact sj_weak (l2 := [some (sj_r (some a0)), some (sj_i x1), some (sj_i x2), some (sj_i v1)]) (⟨rfl, ⟨rfl, ⟨rfl, ⟨rfl, trivial⟩⟩⟩⟩) (st_X9_point_73 a0 x1 x2 v1 V5 ha0 h)
          · refine r_iload_n (pc := 55) dX9_point_55 rfl rfl ?_
            refine r_aload_n (pc := 56) dX9_point_56 rfl rfl ?_
            refine r_gRs (b := a0 + 1) (pc := 57) dX9_point_57 fw_X9_9 rfl (ok9 ha0) (ok9_0 ha0).1 ?_
            refine r_sipush (pc := 60) dX9_point_60 ⟨by decide, by decide⟩ ?_
            refine r_iload_n (pc := 63) dX9_point_63 rfl rfl ?_
            refine r_iadd (pc := 64) dX9_point_64 ?_
            refine r_iconst (pc := 65) dX9_point_65 ?_
            refine r_isub (pc := 66) dX9_point_66 ?_
            refine r_ialoads (pc := 67) h dX9_point_67 (ok9_0 ha0).2 (fun h => ?_)
            refine r_icmp_gt (pc := 68) (tgt := 73) h dX9_point_68 (by decide) (fun h => ?_) (fun h => ?_)
            · exact sj_weak (l2 := [some (sj_r (some a0)), some (sj_i x1), some (sj_i x2), some (sj_i v1)]) (⟨rfl, ⟨rfl, ⟨rfl, ⟨rfl, trivial⟩⟩⟩⟩) (st_X9_point_73 a0 x1 x2 v1 V5 ha0 h)
            · refine r_iconst (pc := 71) dX9_point_71 ?_
              exact r_irets (pc := 72) h rfl dX9_point_72
set_option maxHeartbeats 4000000 in
theorem cg_X9_point {X : sj_X} {g : sj_G} {N : Nat} {a0 : Nat} {x1 : Int} {x2 : Int} {V : sj_VV} {q : Int × sj_VV} (ha0 : OK9 g a0) (h : g_X9_point N a0 x1 x2 V = some q) : sj_C X m_X9_point [sj_r (some a0), sj_i x1, sj_i x2] (g, V) (some (sj_i q.1), (g, q.2)) :=
  sj_C_of (by decide +kernel) (Nat.le_of_ble_eq_true rfl) (lo := [some (sj_r (some a0)), some (sj_i x1), some (sj_i x2), none]) rfl (sj_weak (l2 := [some (sj_r (some a0)), some (sj_i x1), some (sj_i x2), none]) (⟨rfl, ⟨rfl, ⟨rfl, trivial⟩⟩⟩) (st_X9_point_0 a0 x1 x2 V ha0 h))
set_option maxHeartbeats 4000000 in
theorem c_X9_point {X : sj_X} {N : Nat} {a0 : Nat} {x1 : Int} {x2 : Int} {s : sj_Mem} {q : Int × sj_Mem} (h : f_X9_point N a0 x1 x2 s = some q) : sj_C X m_X9_point [sj_r (some a0), sj_i x1, sj_i x2] s (some (sj_i q.1), q.2) := by
  obtain ⟨g, V⟩ := s
  unfold f_X9_point at h
  obtain ⟨ho, h1⟩ := e_ok_some h
  obtain ⟨q2, h2, rfl⟩ := sj_map_some h1
  exact cg_X9_point ho h2
theorem dX9_circle_0 : decode cX9_circle 0 = .ok (.iload_n 1, 1) := by decide +kernel
theorem dX9_circle_1 : decode cX9_circle 1 = .ok (.iload_n 2, 1) := by decide +kernel
theorem dX9_circle_2 : decode cX9_circle 2 = .ok (.iload_n 3, 1) := by decide +kernel
theorem dX9_circle_3 : decode cX9_circle 3 = .ok (.invokestatic 197, 3) := by decide +kernel
theorem dX9_circle_6 : decode cX9_circle 6 = .ok (.ifCond .eq 22, 3) := by decide +kernel
theorem dX9_circle_9 : decode cX9_circle 9 = .ok (.aload_n 0, 1) := by decide +kernel
theorem dX9_circle_10 : decode cX9_circle 10 = .ok (.iload_n 1, 1) := by decide +kernel
theorem dX9_circle_11 : decode cX9_circle 11 = .ok (.iload_n 2, 1) := by decide +kernel
theorem dX9_circle_12 : decode cX9_circle 12 = .ok (.iload_n 3, 1) := by decide +kernel
theorem dX9_circle_13 : decode cX9_circle 13 = .ok (.iload 4, 2) := by decide +kernel
theorem dX9_circle_15 : decode cX9_circle 15 = .ok (.invokevirtual 201, 3) := by decide +kernel
theorem dX9_circle_18 : decode cX9_circle 18 = .ok (.ifCond .eq 10, 3) := by decide +kernel
theorem dX9_circle_21 : decode cX9_circle 21 = .ok (.aload_n 0, 1) := by decide +kernel
theorem dX9_circle_22 : decode cX9_circle 22 = .ok (.invokevirtual 205, 3) := by decide +kernel
theorem dX9_circle_25 : decode cX9_circle 25 = .ok (.goto 4, 3) := by decide +kernel
theorem dX9_circle_28 : decode cX9_circle 28 = .ok (.iconst (-1), 1) := by decide +kernel
theorem dX9_circle_29 : decode cX9_circle 29 = .ok (.ireturn, 1) := by decide +kernel
set_option maxHeartbeats 4000000 in
theorem st_X9_circle_0 {X : sj_X} {g : sj_G} {s0 : sj_Mem} {N : Nat} {q : Int × sj_VV} :
    ∀ (a0 : Nat) (x1 : Int) (x2 : Int) (x3 : Int) (x4 : Int) (V : sj_VV), OK9 g a0 → g_X9_circle N a0 x1 x2 x3 x4 V = some q → sj_T X m_X9_circle s0 (some (sj_i q.1), (g, q.2)) 0 [some (sj_r (some a0)), some (sj_i x1), some (sj_i x2), some (sj_i x3), some (sj_i x4)] [] (g, V) := by
  intro a0 x1 x2 x3 x4 V ha0 h
  unfold g_X9_circle at h
  refine r_iload_n (pc := 0) dX9_circle_0 rfl rfl ?_
  refine r_iload_n (pc := 1) dX9_circle_1 rfl rfl ?_
  refine r_iload_n (pc := 2) dX9_circle_2 rfl rfl ?_
  refine r_callSs (pc := 3) (fun v => some (sj_i v)) (As := [sj_i x1, sj_i x2, sj_i x3]) (rest := []) h dX9_circle_3 mw_X9_197 kw_1284 (fun _ _ hc => cg_X9_isCircle  hc) rfl ⟨(Nat.le_of_ble_eq_true rfl), (Nat.le_of_ble_eq_true rfl)⟩ (Nat.le_of_ble_eq_true rfl) rfl (fun v2 V1 h => ?_)
  refine r_if_eq (pc := 6) (tgt := 28) h dX9_circle_6 (by decide) (fun h => ?_) (fun h => ?_)
  · refine r_iconst (pc := 28) dX9_circle_28 ?_
    exact r_irets (pc := 29) h rfl dX9_circle_29
  · refine r_aload_n (pc := 9) dX9_circle_9 rfl rfl ?_
    refine r_iload_n (pc := 10) dX9_circle_10 rfl rfl ?_
    refine r_iload_n (pc := 11) dX9_circle_11 rfl rfl ?_
    refine r_iload_n (pc := 12) dX9_circle_12 rfl rfl ?_
    refine r_iload (pc := 13) dX9_circle_13 rfl ?_
    refine r_callVs (pc := 15) (fun v => some (sj_i v)) (As := [sj_i x1, sj_i x2, sj_i x3, sj_i x4]) (rest := []) (b := a0) (ok9 ha0) h dX9_circle_15 mw_X9_201 vw_X9_cuts (fun _ _ hc => cg_X9_cuts ha0 hc) rfl ⟨(Nat.le_of_ble_eq_true rfl), (Nat.le_of_ble_eq_true rfl)⟩ (Nat.le_of_ble_eq_true rfl) rfl (fun v4 V3 h => ?_)
    refine r_if_eq (pc := 18) (tgt := 28) h dX9_circle_18 (by decide) (fun h => ?_) (fun h => ?_)
    · refine r_iconst (pc := 28) dX9_circle_28 ?_
      exact r_irets (pc := 29) h rfl dX9_circle_29
    · refine r_aload_n (pc := 21) dX9_circle_21 rfl rfl ?_
      refine r_callVs (pc := 22) (fun v => some (sj_i v)) (As := []) (rest := []) (b := a0) (ok9 ha0) h dX9_circle_22 mw_X9_205 vw_X9_keepsSlip (fun _ _ hc => cg_X9_keepsSlip ha0 hc) rfl ⟨(Nat.le_of_ble_eq_true rfl), (Nat.le_of_ble_eq_true rfl)⟩ (Nat.le_of_ble_eq_true rfl) rfl (fun v6 V5 h => ?_)
      refine r_goto (pc := 25) (tgt := 29) dX9_circle_25 (by decide) ?_
      exact r_irets (pc := 29) h rfl dX9_circle_29
set_option maxHeartbeats 4000000 in
theorem cg_X9_circle {X : sj_X} {g : sj_G} {N : Nat} {a0 : Nat} {x1 : Int} {x2 : Int} {x3 : Int} {x4 : Int} {V : sj_VV} {q : Int × sj_VV} (ha0 : OK9 g a0) (h : g_X9_circle N a0 x1 x2 x3 x4 V = some q) : sj_C X m_X9_circle [sj_r (some a0), sj_i x1, sj_i x2, sj_i x3, sj_i x4] (g, V) (some (sj_i q.1), (g, q.2)) :=
  sj_C_of (by decide +kernel) (Nat.le_of_ble_eq_true rfl) (lo := [some (sj_r (some a0)), some (sj_i x1), some (sj_i x2), some (sj_i x3), some (sj_i x4)]) rfl (sj_weak (l2 := [some (sj_r (some a0)), some (sj_i x1), some (sj_i x2), some (sj_i x3), some (sj_i x4)]) (⟨rfl, ⟨rfl, ⟨rfl, ⟨rfl, ⟨rfl, trivial⟩⟩⟩⟩⟩) (st_X9_circle_0 a0 x1 x2 x3 x4 V ha0 h))
set_option maxHeartbeats 4000000 in
theorem c_X9_circle {X : sj_X} {N : Nat} {a0 : Nat} {x1 : Int} {x2 : Int} {x3 : Int} {x4 : Int} {s : sj_Mem} {q : Int × sj_Mem} (h : f_X9_circle N a0 x1 x2 x3 x4 s = some q) : sj_C X m_X9_circle [sj_r (some a0), sj_i x1, sj_i x2, sj_i x3, sj_i x4] s (some (sj_i q.1), q.2) := by
  obtain ⟨g, V⟩ := s
  unfold f_X9_circle at h
  obtain ⟨ho, h1⟩ := e_ok_some h
  obtain ⟨q2, h2, rfl⟩ := sj_map_some h1
  exact cg_X9_circle ho h2
theorem dX9_fault_0 : decode cX9_fault 0 = .ok (.iload_n 1, 1) := by decide +kernel
theorem dX9_fault_1 : decode cX9_fault 1 = .ok (.ifCond .ne 10, 3) := by decide +kernel
theorem dX9_fault_4 : decode cX9_fault 4 = .ok (.aload_n 0, 1) := by decide +kernel
theorem dX9_fault_5 : decode cX9_fault 5 = .ok (.getfield 343, 3) := by decide +kernel
theorem dX9_fault_8 : decode cX9_fault 8 = .ok (.goto 16, 3) := by decide +kernel
theorem dX9_fault_11 : decode cX9_fault 11 = .ok (.iload_n 1, 1) := by decide +kernel
theorem dX9_fault_12 : decode cX9_fault 12 = .ok (.iconst 1, 1) := by decide +kernel
theorem dX9_fault_13 : decode cX9_fault 13 = .ok (.if_icmp .ne 10, 3) := by decide +kernel
theorem dX9_fault_16 : decode cX9_fault 16 = .ok (.aload_n 0, 1) := by decide +kernel
theorem dX9_fault_17 : decode cX9_fault 17 = .ok (.getfield 46, 3) := by decide +kernel
theorem dX9_fault_20 : decode cX9_fault 20 = .ok (.goto 4, 3) := by decide +kernel
theorem dX9_fault_23 : decode cX9_fault 23 = .ok (.iconst (-1), 1) := by decide +kernel
theorem dX9_fault_24 : decode cX9_fault 24 = .ok (.ireturn, 1) := by decide +kernel
set_option maxHeartbeats 4000000 in
theorem st_X9_fault_0 {X : sj_X} {g : sj_G} {s0 : sj_Mem} {N : Nat} {q : Int × sj_VV} :
    ∀ (a0 : Nat) (x1 : Int) (V : sj_VV), OK9 g a0 → g_X9_fault N a0 x1 V = some q → sj_T X m_X9_fault s0 (some (sj_i q.1), (g, q.2)) 0 [some (sj_r (some a0)), some (sj_i x1)] [] (g, V) := by
  intro a0 x1 V ha0 h
  unfold g_X9_fault at h
  refine r_iload_n (pc := 0) dX9_fault_0 rfl rfl ?_
  refine r_if_ne (pc := 1) (tgt := 11) h dX9_fault_1 (by decide) (fun h => ?_) (fun h => ?_)
  · refine r_aload_n (pc := 4) dX9_fault_4 rfl rfl ?_
    refine r_gIs (pc := 5) dX9_fault_5 fw_X9_343 rfl (ok9 ha0) ?_
    refine r_goto (pc := 8) (tgt := 24) dX9_fault_8 (by decide) ?_
    exact r_irets (pc := 24) h rfl dX9_fault_24
  · refine r_iload_n (pc := 11) dX9_fault_11 rfl rfl ?_
    refine r_iconst (pc := 12) dX9_fault_12 ?_
    refine r_icmp_ne (pc := 13) (tgt := 23) h dX9_fault_13 (by decide) (fun h => ?_) (fun h => ?_)
    · refine r_aload_n (pc := 16) dX9_fault_16 rfl rfl ?_
      refine r_gIs (pc := 17) dX9_fault_17 fw_X9_46 rfl (ok9 ha0) ?_
      refine r_goto (pc := 20) (tgt := 24) dX9_fault_20 (by decide) ?_
      exact r_irets (pc := 24) h rfl dX9_fault_24
    · refine r_iconst (pc := 23) dX9_fault_23 ?_
      exact r_irets (pc := 24) h rfl dX9_fault_24
set_option maxHeartbeats 4000000 in
theorem cg_X9_fault {X : sj_X} {g : sj_G} {N : Nat} {a0 : Nat} {x1 : Int} {V : sj_VV} {q : Int × sj_VV} (ha0 : OK9 g a0) (h : g_X9_fault N a0 x1 V = some q) : sj_C X m_X9_fault [sj_r (some a0), sj_i x1] (g, V) (some (sj_i q.1), (g, q.2)) :=
  sj_C_of (by decide +kernel) (Nat.le_of_ble_eq_true rfl) (lo := [some (sj_r (some a0)), some (sj_i x1)]) rfl (sj_weak (l2 := [some (sj_r (some a0)), some (sj_i x1)]) (⟨rfl, ⟨rfl, trivial⟩⟩) (st_X9_fault_0 a0 x1 V ha0 h))
set_option maxHeartbeats 4000000 in
theorem c_X9_fault {X : sj_X} {N : Nat} {a0 : Nat} {x1 : Int} {s : sj_Mem} {q : Int × sj_Mem} (h : f_X9_fault N a0 x1 s = some q) : sj_C X m_X9_fault [sj_r (some a0), sj_i x1] s (some (sj_i q.1), q.2) := by
  obtain ⟨g, V⟩ := s
  unfold f_X9_fault at h
  obtain ⟨ho, h1⟩ := e_ok_some h
  obtain ⟨q2, h2, rfl⟩ := sj_map_some h1
  exact cg_X9_fault ho h2
theorem dX9_blanks_0 : decode cX9_blanks 0 = .ok (.aload_n 0, 1) := by decide +kernel
theorem dX9_blanks_1 : decode cX9_blanks 1 = .ok (.getfield 349, 3) := by decide +kernel
theorem dX9_blanks_4 : decode cX9_blanks 4 = .ok (.aload_n 0, 1) := by decide +kernel
theorem dX9_blanks_5 : decode cX9_blanks 5 = .ok (.getfield 337, 3) := by decide +kernel
theorem dX9_blanks_8 : decode cX9_blanks 8 = .ok (.if_icmp .ge 30, 3) := by decide +kernel
theorem dX9_blanks_11 : decode cX9_blanks 11 = .ok (.aload_n 0, 1) := by decide +kernel
theorem dX9_blanks_12 : decode cX9_blanks 12 = .ok (.getfield 42, 3) := by decide +kernel
theorem dX9_blanks_15 : decode cX9_blanks 15 = .ok (.aload_n 0, 1) := by decide +kernel
theorem dX9_blanks_16 : decode cX9_blanks 16 = .ok (.getfield 349, 3) := by decide +kernel
theorem dX9_blanks_19 : decode cX9_blanks 19 = .ok (.baload, 1) := by decide +kernel
theorem dX9_blanks_20 : decode cX9_blanks 20 = .ok (.bipush 32, 2) := by decide +kernel
theorem dX9_blanks_22 : decode cX9_blanks 22 = .ok (.if_icmp .ne 16, 3) := by decide +kernel
theorem dX9_blanks_25 : decode cX9_blanks 25 = .ok (.aload_n 0, 1) := by decide +kernel
theorem dX9_blanks_26 : decode cX9_blanks 26 = .ok (.dup, 1) := by decide +kernel
theorem dX9_blanks_27 : decode cX9_blanks 27 = .ok (.getfield 349, 3) := by decide +kernel
theorem dX9_blanks_30 : decode cX9_blanks 30 = .ok (.iconst 1, 1) := by decide +kernel
theorem dX9_blanks_31 : decode cX9_blanks 31 = .ok (.iadd, 1) := by decide +kernel
theorem dX9_blanks_32 : decode cX9_blanks 32 = .ok (.putfield 349, 3) := by decide +kernel
theorem dX9_blanks_35 : decode cX9_blanks 35 = .ok (.goto (-35), 3) := by decide +kernel
theorem dX9_blanks_38 : decode cX9_blanks 38 = .ok (.return_, 1) := by decide +kernel
set_option maxHeartbeats 4000000 in
theorem st_X9_blanks_0_b {X : sj_X} {g : sj_G} {s0 : sj_Mem} {N : Nat} {q : Unit × sj_VV} {k0 : Nat → sj_VV → Option (Unit × sj_VV)} (hk0 : ∀ (a0 : Nat) (V : sj_VV), OK9 g a0 → k0 a0 V = some q → sj_T X m_X9_blanks s0 (none, (g, q.2)) 0 [some (sj_r (some a0))] [] (g, V)) :
    ∀ (a0 : Nat) (V : sj_VV), OK9 g a0 → g_X9_blanks_0_b N k0 a0 V = some q → sj_T X m_X9_blanks s0 (none, (g, q.2)) 0 [some (sj_r (some a0))] [] (g, V) := by
  intro a0 V ha0 h
  unfold g_X9_blanks_0_b at h
  refine r_aload_n (pc := 0) dX9_blanks_0 rfl rfl ?_
  refine r_gIs (pc := 1) dX9_blanks_1 fw_X9_349 rfl (ok9 ha0) ?_
  refine r_aload_n (pc := 4) dX9_blanks_4 rfl rfl ?_
  refine r_gIs (pc := 5) dX9_blanks_5 fw_X9_337 rfl (ok9 ha0) ?_
  refine r_icmp_ge (pc := 8) (tgt := 38) h dX9_blanks_8 (by decide) (fun h => ?_) (fun h => ?_)
  · exact r_vrets (pc := 38) h rfl dX9_blanks_38
  · refine r_aload_n (pc := 11) dX9_blanks_11 rfl rfl ?_
    refine r_gRs (b := a0 + 10) (pc := 12) dX9_blanks_12 fw_X9_42 rfl (ok9 ha0) (ok9_27 ha0).1 ?_
    refine r_aload_n (pc := 15) dX9_blanks_15 rfl rfl ?_
    refine r_gIs (pc := 16) dX9_blanks_16 fw_X9_349 rfl (ok9 ha0) ?_
    refine r_baloads (pc := 19) h dX9_blanks_19 (ok9_27 ha0).2 (fun h => ?_)
    refine r_bipush (pc := 20) dX9_blanks_20 ⟨by decide, by decide⟩ ?_
    refine r_icmp_ne (pc := 22) (tgt := 38) h dX9_blanks_22 (by decide) (fun h => ?_) (fun h => ?_)
    · refine r_aload_n (pc := 25) dX9_blanks_25 rfl rfl ?_
      refine r_dup (pc := 26) dX9_blanks_26 rfl ?_
      refine r_gIs (pc := 27) dX9_blanks_27 fw_X9_349 rfl (ok9 ha0) ?_
      refine r_iconst (pc := 30) dX9_blanks_30 ?_
      refine r_iadd (pc := 31) dX9_blanks_31 ?_
      refine r_pIs (pc := 32) h dX9_blanks_32 fw_X9_349 rfl rfl (nf9_29) (ok9 ha0) (fun V1 h => ?_)
      refine r_goto (pc := 35) (tgt := 0) dX9_blanks_35 (by decide) ?_
      exact sj_weak (l2 := [some (sj_r (some a0))]) (⟨rfl, trivial⟩) (hk0 a0 V1 ha0 h)
    · exact r_vrets (pc := 38) h rfl dX9_blanks_38
set_option maxHeartbeats 4000000 in
theorem st_X9_blanks_0 {X : sj_X} {g : sj_G} {s0 : sj_Mem} {N : Nat} {q : Unit × sj_VV} :
    ∀ (n : Nat) (a0 : Nat) (V : sj_VV), OK9 g a0 → g_X9_blanks_0 N n a0 V = some q → sj_T X m_X9_blanks s0 (none, (g, q.2)) 0 [some (sj_r (some a0))] [] (g, V) := by
  intro n
  induction n with
  | zero => intro a0 V ha0 h; exact nomatch h
  | succ n ih => intro a0 V ha0 h; exact st_X9_blanks_0_b (N := N) ih a0 V ha0 h
set_option maxHeartbeats 4000000 in
theorem cg_X9_blanks {X : sj_X} {g : sj_G} {N : Nat} {a0 : Nat} {V : sj_VV} {q : Unit × sj_VV} (ha0 : OK9 g a0) (h : g_X9_blanks N a0 V = some q) : sj_C X m_X9_blanks [sj_r (some a0)] (g, V) (none, (g, q.2)) :=
  sj_C_of (by decide +kernel) (Nat.le_of_ble_eq_true rfl) (lo := [some (sj_r (some a0))]) rfl (sj_weak (l2 := [some (sj_r (some a0))]) (⟨rfl, trivial⟩) (st_X9_blanks_0 N a0 V ha0 h))
set_option maxHeartbeats 4000000 in
theorem c_X9_blanks {X : sj_X} {N : Nat} {a0 : Nat} {s : sj_Mem} {q : Unit × sj_Mem} (h : f_X9_blanks N a0 s = some q) : sj_C X m_X9_blanks [sj_r (some a0)] s (none, q.2) := by
  obtain ⟨g, V⟩ := s
  unfold f_X9_blanks at h
  obtain ⟨ho, h1⟩ := e_ok_some h
  obtain ⟨q2, h2, rfl⟩ := sj_map_some h1
  exact cg_X9_blanks ho h2
theorem dX9_wordEnd_0 : decode cX9_wordEnd 0 = .ok (.aload_n 0, 1) := by decide +kernel
theorem dX9_wordEnd_1 : decode cX9_wordEnd 1 = .ok (.getfield 349, 3) := by decide +kernel
theorem dX9_wordEnd_4 : decode cX9_wordEnd 4 = .ok (.istore_n 1, 1) := by decide +kernel
theorem dX9_wordEnd_5 : decode cX9_wordEnd 5 = .ok (.iload_n 1, 1) := by decide +kernel
theorem dX9_wordEnd_6 : decode cX9_wordEnd 6 = .ok (.aload_n 0, 1) := by decide +kernel
theorem dX9_wordEnd_7 : decode cX9_wordEnd 7 = .ok (.getfield 337, 3) := by decide +kernel
theorem dX9_wordEnd_10 : decode cX9_wordEnd 10 = .ok (.if_icmp .ge 28, 3) := by decide +kernel
theorem dX9_wordEnd_13 : decode cX9_wordEnd 13 = .ok (.aload_n 0, 1) := by decide +kernel
theorem dX9_wordEnd_14 : decode cX9_wordEnd 14 = .ok (.getfield 42, 3) := by decide +kernel
theorem dX9_wordEnd_17 : decode cX9_wordEnd 17 = .ok (.iload_n 1, 1) := by decide +kernel
theorem dX9_wordEnd_18 : decode cX9_wordEnd 18 = .ok (.baload, 1) := by decide +kernel
theorem dX9_wordEnd_19 : decode cX9_wordEnd 19 = .ok (.i2l, 1) := by decide +kernel
theorem dX9_wordEnd_20 : decode cX9_wordEnd 20 = .ok (.ldc2_w 372, 3) := by decide +kernel
theorem dX9_wordEnd_23 : decode cX9_wordEnd 23 = .ok (.ldc2_w 374, 3) := by decide +kernel
theorem dX9_wordEnd_26 : decode cX9_wordEnd 26 = .ok (.invokestatic 57, 3) := by decide +kernel
theorem dX9_wordEnd_29 : decode cX9_wordEnd 29 = .ok (.ifCond .eq 9, 3) := by decide +kernel
theorem dX9_wordEnd_32 : decode cX9_wordEnd 32 = .ok (.iinc 1 1, 3) := by decide +kernel
theorem dX9_wordEnd_35 : decode cX9_wordEnd 35 = .ok (.goto (-30), 3) := by decide +kernel
theorem dX9_wordEnd_38 : decode cX9_wordEnd 38 = .ok (.iload_n 1, 1) := by decide +kernel
theorem dX9_wordEnd_39 : decode cX9_wordEnd 39 = .ok (.ireturn, 1) := by decide +kernel
set_option maxHeartbeats 4000000 in
theorem st_X9_wordEnd_5_b {X : sj_X} {g : sj_G} {s0 : sj_Mem} {N : Nat} {q : Int × sj_VV} {k5 : Nat → Int → sj_VV → Option (Int × sj_VV)} (hk5 : ∀ (a0 : Nat) (x1 : Int) (V : sj_VV), OK9 g a0 → k5 a0 x1 V = some q → sj_T X m_X9_wordEnd s0 (some (sj_i q.1), (g, q.2)) 5 [some (sj_r (some a0)), some (sj_i x1)] [] (g, V)) :
    ∀ (a0 : Nat) (x1 : Int) (V : sj_VV), OK9 g a0 → g_X9_wordEnd_5_b N k5 a0 x1 V = some q → sj_T X m_X9_wordEnd s0 (some (sj_i q.1), (g, q.2)) 5 [some (sj_r (some a0)), some (sj_i x1)] [] (g, V) := by
  intro a0 x1 V ha0 h
  unfold g_X9_wordEnd_5_b at h
  refine r_iload_n (pc := 5) dX9_wordEnd_5 rfl rfl ?_
  refine r_aload_n (pc := 6) dX9_wordEnd_6 rfl rfl ?_
  refine r_gIs (pc := 7) dX9_wordEnd_7 fw_X9_337 rfl (ok9 ha0) ?_
  refine r_icmp_ge (pc := 10) (tgt := 38) h dX9_wordEnd_10 (by decide) (fun h => ?_) (fun h => ?_)
  · refine r_iload_n (pc := 38) dX9_wordEnd_38 rfl rfl ?_
    exact r_irets (pc := 39) h rfl dX9_wordEnd_39
  · refine r_aload_n (pc := 13) dX9_wordEnd_13 rfl rfl ?_
    refine r_gRs (b := a0 + 10) (pc := 14) dX9_wordEnd_14 fw_X9_42 rfl (ok9 ha0) (ok9_27 ha0).1 ?_
    refine r_iload_n (pc := 17) dX9_wordEnd_17 rfl rfl ?_
    refine r_baloads (pc := 18) h dX9_wordEnd_18 (ok9_27 ha0).2 (fun h => ?_)
    refine r_i2l (pc := 19) h dX9_wordEnd_19 (fun v1 h => ?_)
    refine r_ldc2 (n := 97) (pc := 20) dX9_wordEnd_20 kc_X9_372 ?_
    refine r_ldc2 (n := 122) (pc := 23) dX9_wordEnd_23 kc_X9_374 ?_
    refine r_callSs (pc := 26) (fun v => some (sj_i v)) (As := [sj_j v1, sj_j 97, sj_j 122]) (rest := []) h dX9_wordEnd_26 mw_X9_57 kw_1225 (fun _ _ hc => cg_X9_isIn  hc) rfl ⟨(Nat.le_of_ble_eq_true rfl), (Nat.le_of_ble_eq_true rfl)⟩ (Nat.le_of_ble_eq_true rfl) rfl (fun v3 V2 h => ?_)
    refine r_if_eq (pc := 29) (tgt := 38) h dX9_wordEnd_29 (by decide) (fun h => ?_) (fun h => ?_)
    · refine r_iload_n (pc := 38) dX9_wordEnd_38 rfl rfl ?_
      exact r_irets (pc := 39) h rfl dX9_wordEnd_39
    · refine r_iinc (ln := fun w => [some (sj_r (some a0)), some (sj_i w)]) (pc := 32) h dX9_wordEnd_32 rfl (Nat.le_of_ble_eq_true rfl) (fun _ => rfl) (fun v4 h => ?_)
      refine r_goto (pc := 35) (tgt := 5) dX9_wordEnd_35 (by decide) ?_
      exact sj_weak (l2 := [some (sj_r (some a0)), some (sj_i v4)]) (⟨rfl, ⟨rfl, trivial⟩⟩) (hk5 a0 v4 V2 ha0 h)
set_option maxHeartbeats 4000000 in
theorem st_X9_wordEnd_5 {X : sj_X} {g : sj_G} {s0 : sj_Mem} {N : Nat} {q : Int × sj_VV} :
    ∀ (n : Nat) (a0 : Nat) (x1 : Int) (V : sj_VV), OK9 g a0 → g_X9_wordEnd_5 N n a0 x1 V = some q → sj_T X m_X9_wordEnd s0 (some (sj_i q.1), (g, q.2)) 5 [some (sj_r (some a0)), some (sj_i x1)] [] (g, V) := by
  intro n
  induction n with
  | zero => intro a0 x1 V ha0 h; exact nomatch h
  | succ n ih => intro a0 x1 V ha0 h; exact st_X9_wordEnd_5_b (N := N) ih a0 x1 V ha0 h
set_option maxHeartbeats 4000000 in
theorem st_X9_wordEnd_0 {X : sj_X} {g : sj_G} {s0 : sj_Mem} {N : Nat} {q : Int × sj_VV} :
    ∀ (a0 : Nat) (V : sj_VV), OK9 g a0 → g_X9_wordEnd N a0 V = some q → sj_T X m_X9_wordEnd s0 (some (sj_i q.1), (g, q.2)) 0 [some (sj_r (some a0)), none] [] (g, V) := by
  intro a0 V ha0 h
  unfold g_X9_wordEnd at h
  refine r_aload_n (pc := 0) dX9_wordEnd_0 rfl rfl ?_
  refine r_gIs (pc := 1) dX9_wordEnd_1 fw_X9_349 rfl (ok9 ha0) ?_
  refine r_istore_nL (ln := fun w => [some (sj_r (some a0)), some (sj_i w)]) (pc := 4) h dX9_wordEnd_4 rfl (Nat.le_of_ble_eq_true rfl) (fun _ => rfl) (fun v1 h => ?_)
  exact sj_weak (l2 := [some (sj_r (some a0)), some (sj_i v1)]) (⟨rfl, ⟨rfl, trivial⟩⟩) (st_X9_wordEnd_5 N a0 v1 V ha0 h)
set_option maxHeartbeats 4000000 in
theorem cg_X9_wordEnd {X : sj_X} {g : sj_G} {N : Nat} {a0 : Nat} {V : sj_VV} {q : Int × sj_VV} (ha0 : OK9 g a0) (h : g_X9_wordEnd N a0 V = some q) : sj_C X m_X9_wordEnd [sj_r (some a0)] (g, V) (some (sj_i q.1), (g, q.2)) :=
  sj_C_of (by decide +kernel) (Nat.le_of_ble_eq_true rfl) (lo := [some (sj_r (some a0)), none]) rfl (sj_weak (l2 := [some (sj_r (some a0)), none]) (⟨rfl, trivial⟩) (st_X9_wordEnd_0 a0 V ha0 h))
set_option maxHeartbeats 4000000 in
theorem c_X9_wordEnd {X : sj_X} {N : Nat} {a0 : Nat} {s : sj_Mem} {q : Int × sj_Mem} (h : f_X9_wordEnd N a0 s = some q) : sj_C X m_X9_wordEnd [sj_r (some a0)] s (some (sj_i q.1), q.2) := by
  obtain ⟨g, V⟩ := s
  unfold f_X9_wordEnd at h
  obtain ⟨ho, h1⟩ := e_ok_some h
  obtain ⟨q2, h2, rfl⟩ := sj_map_some h1
  exact cg_X9_wordEnd ho h2
theorem dX9_spells_0 : decode cX9_spells 0 = .ok (.aload_n 0, 1) := by decide +kernel
theorem dX9_spells_1 : decode cX9_spells 1 = .ok (.invokevirtual 376, 3) := by decide +kernel
theorem dX9_spells_4 : decode cX9_spells 4 = .ok (.aload_n 0, 1) := by decide +kernel
theorem dX9_spells_5 : decode cX9_spells 5 = .ok (.getfield 349, 3) := by decide +kernel
theorem dX9_spells_8 : decode cX9_spells 8 = .ok (.iload_n 1, 1) := by decide +kernel
theorem dX9_spells_9 : decode cX9_spells 9 = .ok (.iadd, 1) := by decide +kernel
theorem dX9_spells_10 : decode cX9_spells 10 = .ok (.if_icmp .ne 47, 3) := by decide +kernel
theorem dX9_spells_13 : decode cX9_spells 13 = .ok (.aload_n 0, 1) := by decide +kernel
theorem dX9_spells_14 : decode cX9_spells 14 = .ok (.getfield 42, 3) := by decide +kernel
theorem dX9_spells_17 : decode cX9_spells 17 = .ok (.aload_n 0, 1) := by decide +kernel
theorem dX9_spells_18 : decode cX9_spells 18 = .ok (.getfield 349, 3) := by decide +kernel
theorem dX9_spells_21 : decode cX9_spells 21 = .ok (.baload, 1) := by decide +kernel
theorem dX9_spells_22 : decode cX9_spells 22 = .ok (.iload_n 2, 1) := by decide +kernel
theorem dX9_spells_23 : decode cX9_spells 23 = .ok (.if_icmp .ne 34, 3) := by decide +kernel
theorem dX9_spells_26 : decode cX9_spells 26 = .ok (.aload_n 0, 1) := by decide +kernel
theorem dX9_spells_27 : decode cX9_spells 27 = .ok (.getfield 42, 3) := by decide +kernel
theorem dX9_spells_30 : decode cX9_spells 30 = .ok (.aload_n 0, 1) := by decide +kernel
theorem dX9_spells_31 : decode cX9_spells 31 = .ok (.getfield 349, 3) := by decide +kernel
theorem dX9_spells_34 : decode cX9_spells 34 = .ok (.iconst 1, 1) := by decide +kernel
theorem dX9_spells_35 : decode cX9_spells 35 = .ok (.iadd, 1) := by decide +kernel
theorem dX9_spells_36 : decode cX9_spells 36 = .ok (.baload, 1) := by decide +kernel
theorem dX9_spells_37 : decode cX9_spells 37 = .ok (.iload_n 3, 1) := by decide +kernel
theorem dX9_spells_38 : decode cX9_spells 38 = .ok (.if_icmp .ne 19, 3) := by decide +kernel
theorem dX9_spells_41 : decode cX9_spells 41 = .ok (.aload_n 0, 1) := by decide +kernel
theorem dX9_spells_42 : decode cX9_spells 42 = .ok (.getfield 42, 3) := by decide +kernel
theorem dX9_spells_45 : decode cX9_spells 45 = .ok (.aload_n 0, 1) := by decide +kernel
theorem dX9_spells_46 : decode cX9_spells 46 = .ok (.getfield 349, 3) := by decide +kernel
theorem dX9_spells_49 : decode cX9_spells 49 = .ok (.iconst 2, 1) := by decide +kernel
theorem dX9_spells_50 : decode cX9_spells 50 = .ok (.iadd, 1) := by decide +kernel
theorem dX9_spells_51 : decode cX9_spells 51 = .ok (.baload, 1) := by decide +kernel
theorem dX9_spells_52 : decode cX9_spells 52 = .ok (.iload 4, 2) := by decide +kernel
theorem dX9_spells_54 : decode cX9_spells 54 = .ok (.if_icmp .eq 5, 3) := by decide +kernel
theorem dX9_spells_57 : decode cX9_spells 57 = .ok (.iconst 0, 1) := by decide +kernel
theorem dX9_spells_58 : decode cX9_spells 58 = .ok (.ireturn, 1) := by decide +kernel
theorem dX9_spells_59 : decode cX9_spells 59 = .ok (.iload_n 1, 1) := by decide +kernel
theorem dX9_spells_60 : decode cX9_spells 60 = .ok (.iconst 3, 1) := by decide +kernel
theorem dX9_spells_61 : decode cX9_spells 61 = .ok (.if_icmp .le 19, 3) := by decide +kernel
theorem dX9_spells_64 : decode cX9_spells 64 = .ok (.aload_n 0, 1) := by decide +kernel
theorem dX9_spells_65 : decode cX9_spells 65 = .ok (.getfield 42, 3) := by decide +kernel
theorem dX9_spells_68 : decode cX9_spells 68 = .ok (.aload_n 0, 1) := by decide +kernel
theorem dX9_spells_69 : decode cX9_spells 69 = .ok (.getfield 349, 3) := by decide +kernel
theorem dX9_spells_72 : decode cX9_spells 72 = .ok (.iconst 3, 1) := by decide +kernel
theorem dX9_spells_73 : decode cX9_spells 73 = .ok (.iadd, 1) := by decide +kernel
theorem dX9_spells_74 : decode cX9_spells 74 = .ok (.baload, 1) := by decide +kernel
theorem dX9_spells_75 : decode cX9_spells 75 = .ok (.iload 5, 2) := by decide +kernel
theorem dX9_spells_77 : decode cX9_spells 77 = .ok (.if_icmp .ne 24, 3) := by decide +kernel
theorem dX9_spells_80 : decode cX9_spells 80 = .ok (.iload_n 1, 1) := by decide +kernel
theorem dX9_spells_81 : decode cX9_spells 81 = .ok (.iconst 4, 1) := by decide +kernel
theorem dX9_spells_82 : decode cX9_spells 82 = .ok (.if_icmp .le 21, 3) := by decide +kernel
theorem dX9_spells_85 : decode cX9_spells 85 = .ok (.aload_n 0, 1) := by decide +kernel
theorem dX9_spells_86 : decode cX9_spells 86 = .ok (.getfield 42, 3) := by decide +kernel
theorem dX9_spells_89 : decode cX9_spells 89 = .ok (.aload_n 0, 1) := by decide +kernel
theorem dX9_spells_90 : decode cX9_spells 90 = .ok (.getfield 349, 3) := by decide +kernel
theorem dX9_spells_93 : decode cX9_spells 93 = .ok (.iconst 4, 1) := by decide +kernel
theorem dX9_spells_94 : decode cX9_spells 94 = .ok (.iadd, 1) := by decide +kernel
theorem dX9_spells_95 : decode cX9_spells 95 = .ok (.baload, 1) := by decide +kernel
theorem dX9_spells_96 : decode cX9_spells 96 = .ok (.iload 6, 2) := by decide +kernel
theorem dX9_spells_98 : decode cX9_spells 98 = .ok (.if_icmp .eq 5, 3) := by decide +kernel
theorem dX9_spells_101 : decode cX9_spells 101 = .ok (.iconst 0, 1) := by decide +kernel
theorem dX9_spells_102 : decode cX9_spells 102 = .ok (.ireturn, 1) := by decide +kernel
theorem dX9_spells_103 : decode cX9_spells 103 = .ok (.iload_n 1, 1) := by decide +kernel
theorem dX9_spells_104 : decode cX9_spells 104 = .ok (.bipush 6, 2) := by decide +kernel
theorem dX9_spells_106 : decode cX9_spells 106 = .ok (.if_icmp .lt 19, 3) := by decide +kernel
theorem dX9_spells_109 : decode cX9_spells 109 = .ok (.aload_n 0, 1) := by decide +kernel
theorem dX9_spells_110 : decode cX9_spells 110 = .ok (.getfield 42, 3) := by decide +kernel
theorem dX9_spells_113 : decode cX9_spells 113 = .ok (.aload_n 0, 1) := by decide +kernel
theorem dX9_spells_114 : decode cX9_spells 114 = .ok (.getfield 349, 3) := by decide +kernel
theorem dX9_spells_117 : decode cX9_spells 117 = .ok (.iconst 5, 1) := by decide +kernel
theorem dX9_spells_118 : decode cX9_spells 118 = .ok (.iadd, 1) := by decide +kernel
theorem dX9_spells_119 : decode cX9_spells 119 = .ok (.baload, 1) := by decide +kernel
theorem dX9_spells_120 : decode cX9_spells 120 = .ok (.iload 7, 2) := by decide +kernel
theorem dX9_spells_122 : decode cX9_spells 122 = .ok (.if_icmp .ne 30, 3) := by decide +kernel
theorem dX9_spells_125 : decode cX9_spells 125 = .ok (.iload_n 1, 1) := by decide +kernel
theorem dX9_spells_126 : decode cX9_spells 126 = .ok (.bipush 7, 2) := by decide +kernel
theorem dX9_spells_128 : decode cX9_spells 128 = .ok (.if_icmp .lt 20, 3) := by decide +kernel
theorem dX9_spells_131 : decode cX9_spells 131 = .ok (.aload_n 0, 1) := by decide +kernel
theorem dX9_spells_132 : decode cX9_spells 132 = .ok (.getfield 42, 3) := by decide +kernel
theorem dX9_spells_135 : decode cX9_spells 135 = .ok (.aload_n 0, 1) := by decide +kernel
theorem dX9_spells_136 : decode cX9_spells 136 = .ok (.getfield 349, 3) := by decide +kernel
theorem dX9_spells_139 : decode cX9_spells 139 = .ok (.bipush 6, 2) := by decide +kernel
theorem dX9_spells_141 : decode cX9_spells 141 = .ok (.iadd, 1) := by decide +kernel
theorem dX9_spells_142 : decode cX9_spells 142 = .ok (.baload, 1) := by decide +kernel
theorem dX9_spells_143 : decode cX9_spells 143 = .ok (.iload 8, 2) := by decide +kernel
theorem dX9_spells_145 : decode cX9_spells 145 = .ok (.if_icmp .ne 7, 3) := by decide +kernel
theorem dX9_spells_148 : decode cX9_spells 148 = .ok (.iconst 1, 1) := by decide +kernel
theorem dX9_spells_149 : decode cX9_spells 149 = .ok (.goto 4, 3) := by decide +kernel
theorem dX9_spells_152 : decode cX9_spells 152 = .ok (.iconst 0, 1) := by decide +kernel
theorem dX9_spells_153 : decode cX9_spells 153 = .ok (.ireturn, 1) := by decide +kernel
set_option maxHeartbeats 4000000 in
theorem st_X9_spells_148 {X : sj_X} {g : sj_G} {s0 : sj_Mem} {N : Nat} {q : Int × sj_VV} :
    ∀ (V : sj_VV), g_X9_spells_148 N V = some q → sj_T X m_X9_spells s0 (some (sj_i q.1), (g, q.2)) 148 [none, none, none, none, none, none, none, none, none] [] (g, V) := by
  intro  V  h
  unfold g_X9_spells_148 at h
  refine r_iconst (pc := 148) dX9_spells_148 ?_
  refine r_goto (pc := 149) (tgt := 153) dX9_spells_149 (by decide) ?_
  exact r_zrets (pc := 153) h rfl dX9_spells_153
set_option maxHeartbeats 4000000 in
theorem st_X9_spells_125 {X : sj_X} {g : sj_G} {s0 : sj_Mem} {N : Nat} {q : Int × sj_VV} :
    ∀ (a0 : Nat) (x1 : Int) (x8 : Int) (V : sj_VV), OK9 g a0 → g_X9_spells_125 N a0 x1 x8 V = some q → sj_T X m_X9_spells s0 (some (sj_i q.1), (g, q.2)) 125 [some (sj_r (some a0)), some (sj_i x1), none, none, none, none, none, none, some (sj_i x8)] [] (g, V) := by
  intro a0 x1 x8 V ha0 h
  unfold g_X9_spells_125 at h
  refine r_iload_n (pc := 125) dX9_spells_125 rfl rfl ?_
  refine r_bipush (pc := 126) dX9_spells_126 ⟨by decide, by decide⟩ ?_
  refine r_icmp_lt (pc := 128) (tgt := 148) h dX9_spells_128 (by decide) (fun h => ?_) (fun h => ?_)
  · exact sj_weak (l2 := [none, none, none, none, none, none, none, none, none]) (trivial) (st_X9_spells_148 V h)
  · refine r_aload_n (pc := 131) dX9_spells_131 rfl rfl ?_
    refine r_gRs (b := a0 + 10) (pc := 132) dX9_spells_132 fw_X9_42 rfl (ok9 ha0) (ok9_27 ha0).1 ?_
    refine r_aload_n (pc := 135) dX9_spells_135 rfl rfl ?_
    refine r_gIs (pc := 136) dX9_spells_136 fw_X9_349 rfl (ok9 ha0) ?_
    refine r_bipush (pc := 139) dX9_spells_139 ⟨by decide, by decide⟩ ?_
    refine r_iadd (pc := 141) dX9_spells_141 ?_
    refine r_baloads (pc := 142) h dX9_spells_142 (ok9_27 ha0).2 (fun h => ?_)
    refine r_iload (pc := 143) dX9_spells_143 rfl ?_
    refine r_icmp_ne (pc := 145) (tgt := 152) h dX9_spells_145 (by decide) (fun h => ?_) (fun h => ?_)
    · exact sj_weak (l2 := [none, none, none, none, none, none, none, none, none]) (trivial) (st_X9_spells_148 V h)
    · refine r_iconst (pc := 152) dX9_spells_152 ?_
      exact r_zrets (pc := 153) h rfl dX9_spells_153
set_option maxHeartbeats 4000000 in
theorem st_X9_spells_103 {X : sj_X} {g : sj_G} {s0 : sj_Mem} {N : Nat} {q : Int × sj_VV} :
    ∀ (a0 : Nat) (x1 : Int) (x7 : Int) (x8 : Int) (V : sj_VV), OK9 g a0 → g_X9_spells_103 N a0 x1 x7 x8 V = some q → sj_T X m_X9_spells s0 (some (sj_i q.1), (g, q.2)) 103 [some (sj_r (some a0)), some (sj_i x1), none, none, none, none, none, some (sj_i x7), some (sj_i x8)] [] (g, V) := by
  intro a0 x1 x7 x8 V ha0 h
  unfold g_X9_spells_103 at h
  refine r_iload_n (pc := 103) dX9_spells_103 rfl rfl ?_
  refine r_bipush (pc := 104) dX9_spells_104 ⟨by decide, by decide⟩ ?_
  refine r_icmp_lt (pc := 106) (tgt := 125) h dX9_spells_106 (by decide) (fun h => ?_) (fun h => ?_)
  · exact sj_weak (l2 := [some (sj_r (some a0)), some (sj_i x1), none, none, none, none, none, none, some (sj_i x8)]) (⟨rfl, ⟨rfl, ⟨rfl, trivial⟩⟩⟩) (st_X9_spells_125 a0 x1 x8 V ha0 h)
  · refine r_aload_n (pc := 109) dX9_spells_109 rfl rfl ?_
    refine r_gRs (b := a0 + 10) (pc := 110) dX9_spells_110 fw_X9_42 rfl (ok9 ha0) (ok9_27 ha0).1 ?_
    refine r_aload_n (pc := 113) dX9_spells_113 rfl rfl ?_
    refine r_gIs (pc := 114) dX9_spells_114 fw_X9_349 rfl (ok9 ha0) ?_
    refine r_iconst (pc := 117) dX9_spells_117 ?_
    refine r_iadd (pc := 118) dX9_spells_118 ?_
    refine r_baloads (pc := 119) h dX9_spells_119 (ok9_27 ha0).2 (fun h => ?_)
    refine r_iload (pc := 120) dX9_spells_120 rfl ?_
    refine r_icmp_ne (pc := 122) (tgt := 152) h dX9_spells_122 (by decide) (fun h => ?_) (fun h => ?_)
    · exact sj_weak (l2 := [some (sj_r (some a0)), some (sj_i x1), none, none, none, none, none, none, some (sj_i x8)]) (⟨rfl, ⟨rfl, ⟨rfl, trivial⟩⟩⟩) (st_X9_spells_125 a0 x1 x8 V ha0 h)
    · refine r_iconst (pc := 152) dX9_spells_152 ?_
      exact r_zrets (pc := 153) h rfl dX9_spells_153
set_option maxHeartbeats 4000000 in
theorem st_X9_spells_80 {X : sj_X} {g : sj_G} {s0 : sj_Mem} {N : Nat} {q : Int × sj_VV} :
    ∀ (a0 : Nat) (x1 : Int) (x6 : Int) (x7 : Int) (x8 : Int) (V : sj_VV), OK9 g a0 → g_X9_spells_80 N a0 x1 x6 x7 x8 V = some q → sj_T X m_X9_spells s0 (some (sj_i q.1), (g, q.2)) 80 [some (sj_r (some a0)), some (sj_i x1), none, none, none, none, some (sj_i x6), some (sj_i x7), some (sj_i x8)] [] (g, V) := by
  intro a0 x1 x6 x7 x8 V ha0 h
  unfold g_X9_spells_80 at h
  refine r_iload_n (pc := 80) dX9_spells_80 rfl rfl ?_
  refine r_iconst (pc := 81) dX9_spells_81 ?_
  refine r_icmp_le (pc := 82) (tgt := 103) h dX9_spells_82 (by decide) (fun h => ?_) (fun h => ?_)
  · exact sj_weak (l2 := [some (sj_r (some a0)), some (sj_i x1), none, none, none, none, none, some (sj_i x7), some (sj_i x8)]) (⟨rfl, ⟨rfl, ⟨rfl, ⟨rfl, trivial⟩⟩⟩⟩) (st_X9_spells_103 a0 x1 x7 x8 V ha0 h)
  · refine r_aload_n (pc := 85) dX9_spells_85 rfl rfl ?_
    refine r_gRs (b := a0 + 10) (pc := 86) dX9_spells_86 fw_X9_42 rfl (ok9 ha0) (ok9_27 ha0).1 ?_
    refine r_aload_n (pc := 89) dX9_spells_89 rfl rfl ?_
    refine r_gIs (pc := 90) dX9_spells_90 fw_X9_349 rfl (ok9 ha0) ?_
    refine r_iconst (pc := 93) dX9_spells_93 ?_
    refine r_iadd (pc := 94) dX9_spells_94 ?_
    refine r_baloads (pc := 95) h dX9_spells_95 (ok9_27 ha0).2 (fun h => ?_)
    refine r_iload (pc := 96) dX9_spells_96 rfl ?_
    refine r_icmp_eq (pc := 98) (tgt := 103) h dX9_spells_98 (by decide) (fun h => ?_) (fun h => ?_)
    · exact sj_weak (l2 := [some (sj_r (some a0)), some (sj_i x1), none, none, none, none, none, some (sj_i x7), some (sj_i x8)]) (⟨rfl, ⟨rfl, ⟨rfl, ⟨rfl, trivial⟩⟩⟩⟩) (st_X9_spells_103 a0 x1 x7 x8 V ha0 h)
    · refine r_iconst (pc := 101) dX9_spells_101 ?_
      exact r_zrets (pc := 102) h rfl dX9_spells_102
set_option maxHeartbeats 4000000 in
theorem st_X9_spells_0 {X : sj_X} {g : sj_G} {s0 : sj_Mem} {N : Nat} {q : Int × sj_VV} :
    ∀ (a0 : Nat) (x1 : Int) (x2 : Int) (x3 : Int) (x4 : Int) (x5 : Int) (x6 : Int) (x7 : Int) (x8 : Int) (V : sj_VV), OK9 g a0 → g_X9_spells N a0 x1 x2 x3 x4 x5 x6 x7 x8 V = some q → sj_T X m_X9_spells s0 (some (sj_i q.1), (g, q.2)) 0 [some (sj_r (some a0)), some (sj_i x1), some (sj_i x2), some (sj_i x3), some (sj_i x4), some (sj_i x5), some (sj_i x6), some (sj_i x7), some (sj_i x8)] [] (g, V) := by
  intro a0 x1 x2 x3 x4 x5 x6 x7 x8 V ha0 h
  unfold g_X9_spells at h
  refine r_aload_n (pc := 0) dX9_spells_0 rfl rfl ?_
  refine r_callVs (pc := 1) (fun v => some (sj_i v)) (As := []) (rest := []) (b := a0) (ok9 ha0) h dX9_spells_1 mw_X9_376 vw_X9_wordEnd (fun _ _ hc => cg_X9_wordEnd ha0 hc) rfl ⟨(Nat.le_of_ble_eq_true rfl), (Nat.le_of_ble_eq_true rfl)⟩ (Nat.le_of_ble_eq_true rfl) rfl (fun v2 V1 h => ?_)
  refine r_aload_n (pc := 4) dX9_spells_4 rfl rfl ?_
  refine r_gIs (pc := 5) dX9_spells_5 fw_X9_349 rfl (ok9 ha0) ?_
  refine r_iload_n (pc := 8) dX9_spells_8 rfl rfl ?_
  refine r_iadd (pc := 9) dX9_spells_9 ?_
  refine r_icmp_ne (pc := 10) (tgt := 57) h dX9_spells_10 (by decide) (fun h => ?_) (fun h => ?_)
  · refine r_aload_n (pc := 13) dX9_spells_13 rfl rfl ?_
    refine r_gRs (b := a0 + 10) (pc := 14) dX9_spells_14 fw_X9_42 rfl (ok9 ha0) (ok9_27 ha0).1 ?_
    refine r_aload_n (pc := 17) dX9_spells_17 rfl rfl ?_
    refine r_gIs (pc := 18) dX9_spells_18 fw_X9_349 rfl (ok9 ha0) ?_
    refine r_baloads (pc := 21) h dX9_spells_21 (ok9_27 ha0).2 (fun h => ?_)
    refine r_iload_n (pc := 22) dX9_spells_22 rfl rfl ?_
    refine r_icmp_ne (pc := 23) (tgt := 57) h dX9_spells_23 (by decide) (fun h => ?_) (fun h => ?_)
    · refine r_aload_n (pc := 26) dX9_spells_26 rfl rfl ?_
      refine r_gRs (b := a0 + 10) (pc := 27) dX9_spells_27 fw_X9_42 rfl (ok9 ha0) (ok9_27 ha0).1 ?_
      refine r_aload_n (pc := 30) dX9_spells_30 rfl rfl ?_
      refine r_gIs (pc := 31) dX9_spells_31 fw_X9_349 rfl (ok9 ha0) ?_
      refine r_iconst (pc := 34) dX9_spells_34 ?_
      refine r_iadd (pc := 35) dX9_spells_35 ?_
      refine r_baloads (pc := 36) h dX9_spells_36 (ok9_27 ha0).2 (fun h => ?_)
      refine r_iload_n (pc := 37) dX9_spells_37 rfl rfl ?_
      refine r_icmp_ne (pc := 38) (tgt := 57) h dX9_spells_38 (by decide) (fun h => ?_) (fun h => ?_)
      · refine r_aload_n (pc := 41) dX9_spells_41 rfl rfl ?_
        refine r_gRs (b := a0 + 10) (pc := 42) dX9_spells_42 fw_X9_42 rfl (ok9 ha0) (ok9_27 ha0).1 ?_
        refine r_aload_n (pc := 45) dX9_spells_45 rfl rfl ?_
        refine r_gIs (pc := 46) dX9_spells_46 fw_X9_349 rfl (ok9 ha0) ?_
        refine r_iconst (pc := 49) dX9_spells_49 ?_
        refine r_iadd (pc := 50) dX9_spells_50 ?_
        refine r_baloads (pc := 51) h dX9_spells_51 (ok9_27 ha0).2 (fun h => ?_)
        refine r_iload (pc := 52) dX9_spells_52 rfl ?_
        refine r_icmp_eq (pc := 54) (tgt := 59) h dX9_spells_54 (by decide) (fun h => ?_) (fun h => ?_)
        · refine r_iload_n (pc := 59) dX9_spells_59 rfl rfl ?_
          refine r_iconst (pc := 60) dX9_spells_60 ?_
          refine r_icmp_le (pc := 61) (tgt := 80) h dX9_spells_61 (by decide) (fun h => ?_) (fun h => ?_)
          · exact sj_weak (l2 := [some (sj_r (some a0)), some (sj_i x1), none, none, none, none, some (sj_i x6), some (sj_i x7), some (sj_i x8)]) (⟨rfl, ⟨rfl, ⟨rfl, ⟨rfl, ⟨rfl, trivial⟩⟩⟩⟩⟩) (st_X9_spells_80 a0 x1 x6 x7 x8 V1 ha0 h)
          · refine r_aload_n (pc := 64) dX9_spells_64 rfl rfl ?_
            refine r_gRs (b := a0 + 10) (pc := 65) dX9_spells_65 fw_X9_42 rfl (ok9 ha0) (ok9_27 ha0).1 ?_
            refine r_aload_n (pc := 68) dX9_spells_68 rfl rfl ?_
            refine r_gIs (pc := 69) dX9_spells_69 fw_X9_349 rfl (ok9 ha0) ?_
            refine r_iconst (pc := 72) dX9_spells_72 ?_
            refine r_iadd (pc := 73) dX9_spells_73 ?_
            refine r_baloads (pc := 74) h dX9_spells_74 (ok9_27 ha0).2 (fun h => ?_)
            refine r_iload (pc := 75) dX9_spells_75 rfl ?_
            refine r_icmp_ne (pc := 77) (tgt := 101) h dX9_spells_77 (by decide) (fun h => ?_) (fun h => ?_)
            · exact sj_weak (l2 := [some (sj_r (some a0)), some (sj_i x1), none, none, none, none, some (sj_i x6), some (sj_i x7), some (sj_i x8)]) (⟨rfl, ⟨rfl, ⟨rfl, ⟨rfl, ⟨rfl, trivial⟩⟩⟩⟩⟩) (st_X9_spells_80 a0 x1 x6 x7 x8 V1 ha0 h)
            · refine r_iconst (pc := 101) dX9_spells_101 ?_
              exact r_zrets (pc := 102) h rfl dX9_spells_102
        · refine r_iconst (pc := 57) dX9_spells_57 ?_
          exact r_zrets (pc := 58) h rfl dX9_spells_58
      · refine r_iconst (pc := 57) dX9_spells_57 ?_
        exact r_zrets (pc := 58) h rfl dX9_spells_58
    · refine r_iconst (pc := 57) dX9_spells_57 ?_
      exact r_zrets (pc := 58) h rfl dX9_spells_58
  · refine r_iconst (pc := 57) dX9_spells_57 ?_
    exact r_zrets (pc := 58) h rfl dX9_spells_58
set_option maxHeartbeats 4000000 in
theorem cg_X9_spells {X : sj_X} {g : sj_G} {N : Nat} {a0 : Nat} {x1 : Int} {x2 : Int} {x3 : Int} {x4 : Int} {x5 : Int} {x6 : Int} {x7 : Int} {x8 : Int} {V : sj_VV} {q : Int × sj_VV} (ha0 : OK9 g a0) (h : g_X9_spells N a0 x1 x2 x3 x4 x5 x6 x7 x8 V = some q) : sj_C X m_X9_spells [sj_r (some a0), sj_i x1, sj_i x2, sj_i x3, sj_i x4, sj_i x5, sj_i x6, sj_i x7, sj_i x8] (g, V) (some (sj_i q.1), (g, q.2)) :=
  sj_C_of (by decide +kernel) (Nat.le_of_ble_eq_true rfl) (lo := [some (sj_r (some a0)), some (sj_i x1), some (sj_i x2), some (sj_i x3), some (sj_i x4), some (sj_i x5), some (sj_i x6), some (sj_i x7), some (sj_i x8)]) rfl (sj_weak (l2 := [some (sj_r (some a0)), some (sj_i x1), some (sj_i x2), some (sj_i x3), some (sj_i x4), some (sj_i x5), some (sj_i x6), some (sj_i x7), some (sj_i x8)]) (⟨rfl, ⟨rfl, ⟨rfl, ⟨rfl, ⟨rfl, ⟨rfl, ⟨rfl, ⟨rfl, ⟨rfl, trivial⟩⟩⟩⟩⟩⟩⟩⟩⟩) (st_X9_spells_0 a0 x1 x2 x3 x4 x5 x6 x7 x8 V ha0 h))
set_option maxHeartbeats 4000000 in
theorem c_X9_spells {X : sj_X} {N : Nat} {a0 : Nat} {x1 : Int} {x2 : Int} {x3 : Int} {x4 : Int} {x5 : Int} {x6 : Int} {x7 : Int} {x8 : Int} {s : sj_Mem} {q : Int × sj_Mem} (h : f_X9_spells N a0 x1 x2 x3 x4 x5 x6 x7 x8 s = some q) : sj_C X m_X9_spells [sj_r (some a0), sj_i x1, sj_i x2, sj_i x3, sj_i x4, sj_i x5, sj_i x6, sj_i x7, sj_i x8] s (some (sj_i q.1), q.2) := by
  obtain ⟨g, V⟩ := s
  unfold f_X9_spells at h
  obtain ⟨ho, h1⟩ := e_ok_some h
  obtain ⟨q2, h2, rfl⟩ := sj_map_some h1
  exact cg_X9_spells ho h2
theorem dX9_wrong_0 : decode cX9_wrong 0 = .ok (.aload_n 0, 1) := by decide +kernel
theorem dX9_wrong_1 : decode cX9_wrong 1 = .ok (.getfield 346, 3) := by decide +kernel
theorem dX9_wrong_4 : decode cX9_wrong 4 = .ok (.ifCond .eq 4, 3) := by decide +kernel
theorem dX9_wrong_7 : decode cX9_wrong 7 = .ok (.return_, 1) := by decide +kernel
theorem dX9_wrong_8 : decode cX9_wrong 8 = .ok (.aload_n 0, 1) := by decide +kernel
theorem dX9_wrong_9 : decode cX9_wrong 9 = .ok (.iconst 1, 1) := by decide +kernel
theorem dX9_wrong_10 : decode cX9_wrong 10 = .ok (.putfield 346, 3) := by decide +kernel
theorem dX9_wrong_13 : decode cX9_wrong 13 = .ok (.aload_n 0, 1) := by decide +kernel
theorem dX9_wrong_14 : decode cX9_wrong 14 = .ok (.iload_n 1, 1) := by decide +kernel
theorem dX9_wrong_15 : decode cX9_wrong 15 = .ok (.putfield 343, 3) := by decide +kernel
theorem dX9_wrong_18 : decode cX9_wrong 18 = .ok (.aload_n 0, 1) := by decide +kernel
theorem dX9_wrong_19 : decode cX9_wrong 19 = .ok (.iload_n 2, 1) := by decide +kernel
theorem dX9_wrong_20 : decode cX9_wrong 20 = .ok (.putfield 46, 3) := by decide +kernel
theorem dX9_wrong_23 : decode cX9_wrong 23 = .ok (.return_, 1) := by decide +kernel
set_option maxHeartbeats 4000000 in
theorem st_X9_wrong_0 {X : sj_X} {g : sj_G} {s0 : sj_Mem} {N : Nat} {q : Unit × sj_VV} :
    ∀ (a0 : Nat) (x1 : Int) (x2 : Int) (V : sj_VV), OK9 g a0 → g_X9_wrong N a0 x1 x2 V = some q → sj_T X m_X9_wrong s0 (none, (g, q.2)) 0 [some (sj_r (some a0)), some (sj_i x1), some (sj_i x2)] [] (g, V) := by
  intro a0 x1 x2 V ha0 h
  unfold g_X9_wrong at h
  refine r_aload_n (pc := 0) dX9_wrong_0 rfl rfl ?_
  refine r_gIs (pc := 1) dX9_wrong_1 fw_X9_346 rfl (ok9 ha0) ?_
  refine r_if_eq (pc := 4) (tgt := 8) h dX9_wrong_4 (by decide) (fun h => ?_) (fun h => ?_)
  · refine r_aload_n (pc := 8) dX9_wrong_8 rfl rfl ?_
    refine r_iconst (pc := 9) dX9_wrong_9 ?_
    refine r_pZs (pc := 10) h dX9_wrong_10 fw_X9_346 rfl rfl (nf9_32) (ok9 ha0) (fun V1 h => ?_)
    refine r_aload_n (pc := 13) dX9_wrong_13 rfl rfl ?_
    refine r_iload_n (pc := 14) dX9_wrong_14 rfl rfl ?_
    refine r_pIs (pc := 15) h dX9_wrong_15 fw_X9_343 rfl rfl (nf9_30) (ok9 ha0) (fun V2 h => ?_)
    refine r_aload_n (pc := 18) dX9_wrong_18 rfl rfl ?_
    refine r_iload_n (pc := 19) dX9_wrong_19 rfl rfl ?_
    refine r_pIs (pc := 20) h dX9_wrong_20 fw_X9_46 rfl rfl (nf9_31) (ok9 ha0) (fun V3 h => ?_)
    exact r_vrets (pc := 23) h rfl dX9_wrong_23
  · exact r_vrets (pc := 7) h rfl dX9_wrong_7
set_option maxHeartbeats 4000000 in
theorem cg_X9_wrong {X : sj_X} {g : sj_G} {N : Nat} {a0 : Nat} {x1 : Int} {x2 : Int} {V : sj_VV} {q : Unit × sj_VV} (ha0 : OK9 g a0) (h : g_X9_wrong N a0 x1 x2 V = some q) : sj_C X m_X9_wrong [sj_r (some a0), sj_i x1, sj_i x2] (g, V) (none, (g, q.2)) :=
  sj_C_of (by decide +kernel) (Nat.le_of_ble_eq_true rfl) (lo := [some (sj_r (some a0)), some (sj_i x1), some (sj_i x2)]) rfl (sj_weak (l2 := [some (sj_r (some a0)), some (sj_i x1), some (sj_i x2)]) (⟨rfl, ⟨rfl, ⟨rfl, trivial⟩⟩⟩) (st_X9_wrong_0 a0 x1 x2 V ha0 h))
set_option maxHeartbeats 4000000 in
theorem c_X9_wrong {X : sj_X} {N : Nat} {a0 : Nat} {x1 : Int} {x2 : Int} {s : sj_Mem} {q : Unit × sj_Mem} (h : f_X9_wrong N a0 x1 x2 s = some q) : sj_C X m_X9_wrong [sj_r (some a0), sj_i x1, sj_i x2] s (none, q.2) := by
  obtain ⟨g, V⟩ := s
  unfold f_X9_wrong at h
  obtain ⟨ho, h1⟩ := e_ok_some h
  obtain ⟨q2, h2, rfl⟩ := sj_map_some h1
  exact cg_X9_wrong ho h2
theorem dX9_isDigitNext_0 : decode cX9_isDigitNext 0 = .ok (.aload_n 0, 1) := by decide +kernel
theorem dX9_isDigitNext_1 : decode cX9_isDigitNext 1 = .ok (.invokevirtual 352, 3) := by decide +kernel
theorem dX9_isDigitNext_4 : decode cX9_isDigitNext 4 = .ok (.aload_n 0, 1) := by decide +kernel
theorem dX9_isDigitNext_5 : decode cX9_isDigitNext 5 = .ok (.getfield 349, 3) := by decide +kernel
theorem dX9_isDigitNext_8 : decode cX9_isDigitNext 8 = .ok (.aload_n 0, 1) := by decide +kernel
theorem dX9_isDigitNext_9 : decode cX9_isDigitNext 9 = .ok (.getfield 337, 3) := by decide +kernel
theorem dX9_isDigitNext_12 : decode cX9_isDigitNext 12 = .ok (.if_icmp .ge 29, 3) := by decide +kernel
theorem dX9_isDigitNext_15 : decode cX9_isDigitNext 15 = .ok (.aload_n 0, 1) := by decide +kernel
theorem dX9_isDigitNext_16 : decode cX9_isDigitNext 16 = .ok (.getfield 42, 3) := by decide +kernel
theorem dX9_isDigitNext_19 : decode cX9_isDigitNext 19 = .ok (.aload_n 0, 1) := by decide +kernel
theorem dX9_isDigitNext_20 : decode cX9_isDigitNext 20 = .ok (.getfield 349, 3) := by decide +kernel
theorem dX9_isDigitNext_23 : decode cX9_isDigitNext 23 = .ok (.baload, 1) := by decide +kernel
theorem dX9_isDigitNext_24 : decode cX9_isDigitNext 24 = .ok (.i2l, 1) := by decide +kernel
theorem dX9_isDigitNext_25 : decode cX9_isDigitNext 25 = .ok (.ldc2_w 355, 3) := by decide +kernel
theorem dX9_isDigitNext_28 : decode cX9_isDigitNext 28 = .ok (.ldc2_w 357, 3) := by decide +kernel
theorem dX9_isDigitNext_31 : decode cX9_isDigitNext 31 = .ok (.invokestatic 57, 3) := by decide +kernel
theorem dX9_isDigitNext_34 : decode cX9_isDigitNext 34 = .ok (.ifCond .eq 7, 3) := by decide +kernel
theorem dX9_isDigitNext_37 : decode cX9_isDigitNext 37 = .ok (.iconst 1, 1) := by decide +kernel
theorem dX9_isDigitNext_38 : decode cX9_isDigitNext 38 = .ok (.goto 4, 3) := by decide +kernel
theorem dX9_isDigitNext_41 : decode cX9_isDigitNext 41 = .ok (.iconst 0, 1) := by decide +kernel
theorem dX9_isDigitNext_42 : decode cX9_isDigitNext 42 = .ok (.ireturn, 1) := by decide +kernel
set_option maxHeartbeats 4000000 in
theorem st_X9_isDigitNext_0 {X : sj_X} {g : sj_G} {s0 : sj_Mem} {N : Nat} {q : Int × sj_VV} :
    ∀ (a0 : Nat) (V : sj_VV), OK9 g a0 → g_X9_isDigitNext N a0 V = some q → sj_T X m_X9_isDigitNext s0 (some (sj_i q.1), (g, q.2)) 0 [some (sj_r (some a0))] [] (g, V) := by
  intro a0 V ha0 h
  unfold g_X9_isDigitNext at h
  refine r_aload_n (pc := 0) dX9_isDigitNext_0 rfl rfl ?_
  refine r_callVs (pc := 1) (fun _ => none) (As := []) (rest := []) (b := a0) (ok9 ha0) h dX9_isDigitNext_1 mw_X9_352 vw_X9_blanks (fun _ _ hc => cg_X9_blanks ha0 hc) rfl ⟨(Nat.le_of_ble_eq_true rfl), (Nat.le_of_ble_eq_true rfl)⟩ (Nat.le_of_ble_eq_true rfl) rfl (fun _u V1 h => ?_)
  refine r_aload_n (pc := 4) dX9_isDigitNext_4 rfl rfl ?_
  refine r_gIs (pc := 5) dX9_isDigitNext_5 fw_X9_349 rfl (ok9 ha0) ?_
  refine r_aload_n (pc := 8) dX9_isDigitNext_8 rfl rfl ?_
  refine r_gIs (pc := 9) dX9_isDigitNext_9 fw_X9_337 rfl (ok9 ha0) ?_
  refine r_icmp_ge (pc := 12) (tgt := 41) h dX9_isDigitNext_12 (by decide) (fun h => ?_) (fun h => ?_)
  · refine r_iconst (pc := 41) dX9_isDigitNext_41 ?_
    exact r_zrets (pc := 42) h rfl dX9_isDigitNext_42
  · refine r_aload_n (pc := 15) dX9_isDigitNext_15 rfl rfl ?_
    refine r_gRs (b := a0 + 10) (pc := 16) dX9_isDigitNext_16 fw_X9_42 rfl (ok9 ha0) (ok9_27 ha0).1 ?_
    refine r_aload_n (pc := 19) dX9_isDigitNext_19 rfl rfl ?_
    refine r_gIs (pc := 20) dX9_isDigitNext_20 fw_X9_349 rfl (ok9 ha0) ?_
    refine r_baloads (pc := 23) h dX9_isDigitNext_23 (ok9_27 ha0).2 (fun h => ?_)
    refine r_i2l (pc := 24) h dX9_isDigitNext_24 (fun v2 h => ?_)
    refine r_ldc2 (n := 48) (pc := 25) dX9_isDigitNext_25 kc_X9_355 ?_
    refine r_ldc2 (n := 57) (pc := 28) dX9_isDigitNext_28 kc_X9_357 ?_
    refine r_callSs (pc := 31) (fun v => some (sj_i v)) (As := [sj_j v2, sj_j 48, sj_j 57]) (rest := []) h dX9_isDigitNext_31 mw_X9_57 kw_1225 (fun _ _ hc => cg_X9_isIn  hc) rfl ⟨(Nat.le_of_ble_eq_true rfl), (Nat.le_of_ble_eq_true rfl)⟩ (Nat.le_of_ble_eq_true rfl) rfl (fun v4 V3 h => ?_)
    refine r_if_eq (pc := 34) (tgt := 41) h dX9_isDigitNext_34 (by decide) (fun h => ?_) (fun h => ?_)
    · refine r_iconst (pc := 41) dX9_isDigitNext_41 ?_
      exact r_zrets (pc := 42) h rfl dX9_isDigitNext_42
    · refine r_iconst (pc := 37) dX9_isDigitNext_37 ?_
      refine r_goto (pc := 38) (tgt := 42) dX9_isDigitNext_38 (by decide) ?_
      exact r_zrets (pc := 42) h rfl dX9_isDigitNext_42
set_option maxHeartbeats 4000000 in
theorem cg_X9_isDigitNext {X : sj_X} {g : sj_G} {N : Nat} {a0 : Nat} {V : sj_VV} {q : Int × sj_VV} (ha0 : OK9 g a0) (h : g_X9_isDigitNext N a0 V = some q) : sj_C X m_X9_isDigitNext [sj_r (some a0)] (g, V) (some (sj_i q.1), (g, q.2)) :=
  sj_C_of (by decide +kernel) (Nat.le_of_ble_eq_true rfl) (lo := [some (sj_r (some a0))]) rfl (sj_weak (l2 := [some (sj_r (some a0))]) (⟨rfl, trivial⟩) (st_X9_isDigitNext_0 a0 V ha0 h))
set_option maxHeartbeats 4000000 in
theorem c_X9_isDigitNext {X : sj_X} {N : Nat} {a0 : Nat} {s : sj_Mem} {q : Int × sj_Mem} (h : f_X9_isDigitNext N a0 s = some q) : sj_C X m_X9_isDigitNext [sj_r (some a0)] s (some (sj_i q.1), q.2) := by
  obtain ⟨g, V⟩ := s
  unfold f_X9_isDigitNext at h
  obtain ⟨ho, h1⟩ := e_ok_some h
  obtain ⟨q2, h2, rfl⟩ := sj_map_some h1
  exact cg_X9_isDigitNext ho h2
theorem dX9_number_0 : decode cX9_number 0 = .ok (.aload_n 0, 1) := by decide +kernel
theorem dX9_number_1 : decode cX9_number 1 = .ok (.getfield 346, 3) := by decide +kernel
theorem dX9_number_4 : decode cX9_number 4 = .ok (.ifCond .eq 5, 3) := by decide +kernel
theorem dX9_number_7 : decode cX9_number 7 = .ok (.iload_n 1, 1) := by decide +kernel
theorem dX9_number_8 : decode cX9_number 8 = .ok (.ireturn, 1) := by decide +kernel
theorem dX9_number_9 : decode cX9_number 9 = .ok (.aload_n 0, 1) := by decide +kernel
theorem dX9_number_10 : decode cX9_number 10 = .ok (.invokevirtual 365, 3) := by decide +kernel
theorem dX9_number_13 : decode cX9_number 13 = .ok (.istore_n 3, 1) := by decide +kernel
theorem dX9_number_14 : decode cX9_number 14 = .ok (.aload_n 0, 1) := by decide +kernel
theorem dX9_number_15 : decode cX9_number 15 = .ok (.aload_n 0, 1) := by decide +kernel
theorem dX9_number_16 : decode cX9_number 16 = .ok (.getfield 349, 3) := by decide +kernel
theorem dX9_number_19 : decode cX9_number 19 = .ok (.putfield 368, 3) := by decide +kernel
theorem dX9_number_22 : decode cX9_number 22 = .ok (.iload_n 3, 1) := by decide +kernel
theorem dX9_number_23 : decode cX9_number 23 = .ok (.ifCond .ne 12, 3) := by decide +kernel
theorem dX9_number_26 : decode cX9_number 26 = .ok (.aload_n 0, 1) := by decide +kernel
theorem dX9_number_27 : decode cX9_number 27 = .ok (.iconst 1, 1) := by decide +kernel
theorem dX9_number_28 : decode cX9_number 28 = .ok (.aload_n 0, 1) := by decide +kernel
theorem dX9_number_29 : decode cX9_number 29 = .ok (.getfield 349, 3) := by decide +kernel
theorem dX9_number_32 : decode cX9_number 32 = .ok (.invokevirtual 362, 3) := by decide +kernel
theorem dX9_number_35 : decode cX9_number 35 = .ok (.iconst 0, 1) := by decide +kernel
theorem dX9_number_36 : decode cX9_number 36 = .ok (.istore 4, 2) := by decide +kernel
theorem dX9_number_38 : decode cX9_number 38 = .ok (.aload_n 0, 1) := by decide +kernel
theorem dX9_number_39 : decode cX9_number 39 = .ok (.getfield 349, 3) := by decide +kernel
theorem dX9_number_42 : decode cX9_number 42 = .ok (.aload_n 0, 1) := by decide +kernel
theorem dX9_number_43 : decode cX9_number 43 = .ok (.getfield 337, 3) := by decide +kernel
theorem dX9_number_46 : decode cX9_number 46 = .ok (.if_icmp .ge 71, 3) := by decide +kernel
theorem dX9_number_49 : decode cX9_number 49 = .ok (.aload_n 0, 1) := by decide +kernel
theorem dX9_number_50 : decode cX9_number 50 = .ok (.getfield 42, 3) := by decide +kernel
theorem dX9_number_53 : decode cX9_number 53 = .ok (.aload_n 0, 1) := by decide +kernel
theorem dX9_number_54 : decode cX9_number 54 = .ok (.getfield 349, 3) := by decide +kernel
theorem dX9_number_57 : decode cX9_number 57 = .ok (.baload, 1) := by decide +kernel
theorem dX9_number_58 : decode cX9_number 58 = .ok (.i2l, 1) := by decide +kernel
theorem dX9_number_59 : decode cX9_number 59 = .ok (.ldc2_w 355, 3) := by decide +kernel
theorem dX9_number_62 : decode cX9_number 62 = .ok (.ldc2_w 357, 3) := by decide +kernel
theorem dX9_number_65 : decode cX9_number 65 = .ok (.invokestatic 57, 3) := by decide +kernel
theorem dX9_number_68 : decode cX9_number 68 = .ok (.ifCond .eq 49, 3) := by decide +kernel
theorem dX9_number_71 : decode cX9_number 71 = .ok (.iload 4, 2) := by decide +kernel
theorem dX9_number_73 : decode cX9_number 73 = .ok (.ldc_w 371, 3) := by decide +kernel
theorem dX9_number_76 : decode cX9_number 76 = .ok (.if_icmp .le 8, 3) := by decide +kernel
theorem dX9_number_79 : decode cX9_number 79 = .ok (.iload 4, 2) := by decide +kernel
theorem dX9_number_81 : decode cX9_number 81 = .ok (.goto 21, 3) := by decide +kernel
theorem dX9_number_84 : decode cX9_number 84 = .ok (.bipush 10, 2) := by decide +kernel
theorem dX9_number_86 : decode cX9_number 86 = .ok (.iload 4, 2) := by decide +kernel
theorem dX9_number_88 : decode cX9_number 88 = .ok (.imul, 1) := by decide +kernel
theorem dX9_number_89 : decode cX9_number 89 = .ok (.aload_n 0, 1) := by decide +kernel
theorem dX9_number_90 : decode cX9_number 90 = .ok (.getfield 42, 3) := by decide +kernel
theorem dX9_number_93 : decode cX9_number 93 = .ok (.aload_n 0, 1) := by decide +kernel
theorem dX9_number_94 : decode cX9_number 94 = .ok (.getfield 349, 3) := by decide +kernel
theorem dX9_number_97 : decode cX9_number 97 = .ok (.baload, 1) := by decide +kernel
theorem dX9_number_98 : decode cX9_number 98 = .ok (.iadd, 1) := by decide +kernel
theorem dX9_number_99 : decode cX9_number 99 = .ok (.bipush 48, 2) := by decide +kernel
theorem dX9_number_101 : decode cX9_number 101 = .ok (.isub, 1) := by decide +kernel
theorem dX9_number_102 : decode cX9_number 102 = .ok (.istore 4, 2) := by decide +kernel
theorem dX9_number_104 : decode cX9_number 104 = .ok (.aload_n 0, 1) := by decide +kernel
theorem dX9_number_105 : decode cX9_number 105 = .ok (.dup, 1) := by decide +kernel
theorem dX9_number_106 : decode cX9_number 106 = .ok (.getfield 349, 3) := by decide +kernel
theorem dX9_number_109 : decode cX9_number 109 = .ok (.iconst 1, 1) := by decide +kernel
theorem dX9_number_110 : decode cX9_number 110 = .ok (.iadd, 1) := by decide +kernel
theorem dX9_number_111 : decode cX9_number 111 = .ok (.putfield 349, 3) := by decide +kernel
theorem dX9_number_114 : decode cX9_number 114 = .ok (.goto (-76), 3) := by decide +kernel
theorem dX9_number_117 : decode cX9_number 117 = .ok (.iload 4, 2) := by decide +kernel
theorem dX9_number_119 : decode cX9_number 119 = .ok (.i2l, 1) := by decide +kernel
theorem dX9_number_120 : decode cX9_number 120 = .ok (.iload_n 1, 1) := by decide +kernel
theorem dX9_number_121 : decode cX9_number 121 = .ok (.i2l, 1) := by decide +kernel
theorem dX9_number_122 : decode cX9_number 122 = .ok (.iload_n 2, 1) := by decide +kernel
theorem dX9_number_123 : decode cX9_number 123 = .ok (.i2l, 1) := by decide +kernel
theorem dX9_number_124 : decode cX9_number 124 = .ok (.invokestatic 57, 3) := by decide +kernel
theorem dX9_number_127 : decode cX9_number 127 = .ok (.ifCond .ne 12, 3) := by decide +kernel
theorem dX9_number_130 : decode cX9_number 130 = .ok (.aload_n 0, 1) := by decide +kernel
theorem dX9_number_131 : decode cX9_number 131 = .ok (.iconst 2, 1) := by decide +kernel
theorem dX9_number_132 : decode cX9_number 132 = .ok (.aload_n 0, 1) := by decide +kernel
theorem dX9_number_133 : decode cX9_number 133 = .ok (.getfield 368, 3) := by decide +kernel
theorem dX9_number_136 : decode cX9_number 136 = .ok (.invokevirtual 362, 3) := by decide +kernel
theorem dX9_number_139 : decode cX9_number 139 = .ok (.aload_n 0, 1) := by decide +kernel
theorem dX9_number_140 : decode cX9_number 140 = .ok (.getfield 346, 3) := by decide +kernel
theorem dX9_number_143 : decode cX9_number 143 = .ok (.ifCond .eq 7, 3) := by decide +kernel
theorem dX9_number_146 : decode cX9_number 146 = .ok (.iload_n 1, 1) := by decide +kernel
theorem dX9_number_147 : decode cX9_number 147 = .ok (.goto 5, 3) := by decide +kernel
theorem dX9_number_150 : decode cX9_number 150 = .ok (.iload 4, 2) := by decide +kernel
theorem dX9_number_152 : decode cX9_number 152 = .ok (.ireturn, 1) := by decide +kernel
set_option maxHeartbeats 4000000 in
theorem st_X9_number_102 {X : sj_X} {g : sj_G} {s0 : sj_Mem} {N : Nat} {q : Int × sj_VV} {k38 : Nat → Int → Int → Int → sj_VV → Option (Int × sj_VV)} (hk38 : ∀ (a0 : Nat) (x1 : Int) (x2 : Int) (x4 : Int) (V : sj_VV), OK9 g a0 → k38 a0 x1 x2 x4 V = some q → sj_T X m_X9_number s0 (some (sj_i q.1), (g, q.2)) 38 [some (sj_r (some a0)), some (sj_i x1), some (sj_i x2), none, some (sj_i x4)] [] (g, V)) :
    ∀ (a0 : Nat) (x1 : Int) (x2 : Int) (y0 : Int) (V : sj_VV), OK9 g a0 → g_X9_number_102 N k38 a0 x1 x2 y0 V = some q → sj_T X m_X9_number s0 (some (sj_i q.1), (g, q.2)) 102 [some (sj_r (some a0)), some (sj_i x1), some (sj_i x2), none, none] [(sj_i y0)] (g, V) := by
  intro a0 x1 x2 y0 V ha0 h
  unfold g_X9_number_102 at h
  refine r_istore (ln := [some (sj_r (some a0)), some (sj_i x1), some (sj_i x2), none, some (sj_i y0)]) (pc := 102) dX9_number_102 (Nat.le_of_ble_eq_true rfl) rfl ?_
  refine r_aload_n (pc := 104) dX9_number_104 rfl rfl ?_
  refine r_dup (pc := 105) dX9_number_105 rfl ?_
  refine r_gIs (pc := 106) dX9_number_106 fw_X9_349 rfl (ok9 ha0) ?_
  refine r_iconst (pc := 109) dX9_number_109 ?_
  refine r_iadd (pc := 110) dX9_number_110 ?_
  refine r_pIs (pc := 111) h dX9_number_111 fw_X9_349 rfl rfl (nf9_29) (ok9 ha0) (fun V1 h => ?_)
  refine r_goto (pc := 114) (tgt := 38) dX9_number_114 (by decide) ?_
  exact sj_weak (l2 := [some (sj_r (some a0)), some (sj_i x1), some (sj_i x2), none, some (sj_i y0)]) (⟨rfl, ⟨rfl, ⟨rfl, ⟨rfl, trivial⟩⟩⟩⟩) (hk38 a0 x1 x2 y0 V1 ha0 h)
set_option maxHeartbeats 4000000 in
theorem st_X9_number_139 {X : sj_X} {g : sj_G} {s0 : sj_Mem} {N : Nat} {q : Int × sj_VV} :
    ∀ (a0 : Nat) (x1 : Int) (x4 : Int) (V : sj_VV), OK9 g a0 → g_X9_number_139 N a0 x1 x4 V = some q → sj_T X m_X9_number s0 (some (sj_i q.1), (g, q.2)) 139 [some (sj_r (some a0)), some (sj_i x1), none, none, some (sj_i x4)] [] (g, V) := by
  intro a0 x1 x4 V ha0 h
  unfold g_X9_number_139 at h
  refine r_aload_n (pc := 139) dX9_number_139 rfl rfl ?_
  refine r_gIs (pc := 140) dX9_number_140 fw_X9_346 rfl (ok9 ha0) ?_
  refine r_if_eq (pc := 143) (tgt := 150) h dX9_number_143 (by decide) (fun h => ?_) (fun h => ?_)
  · refine r_iload (pc := 150) dX9_number_150 rfl ?_
    exact r_irets (pc := 152) h rfl dX9_number_152
  · refine r_iload_n (pc := 146) dX9_number_146 rfl rfl ?_
    refine r_goto (pc := 147) (tgt := 152) dX9_number_147 (by decide) ?_
    exact r_irets (pc := 152) h rfl dX9_number_152
set_option maxHeartbeats 4000000 in
theorem st_X9_number_117 {X : sj_X} {g : sj_G} {s0 : sj_Mem} {N : Nat} {q : Int × sj_VV} :
    ∀ (a0 : Nat) (x1 : Int) (x2 : Int) (x4 : Int) (V : sj_VV), OK9 g a0 → g_X9_number_117 N a0 x1 x2 x4 V = some q → sj_T X m_X9_number s0 (some (sj_i q.1), (g, q.2)) 117 [some (sj_r (some a0)), some (sj_i x1), some (sj_i x2), none, some (sj_i x4)] [] (g, V) := by
  intro a0 x1 x2 x4 V ha0 h
  unfold g_X9_number_117 at h
  refine r_iload (pc := 117) dX9_number_117 rfl ?_
  refine r_i2l (pc := 119) h dX9_number_119 (fun v1 h => ?_)
  refine r_iload_n (pc := 120) dX9_number_120 rfl rfl ?_
  refine r_i2l (pc := 121) h dX9_number_121 (fun v2 h => ?_)
  refine r_iload_n (pc := 122) dX9_number_122 rfl rfl ?_
  refine r_i2l (pc := 123) h dX9_number_123 (fun v3 h => ?_)
  refine r_callSs (pc := 124) (fun v => some (sj_i v)) (As := [sj_j v1, sj_j v2, sj_j v3]) (rest := []) h dX9_number_124 mw_X9_57 kw_1225 (fun _ _ hc => cg_X9_isIn  hc) rfl ⟨(Nat.le_of_ble_eq_true rfl), (Nat.le_of_ble_eq_true rfl)⟩ (Nat.le_of_ble_eq_true rfl) rfl (fun v5 V4 h => ?_)
  refine r_if_ne (pc := 127) (tgt := 139) h dX9_number_127 (by decide) (fun h => ?_) (fun h => ?_)
  · refine r_aload_n (pc := 130) dX9_number_130 rfl rfl ?_
    refine r_iconst (pc := 131) dX9_number_131 ?_
    refine r_aload_n (pc := 132) dX9_number_132 rfl rfl ?_
    refine r_gIs (pc := 133) dX9_number_133 fw_X9_368 rfl (ok9 ha0) ?_
    refine r_callVs (pc := 136) (fun _ => none) (As := [sj_i 2, sj_i (V4 a0 33)]) (rest := []) (b := a0) (ok9 ha0) h dX9_number_136 mw_X9_362 vw_X9_wrong (fun _ _ hc => cg_X9_wrong ha0 hc) rfl ⟨(Nat.le_of_ble_eq_true rfl), (Nat.le_of_ble_eq_true rfl)⟩ (Nat.le_of_ble_eq_true rfl) rfl (fun _u V6 h => ?_)
    exact sj_weak (l2 := [some (sj_r (some a0)), some (sj_i x1), none, none, some (sj_i x4)]) (⟨rfl, ⟨rfl, ⟨rfl, trivial⟩⟩⟩) (st_X9_number_139 a0 x1 x4 V6 ha0 h)
  · exact sj_weak (l2 := [some (sj_r (some a0)), some (sj_i x1), none, none, some (sj_i x4)]) (⟨rfl, ⟨rfl, ⟨rfl, trivial⟩⟩⟩) (st_X9_number_139 a0 x1 x4 V4 ha0 h)
set_option maxHeartbeats 4000000 in
theorem st_X9_number_38_b {X : sj_X} {g : sj_G} {s0 : sj_Mem} {N : Nat} {q : Int × sj_VV} {k38 : Nat → Int → Int → Int → sj_VV → Option (Int × sj_VV)} (hk38 : ∀ (a0 : Nat) (x1 : Int) (x2 : Int) (x4 : Int) (V : sj_VV), OK9 g a0 → k38 a0 x1 x2 x4 V = some q → sj_T X m_X9_number s0 (some (sj_i q.1), (g, q.2)) 38 [some (sj_r (some a0)), some (sj_i x1), some (sj_i x2), none, some (sj_i x4)] [] (g, V)) :
    ∀ (a0 : Nat) (x1 : Int) (x2 : Int) (x4 : Int) (V : sj_VV), OK9 g a0 → g_X9_number_38_b N k38 a0 x1 x2 x4 V = some q → sj_T X m_X9_number s0 (some (sj_i q.1), (g, q.2)) 38 [some (sj_r (some a0)), some (sj_i x1), some (sj_i x2), none, some (sj_i x4)] [] (g, V) := by
  intro a0 x1 x2 x4 V ha0 h
  unfold g_X9_number_38_b at h
  refine r_aload_n (pc := 38) dX9_number_38 rfl rfl ?_
  refine r_gIs (pc := 39) dX9_number_39 fw_X9_349 rfl (ok9 ha0) ?_
  refine r_aload_n (pc := 42) dX9_number_42 rfl rfl ?_
  refine r_gIs (pc := 43) dX9_number_43 fw_X9_337 rfl (ok9 ha0) ?_
  refine r_icmp_ge (pc := 46) (tgt := 117) h dX9_number_46 (by decide) (fun h => ?_) (fun h => ?_)
  · exact sj_weak (l2 := [some (sj_r (some a0)), some (sj_i x1), some (sj_i x2), none, some (sj_i x4)]) (⟨rfl, ⟨rfl, ⟨rfl, ⟨rfl, trivial⟩⟩⟩⟩) (st_X9_number_117 a0 x1 x2 x4 V ha0 h)
  · refine r_aload_n (pc := 49) dX9_number_49 rfl rfl ?_
    refine r_gRs (b := a0 + 10) (pc := 50) dX9_number_50 fw_X9_42 rfl (ok9 ha0) (ok9_27 ha0).1 ?_
    refine r_aload_n (pc := 53) dX9_number_53 rfl rfl ?_
    refine r_gIs (pc := 54) dX9_number_54 fw_X9_349 rfl (ok9 ha0) ?_
    refine r_baloads (pc := 57) h dX9_number_57 (ok9_27 ha0).2 (fun h => ?_)
    refine r_i2l (pc := 58) h dX9_number_58 (fun v1 h => ?_)
    refine r_ldc2 (n := 48) (pc := 59) dX9_number_59 kc_X9_355 ?_
    refine r_ldc2 (n := 57) (pc := 62) dX9_number_62 kc_X9_357 ?_
    refine r_callSs (pc := 65) (fun v => some (sj_i v)) (As := [sj_j v1, sj_j 48, sj_j 57]) (rest := []) h dX9_number_65 mw_X9_57 kw_1225 (fun _ _ hc => cg_X9_isIn  hc) rfl ⟨(Nat.le_of_ble_eq_true rfl), (Nat.le_of_ble_eq_true rfl)⟩ (Nat.le_of_ble_eq_true rfl) rfl (fun v3 V2 h => ?_)
    refine r_if_eq (pc := 68) (tgt := 117) h dX9_number_68 (by decide) (fun h => ?_) (fun h => ?_)
    · exact sj_weak (l2 := [some (sj_r (some a0)), some (sj_i x1), some (sj_i x2), none, some (sj_i x4)]) (⟨rfl, ⟨rfl, ⟨rfl, ⟨rfl, trivial⟩⟩⟩⟩) (st_X9_number_117 a0 x1 x2 x4 V2 ha0 h)
    · refine r_iload (pc := 71) dX9_number_71 rfl ?_
      refine r_ldc_w (n := 1000000) (pc := 73) dX9_number_73 kc_X9_371 ?_
      refine r_icmp_le (pc := 76) (tgt := 84) h dX9_number_76 (by decide) (fun h => ?_) (fun h => ?_)
      · refine r_bipush (pc := 84) dX9_number_84 ⟨by decide, by decide⟩ ?_
        refine r_iload (pc := 86) dX9_number_86 rfl ?_
        refine r_imul (pc := 88) dX9_number_88 ?_
        refine r_aload_n (pc := 89) dX9_number_89 rfl rfl ?_
        refine r_gRs (b := a0 + 10) (pc := 90) dX9_number_90 fw_X9_42 rfl (ok9 ha0) (ok9_27 ha0).1 ?_
        refine r_aload_n (pc := 93) dX9_number_93 rfl rfl ?_
        refine r_gIs (pc := 94) dX9_number_94 fw_X9_349 rfl (ok9 ha0) ?_
        refine r_baloads (pc := 97) h dX9_number_97 (ok9_27 ha0).2 (fun h => ?_)
        refine r_iadd (pc := 98) dX9_number_98 ?_
        refine r_bipush (pc := 99) dX9_number_99 ⟨by decide, by decide⟩ ?_
        refine r_isub (pc := 101) dX9_number_101 ?_
        exact sj_weak (l2 := [some (sj_r (some a0)), some (sj_i x1), some (sj_i x2), none, none]) (⟨rfl, ⟨rfl, ⟨rfl, trivial⟩⟩⟩) (st_X9_number_102 hk38 a0 x1 x2 (((10 * x4) + (V2 (a0 + 10) (V2 a0 29).toNat)) - 48) V2 ha0 h)
      · refine r_iload (pc := 79) dX9_number_79 rfl ?_
        refine r_goto (pc := 81) (tgt := 102) dX9_number_81 (by decide) ?_
        exact sj_weak (l2 := [some (sj_r (some a0)), some (sj_i x1), some (sj_i x2), none, none]) (⟨rfl, ⟨rfl, ⟨rfl, trivial⟩⟩⟩) (st_X9_number_102 hk38 a0 x1 x2 x4 V2 ha0 h)
set_option maxHeartbeats 4000000 in
theorem st_X9_number_38 {X : sj_X} {g : sj_G} {s0 : sj_Mem} {N : Nat} {q : Int × sj_VV} :
    ∀ (n : Nat) (a0 : Nat) (x1 : Int) (x2 : Int) (x4 : Int) (V : sj_VV), OK9 g a0 → g_X9_number_38 N n a0 x1 x2 x4 V = some q → sj_T X m_X9_number s0 (some (sj_i q.1), (g, q.2)) 38 [some (sj_r (some a0)), some (sj_i x1), some (sj_i x2), none, some (sj_i x4)] [] (g, V) := by
  intro n
  induction n with
  | zero => intro a0 x1 x2 x4 V ha0 h; exact nomatch h
  | succ n ih => intro a0 x1 x2 x4 V ha0 h; exact st_X9_number_38_b (N := N) ih a0 x1 x2 x4 V ha0 h
set_option maxHeartbeats 4000000 in
theorem st_X9_number_35 {X : sj_X} {g : sj_G} {s0 : sj_Mem} {N : Nat} {q : Int × sj_VV} :
    ∀ (a0 : Nat) (x1 : Int) (x2 : Int) (V : sj_VV), OK9 g a0 → g_X9_number_35 N a0 x1 x2 V = some q → sj_T X m_X9_number s0 (some (sj_i q.1), (g, q.2)) 35 [some (sj_r (some a0)), some (sj_i x1), some (sj_i x2), none, none] [] (g, V) := by
  intro a0 x1 x2 V ha0 h
  unfold g_X9_number_35 at h
  refine r_iconst (pc := 35) dX9_number_35 ?_
  refine r_istore (ln := [some (sj_r (some a0)), some (sj_i x1), some (sj_i x2), none, some (sj_i 0)]) (pc := 36) dX9_number_36 (Nat.le_of_ble_eq_true rfl) rfl ?_
  exact sj_weak (l2 := [some (sj_r (some a0)), some (sj_i x1), some (sj_i x2), none, some (sj_i 0)]) (⟨rfl, ⟨rfl, ⟨rfl, ⟨rfl, trivial⟩⟩⟩⟩) (st_X9_number_38 N a0 x1 x2 0 V ha0 h)
set_option maxHeartbeats 4000000 in
theorem st_X9_number_0 {X : sj_X} {g : sj_G} {s0 : sj_Mem} {N : Nat} {q : Int × sj_VV} :
    ∀ (a0 : Nat) (x1 : Int) (x2 : Int) (V : sj_VV), OK9 g a0 → g_X9_number N a0 x1 x2 V = some q → sj_T X m_X9_number s0 (some (sj_i q.1), (g, q.2)) 0 [some (sj_r (some a0)), some (sj_i x1), some (sj_i x2), none, none] [] (g, V) := by
  intro a0 x1 x2 V ha0 h
  unfold g_X9_number at h
  refine r_aload_n (pc := 0) dX9_number_0 rfl rfl ?_
  refine r_gIs (pc := 1) dX9_number_1 fw_X9_346 rfl (ok9 ha0) ?_
  refine r_if_eq (pc := 4) (tgt := 9) h dX9_number_4 (by decide) (fun h => ?_) (fun h => ?_)
  · refine r_aload_n (pc := 9) dX9_number_9 rfl rfl ?_
    refine r_callVs (pc := 10) (fun v => some (sj_i v)) (As := []) (rest := []) (b := a0) (ok9 ha0) h dX9_number_10 mw_X9_365 vw_X9_isDigitNext (fun _ _ hc => cg_X9_isDigitNext ha0 hc) rfl ⟨(Nat.le_of_ble_eq_true rfl), (Nat.le_of_ble_eq_true rfl)⟩ (Nat.le_of_ble_eq_true rfl) rfl (fun v2 V1 h => ?_)
    refine r_istore_n (ln := [some (sj_r (some a0)), some (sj_i x1), some (sj_i x2), some (sj_i v2), none]) (pc := 13) dX9_number_13 rfl (Nat.le_of_ble_eq_true rfl) rfl ?_
    refine r_aload_n (pc := 14) dX9_number_14 rfl rfl ?_
    refine r_aload_n (pc := 15) dX9_number_15 rfl rfl ?_
    refine r_gIs (pc := 16) dX9_number_16 fw_X9_349 rfl (ok9 ha0) ?_
    refine r_pIs (pc := 19) h dX9_number_19 fw_X9_368 rfl rfl (nf9_33) (ok9 ha0) (fun V3 h => ?_)
    refine r_iload_n (pc := 22) dX9_number_22 rfl rfl ?_
    refine r_if_ne (pc := 23) (tgt := 35) h dX9_number_23 (by decide) (fun h => ?_) (fun h => ?_)
    · refine r_aload_n (pc := 26) dX9_number_26 rfl rfl ?_
      refine r_iconst (pc := 27) dX9_number_27 ?_
      refine r_aload_n (pc := 28) dX9_number_28 rfl rfl ?_
      refine r_gIs (pc := 29) dX9_number_29 fw_X9_349 rfl (ok9 ha0) ?_
      refine r_callVs (pc := 32) (fun _ => none) (As := [sj_i 1, sj_i (V3 a0 29)]) (rest := []) (b := a0) (ok9 ha0) h dX9_number_32 mw_X9_362 vw_X9_wrong (fun _ _ hc => cg_X9_wrong ha0 hc) rfl ⟨(Nat.le_of_ble_eq_true rfl), (Nat.le_of_ble_eq_true rfl)⟩ (Nat.le_of_ble_eq_true rfl) rfl (fun _u V4 h => ?_)
      exact sj_weak (l2 := [some (sj_r (some a0)), some (sj_i x1), some (sj_i x2), none, none]) (⟨rfl, ⟨rfl, ⟨rfl, trivial⟩⟩⟩) (st_X9_number_35 a0 x1 x2 V4 ha0 h)
    · exact sj_weak (l2 := [some (sj_r (some a0)), some (sj_i x1), some (sj_i x2), none, none]) (⟨rfl, ⟨rfl, ⟨rfl, trivial⟩⟩⟩) (st_X9_number_35 a0 x1 x2 V3 ha0 h)
  · refine r_iload_n (pc := 7) dX9_number_7 rfl rfl ?_
    exact r_irets (pc := 8) h rfl dX9_number_8
set_option maxHeartbeats 4000000 in
theorem cg_X9_number {X : sj_X} {g : sj_G} {N : Nat} {a0 : Nat} {x1 : Int} {x2 : Int} {V : sj_VV} {q : Int × sj_VV} (ha0 : OK9 g a0) (h : g_X9_number N a0 x1 x2 V = some q) : sj_C X m_X9_number [sj_r (some a0), sj_i x1, sj_i x2] (g, V) (some (sj_i q.1), (g, q.2)) :=
  sj_C_of (by decide +kernel) (Nat.le_of_ble_eq_true rfl) (lo := [some (sj_r (some a0)), some (sj_i x1), some (sj_i x2), none, none]) rfl (sj_weak (l2 := [some (sj_r (some a0)), some (sj_i x1), some (sj_i x2), none, none]) (⟨rfl, ⟨rfl, ⟨rfl, trivial⟩⟩⟩) (st_X9_number_0 a0 x1 x2 V ha0 h))
set_option maxHeartbeats 4000000 in
theorem c_X9_number {X : sj_X} {N : Nat} {a0 : Nat} {x1 : Int} {x2 : Int} {s : sj_Mem} {q : Int × sj_Mem} (h : f_X9_number N a0 x1 x2 s = some q) : sj_C X m_X9_number [sj_r (some a0), sj_i x1, sj_i x2] s (some (sj_i q.1), q.2) := by
  obtain ⟨g, V⟩ := s
  unfold f_X9_number at h
  obtain ⟨ho, h1⟩ := e_ok_some h
  obtain ⟨q2, h2, rfl⟩ := sj_map_some h1
  exact cg_X9_number ho h2
theorem dX9_isNext_0 : decode cX9_isNext 0 = .ok (.aload_n 0, 1) := by decide +kernel
theorem dX9_isNext_1 : decode cX9_isNext 1 = .ok (.invokevirtual 352, 3) := by decide +kernel
theorem dX9_isNext_4 : decode cX9_isNext 4 = .ok (.aload_n 0, 1) := by decide +kernel
theorem dX9_isNext_5 : decode cX9_isNext 5 = .ok (.getfield 349, 3) := by decide +kernel
theorem dX9_isNext_8 : decode cX9_isNext 8 = .ok (.aload_n 0, 1) := by decide +kernel
theorem dX9_isNext_9 : decode cX9_isNext 9 = .ok (.getfield 337, 3) := by decide +kernel
theorem dX9_isNext_12 : decode cX9_isNext 12 = .ok (.if_icmp .ge 20, 3) := by decide +kernel
theorem dX9_isNext_15 : decode cX9_isNext 15 = .ok (.aload_n 0, 1) := by decide +kernel
theorem dX9_isNext_16 : decode cX9_isNext 16 = .ok (.getfield 42, 3) := by decide +kernel
theorem dX9_isNext_19 : decode cX9_isNext 19 = .ok (.aload_n 0, 1) := by decide +kernel
theorem dX9_isNext_20 : decode cX9_isNext 20 = .ok (.getfield 349, 3) := by decide +kernel
theorem dX9_isNext_23 : decode cX9_isNext 23 = .ok (.baload, 1) := by decide +kernel
theorem dX9_isNext_24 : decode cX9_isNext 24 = .ok (.iload_n 1, 1) := by decide +kernel
theorem dX9_isNext_25 : decode cX9_isNext 25 = .ok (.if_icmp .ne 7, 3) := by decide +kernel
theorem dX9_isNext_28 : decode cX9_isNext 28 = .ok (.iconst 1, 1) := by decide +kernel
theorem dX9_isNext_29 : decode cX9_isNext 29 = .ok (.goto 4, 3) := by decide +kernel
theorem dX9_isNext_32 : decode cX9_isNext 32 = .ok (.iconst 0, 1) := by decide +kernel
theorem dX9_isNext_33 : decode cX9_isNext 33 = .ok (.ireturn, 1) := by decide +kernel
set_option maxHeartbeats 4000000 in
theorem st_X9_isNext_0 {X : sj_X} {g : sj_G} {s0 : sj_Mem} {N : Nat} {q : Int × sj_VV} :
    ∀ (a0 : Nat) (x1 : Int) (V : sj_VV), OK9 g a0 → g_X9_isNext N a0 x1 V = some q → sj_T X m_X9_isNext s0 (some (sj_i q.1), (g, q.2)) 0 [some (sj_r (some a0)), some (sj_i x1)] [] (g, V) := by
  intro a0 x1 V ha0 h
  unfold g_X9_isNext at h
  refine r_aload_n (pc := 0) dX9_isNext_0 rfl rfl ?_
  refine r_callVs (pc := 1) (fun _ => none) (As := []) (rest := []) (b := a0) (ok9 ha0) h dX9_isNext_1 mw_X9_352 vw_X9_blanks (fun _ _ hc => cg_X9_blanks ha0 hc) rfl ⟨(Nat.le_of_ble_eq_true rfl), (Nat.le_of_ble_eq_true rfl)⟩ (Nat.le_of_ble_eq_true rfl) rfl (fun _u V1 h => ?_)
  refine r_aload_n (pc := 4) dX9_isNext_4 rfl rfl ?_
  refine r_gIs (pc := 5) dX9_isNext_5 fw_X9_349 rfl (ok9 ha0) ?_
  refine r_aload_n (pc := 8) dX9_isNext_8 rfl rfl ?_
  refine r_gIs (pc := 9) dX9_isNext_9 fw_X9_337 rfl (ok9 ha0) ?_
  refine r_icmp_ge (pc := 12) (tgt := 32) h dX9_isNext_12 (by decide) (fun h => ?_) (fun h => ?_)
  · refine r_iconst (pc := 32) dX9_isNext_32 ?_
    exact r_zrets (pc := 33) h rfl dX9_isNext_33
  · refine r_aload_n (pc := 15) dX9_isNext_15 rfl rfl ?_
    refine r_gRs (b := a0 + 10) (pc := 16) dX9_isNext_16 fw_X9_42 rfl (ok9 ha0) (ok9_27 ha0).1 ?_
    refine r_aload_n (pc := 19) dX9_isNext_19 rfl rfl ?_
    refine r_gIs (pc := 20) dX9_isNext_20 fw_X9_349 rfl (ok9 ha0) ?_
    refine r_baloads (pc := 23) h dX9_isNext_23 (ok9_27 ha0).2 (fun h => ?_)
    refine r_iload_n (pc := 24) dX9_isNext_24 rfl rfl ?_
    refine r_icmp_ne (pc := 25) (tgt := 32) h dX9_isNext_25 (by decide) (fun h => ?_) (fun h => ?_)
    · refine r_iconst (pc := 28) dX9_isNext_28 ?_
      refine r_goto (pc := 29) (tgt := 33) dX9_isNext_29 (by decide) ?_
      exact r_zrets (pc := 33) h rfl dX9_isNext_33
    · refine r_iconst (pc := 32) dX9_isNext_32 ?_
      exact r_zrets (pc := 33) h rfl dX9_isNext_33
set_option maxHeartbeats 4000000 in
theorem cg_X9_isNext {X : sj_X} {g : sj_G} {N : Nat} {a0 : Nat} {x1 : Int} {V : sj_VV} {q : Int × sj_VV} (ha0 : OK9 g a0) (h : g_X9_isNext N a0 x1 V = some q) : sj_C X m_X9_isNext [sj_r (some a0), sj_i x1] (g, V) (some (sj_i q.1), (g, q.2)) :=
  sj_C_of (by decide +kernel) (Nat.le_of_ble_eq_true rfl) (lo := [some (sj_r (some a0)), some (sj_i x1)]) rfl (sj_weak (l2 := [some (sj_r (some a0)), some (sj_i x1)]) (⟨rfl, ⟨rfl, trivial⟩⟩) (st_X9_isNext_0 a0 x1 V ha0 h))
set_option maxHeartbeats 4000000 in
theorem c_X9_isNext {X : sj_X} {N : Nat} {a0 : Nat} {x1 : Int} {s : sj_Mem} {q : Int × sj_Mem} (h : f_X9_isNext N a0 x1 s = some q) : sj_C X m_X9_isNext [sj_r (some a0), sj_i x1] s (some (sj_i q.1), q.2) := by
  obtain ⟨g, V⟩ := s
  unfold f_X9_isNext at h
  obtain ⟨ho, h1⟩ := e_ok_some h
  obtain ⟨q2, h2, rfl⟩ := sj_map_some h1
  exact cg_X9_isNext ho h2
theorem dX9_must_0 : decode cX9_must 0 = .ok (.aload_n 0, 1) := by decide +kernel
theorem dX9_must_1 : decode cX9_must 1 = .ok (.iload_n 1, 1) := by decide +kernel
theorem dX9_must_2 : decode cX9_must 2 = .ok (.invokevirtual 359, 3) := by decide +kernel
theorem dX9_must_5 : decode cX9_must 5 = .ok (.ifCond .eq 16, 3) := by decide +kernel
theorem dX9_must_8 : decode cX9_must 8 = .ok (.aload_n 0, 1) := by decide +kernel
theorem dX9_must_9 : decode cX9_must 9 = .ok (.dup, 1) := by decide +kernel
theorem dX9_must_10 : decode cX9_must 10 = .ok (.getfield 349, 3) := by decide +kernel
theorem dX9_must_13 : decode cX9_must 13 = .ok (.iconst 1, 1) := by decide +kernel
theorem dX9_must_14 : decode cX9_must 14 = .ok (.iadd, 1) := by decide +kernel
theorem dX9_must_15 : decode cX9_must 15 = .ok (.putfield 349, 3) := by decide +kernel
theorem dX9_must_18 : decode cX9_must 18 = .ok (.goto 12, 3) := by decide +kernel
theorem dX9_must_21 : decode cX9_must 21 = .ok (.aload_n 0, 1) := by decide +kernel
theorem dX9_must_22 : decode cX9_must 22 = .ok (.iconst 1, 1) := by decide +kernel
theorem dX9_must_23 : decode cX9_must 23 = .ok (.aload_n 0, 1) := by decide +kernel
theorem dX9_must_24 : decode cX9_must 24 = .ok (.getfield 349, 3) := by decide +kernel
theorem dX9_must_27 : decode cX9_must 27 = .ok (.invokevirtual 362, 3) := by decide +kernel
theorem dX9_must_30 : decode cX9_must 30 = .ok (.return_, 1) := by decide +kernel
set_option maxHeartbeats 4000000 in
theorem st_X9_must_0 {X : sj_X} {g : sj_G} {s0 : sj_Mem} {N : Nat} {q : Unit × sj_VV} :
    ∀ (a0 : Nat) (x1 : Int) (V : sj_VV), OK9 g a0 → g_X9_must N a0 x1 V = some q → sj_T X m_X9_must s0 (none, (g, q.2)) 0 [some (sj_r (some a0)), some (sj_i x1)] [] (g, V) := by
  intro a0 x1 V ha0 h
  unfold g_X9_must at h
  refine r_aload_n (pc := 0) dX9_must_0 rfl rfl ?_
  refine r_iload_n (pc := 1) dX9_must_1 rfl rfl ?_
  refine r_callVs (pc := 2) (fun v => some (sj_i v)) (As := [sj_i x1]) (rest := []) (b := a0) (ok9 ha0) h dX9_must_2 mw_X9_359 vw_X9_isNext (fun _ _ hc => cg_X9_isNext ha0 hc) rfl ⟨(Nat.le_of_ble_eq_true rfl), (Nat.le_of_ble_eq_true rfl)⟩ (Nat.le_of_ble_eq_true rfl) rfl (fun v2 V1 h => ?_)
  refine r_if_eq (pc := 5) (tgt := 21) h dX9_must_5 (by decide) (fun h => ?_) (fun h => ?_)
  · refine r_aload_n (pc := 21) dX9_must_21 rfl rfl ?_
    refine r_iconst (pc := 22) dX9_must_22 ?_
    refine r_aload_n (pc := 23) dX9_must_23 rfl rfl ?_
    refine r_gIs (pc := 24) dX9_must_24 fw_X9_349 rfl (ok9 ha0) ?_
    refine r_callVs (pc := 27) (fun _ => none) (As := [sj_i 1, sj_i (V1 a0 29)]) (rest := []) (b := a0) (ok9 ha0) h dX9_must_27 mw_X9_362 vw_X9_wrong (fun _ _ hc => cg_X9_wrong ha0 hc) rfl ⟨(Nat.le_of_ble_eq_true rfl), (Nat.le_of_ble_eq_true rfl)⟩ (Nat.le_of_ble_eq_true rfl) rfl (fun _u V3 h => ?_)
    exact r_vrets (pc := 30) h rfl dX9_must_30
  · refine r_aload_n (pc := 8) dX9_must_8 rfl rfl ?_
    refine r_dup (pc := 9) dX9_must_9 rfl ?_
    refine r_gIs (pc := 10) dX9_must_10 fw_X9_349 rfl (ok9 ha0) ?_
    refine r_iconst (pc := 13) dX9_must_13 ?_
    refine r_iadd (pc := 14) dX9_must_14 ?_
    refine r_pIs (pc := 15) h dX9_must_15 fw_X9_349 rfl rfl (nf9_29) (ok9 ha0) (fun V4 h => ?_)
    refine r_goto (pc := 18) (tgt := 30) dX9_must_18 (by decide) ?_
    exact r_vrets (pc := 30) h rfl dX9_must_30
set_option maxHeartbeats 4000000 in
theorem cg_X9_must {X : sj_X} {g : sj_G} {N : Nat} {a0 : Nat} {x1 : Int} {V : sj_VV} {q : Unit × sj_VV} (ha0 : OK9 g a0) (h : g_X9_must N a0 x1 V = some q) : sj_C X m_X9_must [sj_r (some a0), sj_i x1] (g, V) (none, (g, q.2)) :=
  sj_C_of (by decide +kernel) (Nat.le_of_ble_eq_true rfl) (lo := [some (sj_r (some a0)), some (sj_i x1)]) rfl (sj_weak (l2 := [some (sj_r (some a0)), some (sj_i x1)]) (⟨rfl, ⟨rfl, trivial⟩⟩) (st_X9_must_0 a0 x1 V ha0 h))
set_option maxHeartbeats 4000000 in
theorem c_X9_must {X : sj_X} {N : Nat} {a0 : Nat} {x1 : Int} {s : sj_Mem} {q : Unit × sj_Mem} (h : f_X9_must N a0 x1 s = some q) : sj_C X m_X9_must [sj_r (some a0), sj_i x1] s (none, q.2) := by
  obtain ⟨g, V⟩ := s
  unfold f_X9_must at h
  obtain ⟨ho, h1⟩ := e_ok_some h
  obtain ⟨q2, h2, rfl⟩ := sj_map_some h1
  exact cg_X9_must ho h2
theorem dX9_word_0 : decode cX9_word 0 = .ok (.aload_n 0, 1) := by decide +kernel
theorem dX9_word_1 : decode cX9_word 1 = .ok (.bipush 6, 2) := by decide +kernel
theorem dX9_word_3 : decode cX9_word 3 = .ok (.bipush 103, 2) := by decide +kernel
theorem dX9_word_5 : decode cX9_word 5 = .ok (.bipush 114, 2) := by decide +kernel
theorem dX9_word_7 : decode cX9_word 7 = .ok (.bipush 111, 2) := by decide +kernel
theorem dX9_word_9 : decode cX9_word 9 = .ok (.bipush 117, 2) := by decide +kernel
theorem dX9_word_11 : decode cX9_word 11 = .ok (.bipush 110, 2) := by decide +kernel
theorem dX9_word_13 : decode cX9_word 13 = .ok (.bipush 100, 2) := by decide +kernel
theorem dX9_word_15 : decode cX9_word 15 = .ok (.iconst 0, 1) := by decide +kernel
theorem dX9_word_16 : decode cX9_word 16 = .ok (.invokevirtual 379, 3) := by decide +kernel
theorem dX9_word_19 : decode cX9_word 19 = .ok (.ifCond .eq 5, 3) := by decide +kernel
theorem dX9_word_22 : decode cX9_word 22 = .ok (.iconst 0, 1) := by decide +kernel
theorem dX9_word_23 : decode cX9_word 23 = .ok (.ireturn, 1) := by decide +kernel
theorem dX9_word_24 : decode cX9_word 24 = .ok (.aload_n 0, 1) := by decide +kernel
theorem dX9_word_25 : decode cX9_word 25 = .ok (.iconst 4, 1) := by decide +kernel
theorem dX9_word_26 : decode cX9_word 26 = .ok (.bipush 114, 2) := by decide +kernel
theorem dX9_word_28 : decode cX9_word 28 = .ok (.bipush 111, 2) := by decide +kernel
theorem dX9_word_30 : decode cX9_word 30 = .ok (.bipush 99, 2) := by decide +kernel
theorem dX9_word_32 : decode cX9_word 32 = .ok (.bipush 107, 2) := by decide +kernel
theorem dX9_word_34 : decode cX9_word 34 = .ok (.iconst 0, 1) := by decide +kernel
theorem dX9_word_35 : decode cX9_word 35 = .ok (.iconst 0, 1) := by decide +kernel
theorem dX9_word_36 : decode cX9_word 36 = .ok (.iconst 0, 1) := by decide +kernel
theorem dX9_word_37 : decode cX9_word 37 = .ok (.invokevirtual 379, 3) := by decide +kernel
theorem dX9_word_40 : decode cX9_word 40 = .ok (.ifCond .eq 5, 3) := by decide +kernel
theorem dX9_word_43 : decode cX9_word 43 = .ok (.iconst 1, 1) := by decide +kernel
theorem dX9_word_44 : decode cX9_word 44 = .ok (.ireturn, 1) := by decide +kernel
theorem dX9_word_45 : decode cX9_word 45 = .ok (.aload_n 0, 1) := by decide +kernel
theorem dX9_word_46 : decode cX9_word 46 = .ok (.iconst 5, 1) := by decide +kernel
theorem dX9_word_47 : decode cX9_word 47 = .ok (.bipush 119, 2) := by decide +kernel
theorem dX9_word_49 : decode cX9_word 49 = .ok (.bipush 97, 2) := by decide +kernel
theorem dX9_word_51 : decode cX9_word 51 = .ok (.bipush 116, 2) := by decide +kernel
theorem dX9_word_53 : decode cX9_word 53 = .ok (.bipush 101, 2) := by decide +kernel
theorem dX9_word_55 : decode cX9_word 55 = .ok (.bipush 114, 2) := by decide +kernel
theorem dX9_word_57 : decode cX9_word 57 = .ok (.iconst 0, 1) := by decide +kernel
theorem dX9_word_58 : decode cX9_word 58 = .ok (.iconst 0, 1) := by decide +kernel
theorem dX9_word_59 : decode cX9_word 59 = .ok (.invokevirtual 379, 3) := by decide +kernel
theorem dX9_word_62 : decode cX9_word 62 = .ok (.ifCond .eq 5, 3) := by decide +kernel
theorem dX9_word_65 : decode cX9_word 65 = .ok (.iconst 2, 1) := by decide +kernel
theorem dX9_word_66 : decode cX9_word 66 = .ok (.ireturn, 1) := by decide +kernel
theorem dX9_word_67 : decode cX9_word 67 = .ok (.aload_n 0, 1) := by decide +kernel
theorem dX9_word_68 : decode cX9_word 68 = .ok (.iconst 4, 1) := by decide +kernel
theorem dX9_word_69 : decode cX9_word 69 = .ok (.bipush 108, 2) := by decide +kernel
theorem dX9_word_71 : decode cX9_word 71 = .ok (.bipush 111, 2) := by decide +kernel
theorem dX9_word_73 : decode cX9_word 73 = .ok (.bipush 97, 2) := by decide +kernel
theorem dX9_word_75 : decode cX9_word 75 = .ok (.bipush 100, 2) := by decide +kernel
theorem dX9_word_77 : decode cX9_word 77 = .ok (.iconst 0, 1) := by decide +kernel
theorem dX9_word_78 : decode cX9_word 78 = .ok (.iconst 0, 1) := by decide +kernel
theorem dX9_word_79 : decode cX9_word 79 = .ok (.iconst 0, 1) := by decide +kernel
theorem dX9_word_80 : decode cX9_word 80 = .ok (.invokevirtual 379, 3) := by decide +kernel
theorem dX9_word_83 : decode cX9_word 83 = .ok (.ifCond .eq 5, 3) := by decide +kernel
theorem dX9_word_86 : decode cX9_word 86 = .ok (.iconst 3, 1) := by decide +kernel
theorem dX9_word_87 : decode cX9_word 87 = .ok (.ireturn, 1) := by decide +kernel
theorem dX9_word_88 : decode cX9_word 88 = .ok (.aload_n 0, 1) := by decide +kernel
theorem dX9_word_89 : decode cX9_word 89 = .ok (.iconst 5, 1) := by decide +kernel
theorem dX9_word_90 : decode cX9_word 90 = .ok (.bipush 113, 2) := by decide +kernel
theorem dX9_word_92 : decode cX9_word 92 = .ok (.bipush 117, 2) := by decide +kernel
theorem dX9_word_94 : decode cX9_word 94 = .ok (.bipush 97, 2) := by decide +kernel
theorem dX9_word_96 : decode cX9_word 96 = .ok (.bipush 107, 2) := by decide +kernel
theorem dX9_word_98 : decode cX9_word 98 = .ok (.bipush 101, 2) := by decide +kernel
theorem dX9_word_100 : decode cX9_word 100 = .ok (.iconst 0, 1) := by decide +kernel
theorem dX9_word_101 : decode cX9_word 101 = .ok (.iconst 0, 1) := by decide +kernel
theorem dX9_word_102 : decode cX9_word 102 = .ok (.invokevirtual 379, 3) := by decide +kernel
theorem dX9_word_105 : decode cX9_word 105 = .ok (.ifCond .eq 5, 3) := by decide +kernel
theorem dX9_word_108 : decode cX9_word 108 = .ok (.iconst 4, 1) := by decide +kernel
theorem dX9_word_109 : decode cX9_word 109 = .ok (.ireturn, 1) := by decide +kernel
theorem dX9_word_110 : decode cX9_word 110 = .ok (.aload_n 0, 1) := by decide +kernel
theorem dX9_word_111 : decode cX9_word 111 = .ok (.iconst 3, 1) := by decide +kernel
theorem dX9_word_112 : decode cX9_word 112 = .ok (.bipush 116, 2) := by decide +kernel
theorem dX9_word_114 : decode cX9_word 114 = .ok (.bipush 111, 2) := by decide +kernel
theorem dX9_word_116 : decode cX9_word 116 = .ok (.bipush 112, 2) := by decide +kernel
theorem dX9_word_118 : decode cX9_word 118 = .ok (.iconst 0, 1) := by decide +kernel
theorem dX9_word_119 : decode cX9_word 119 = .ok (.iconst 0, 1) := by decide +kernel
theorem dX9_word_120 : decode cX9_word 120 = .ok (.iconst 0, 1) := by decide +kernel
theorem dX9_word_121 : decode cX9_word 121 = .ok (.iconst 0, 1) := by decide +kernel
theorem dX9_word_122 : decode cX9_word 122 = .ok (.invokevirtual 379, 3) := by decide +kernel
theorem dX9_word_125 : decode cX9_word 125 = .ok (.ifCond .eq 5, 3) := by decide +kernel
theorem dX9_word_128 : decode cX9_word 128 = .ok (.iconst 5, 1) := by decide +kernel
theorem dX9_word_129 : decode cX9_word 129 = .ok (.ireturn, 1) := by decide +kernel
theorem dX9_word_130 : decode cX9_word 130 = .ok (.aload_n 0, 1) := by decide +kernel
theorem dX9_word_131 : decode cX9_word 131 = .ok (.iconst 4, 1) := by decide +kernel
theorem dX9_word_132 : decode cX9_word 132 = .ok (.bipush 115, 2) := by decide +kernel
theorem dX9_word_134 : decode cX9_word 134 = .ok (.bipush 111, 2) := by decide +kernel
theorem dX9_word_136 : decode cX9_word 136 = .ok (.bipush 105, 2) := by decide +kernel
theorem dX9_word_138 : decode cX9_word 138 = .ok (.bipush 108, 2) := by decide +kernel
theorem dX9_word_140 : decode cX9_word 140 = .ok (.iconst 0, 1) := by decide +kernel
theorem dX9_word_141 : decode cX9_word 141 = .ok (.iconst 0, 1) := by decide +kernel
theorem dX9_word_142 : decode cX9_word 142 = .ok (.iconst 0, 1) := by decide +kernel
theorem dX9_word_143 : decode cX9_word 143 = .ok (.invokevirtual 379, 3) := by decide +kernel
theorem dX9_word_146 : decode cX9_word 146 = .ok (.ifCond .eq 6, 3) := by decide +kernel
theorem dX9_word_149 : decode cX9_word 149 = .ok (.bipush 6, 2) := by decide +kernel
theorem dX9_word_151 : decode cX9_word 151 = .ok (.ireturn, 1) := by decide +kernel
theorem dX9_word_152 : decode cX9_word 152 = .ok (.aload_n 0, 1) := by decide +kernel
theorem dX9_word_153 : decode cX9_word 153 = .ok (.bipush 6, 2) := by decide +kernel
theorem dX9_word_155 : decode cX9_word 155 = .ok (.bipush 97, 2) := by decide +kernel
theorem dX9_word_157 : decode cX9_word 157 = .ok (.bipush 110, 2) := by decide +kernel
theorem dX9_word_159 : decode cX9_word 159 = .ok (.bipush 99, 2) := by decide +kernel
theorem dX9_word_161 : decode cX9_word 161 = .ok (.bipush 104, 2) := by decide +kernel
theorem dX9_word_163 : decode cX9_word 163 = .ok (.bipush 111, 2) := by decide +kernel
theorem dX9_word_165 : decode cX9_word 165 = .ok (.bipush 114, 2) := by decide +kernel
theorem dX9_word_167 : decode cX9_word 167 = .ok (.iconst 0, 1) := by decide +kernel
theorem dX9_word_168 : decode cX9_word 168 = .ok (.invokevirtual 379, 3) := by decide +kernel
theorem dX9_word_171 : decode cX9_word 171 = .ok (.ifCond .eq 8, 3) := by decide +kernel
theorem dX9_word_174 : decode cX9_word 174 = .ok (.bipush 7, 2) := by decide +kernel
theorem dX9_word_176 : decode cX9_word 176 = .ok (.goto 4, 3) := by decide +kernel
theorem dX9_word_179 : decode cX9_word 179 = .ok (.iconst (-1), 1) := by decide +kernel
theorem dX9_word_180 : decode cX9_word 180 = .ok (.ireturn, 1) := by decide +kernel
set_option maxHeartbeats 4000000 in
theorem st_X9_word_0 {X : sj_X} {g : sj_G} {s0 : sj_Mem} {N : Nat} {q : Int × sj_VV} :
    ∀ (a0 : Nat) (V : sj_VV), OK9 g a0 → g_X9_word N a0 V = some q → sj_T X m_X9_word s0 (some (sj_i q.1), (g, q.2)) 0 [some (sj_r (some a0))] [] (g, V) := by
  intro a0 V ha0 h
  unfold g_X9_word at h
  refine r_aload_n (pc := 0) dX9_word_0 rfl rfl ?_
  refine r_bipush (pc := 1) dX9_word_1 ⟨by decide, by decide⟩ ?_
  refine r_bipush (pc := 3) dX9_word_3 ⟨by decide, by decide⟩ ?_
  refine r_bipush (pc := 5) dX9_word_5 ⟨by decide, by decide⟩ ?_
  refine r_bipush (pc := 7) dX9_word_7 ⟨by decide, by decide⟩ ?_
  refine r_bipush (pc := 9) dX9_word_9 ⟨by decide, by decide⟩ ?_
  refine r_bipush (pc := 11) dX9_word_11 ⟨by decide, by decide⟩ ?_
  refine r_bipush (pc := 13) dX9_word_13 ⟨by decide, by decide⟩ ?_
  refine r_iconst (pc := 15) dX9_word_15 ?_
  refine r_callVs (pc := 16) (fun v => some (sj_i v)) (As := [sj_i 6, sj_i 103, sj_i 114, sj_i 111, sj_i 117, sj_i 110, sj_i 100, sj_i 0]) (rest := []) (b := a0) (ok9 ha0) h dX9_word_16 mw_X9_379 vw_X9_spells (fun _ _ hc => cg_X9_spells ha0 hc) rfl ⟨(Nat.le_of_ble_eq_true rfl), (Nat.le_of_ble_eq_true rfl)⟩ (Nat.le_of_ble_eq_true rfl) rfl (fun v2 V1 h => ?_)
  refine r_if_eq (pc := 19) (tgt := 24) h dX9_word_19 (by decide) (fun h => ?_) (fun h => ?_)
  · refine r_aload_n (pc := 24) dX9_word_24 rfl rfl ?_
    refine r_iconst (pc := 25) dX9_word_25 ?_
    refine r_bipush (pc := 26) dX9_word_26 ⟨by decide, by decide⟩ ?_
    refine r_bipush (pc := 28) dX9_word_28 ⟨by decide, by decide⟩ ?_
    refine r_bipush (pc := 30) dX9_word_30 ⟨by decide, by decide⟩ ?_
    refine r_bipush (pc := 32) dX9_word_32 ⟨by decide, by decide⟩ ?_
    refine r_iconst (pc := 34) dX9_word_34 ?_
    refine r_iconst (pc := 35) dX9_word_35 ?_
    refine r_iconst (pc := 36) dX9_word_36 ?_
    refine r_callVs (pc := 37) (fun v => some (sj_i v)) (As := [sj_i 4, sj_i 114, sj_i 111, sj_i 99, sj_i 107, sj_i 0, sj_i 0, sj_i 0]) (rest := []) (b := a0) (ok9 ha0) h dX9_word_37 mw_X9_379 vw_X9_spells (fun _ _ hc => cg_X9_spells ha0 hc) rfl ⟨(Nat.le_of_ble_eq_true rfl), (Nat.le_of_ble_eq_true rfl)⟩ (Nat.le_of_ble_eq_true rfl) rfl (fun v4 V3 h => ?_)
    refine r_if_eq (pc := 40) (tgt := 45) h dX9_word_40 (by decide) (fun h => ?_) (fun h => ?_)
    · refine r_aload_n (pc := 45) dX9_word_45 rfl rfl ?_
      refine r_iconst (pc := 46) dX9_word_46 ?_
      refine r_bipush (pc := 47) dX9_word_47 ⟨by decide, by decide⟩ ?_
      refine r_bipush (pc := 49) dX9_word_49 ⟨by decide, by decide⟩ ?_
      refine r_bipush (pc := 51) dX9_word_51 ⟨by decide, by decide⟩ ?_
      refine r_bipush (pc := 53) dX9_word_53 ⟨by decide, by decide⟩ ?_
      refine r_bipush (pc := 55) dX9_word_55 ⟨by decide, by decide⟩ ?_
      refine r_iconst (pc := 57) dX9_word_57 ?_
      refine r_iconst (pc := 58) dX9_word_58 ?_
      refine r_callVs (pc := 59) (fun v => some (sj_i v)) (As := [sj_i 5, sj_i 119, sj_i 97, sj_i 116, sj_i 101, sj_i 114, sj_i 0, sj_i 0]) (rest := []) (b := a0) (ok9 ha0) h dX9_word_59 mw_X9_379 vw_X9_spells (fun _ _ hc => cg_X9_spells ha0 hc) rfl ⟨(Nat.le_of_ble_eq_true rfl), (Nat.le_of_ble_eq_true rfl)⟩ (Nat.le_of_ble_eq_true rfl) rfl (fun v6 V5 h => ?_)
      refine r_if_eq (pc := 62) (tgt := 67) h dX9_word_62 (by decide) (fun h => ?_) (fun h => ?_)
      · refine r_aload_n (pc := 67) dX9_word_67 rfl rfl ?_
        refine r_iconst (pc := 68) dX9_word_68 ?_
        refine r_bipush (pc := 69) dX9_word_69 ⟨by decide, by decide⟩ ?_
        refine r_bipush (pc := 71) dX9_word_71 ⟨by decide, by decide⟩ ?_
        refine r_bipush (pc := 73) dX9_word_73 ⟨by decide, by decide⟩ ?_
        refine r_bipush (pc := 75) dX9_word_75 ⟨by decide, by decide⟩ ?_
        refine r_iconst (pc := 77) dX9_word_77 ?_
        refine r_iconst (pc := 78) dX9_word_78 ?_
        refine r_iconst (pc := 79) dX9_word_79 ?_
        refine r_callVs (pc := 80) (fun v => some (sj_i v)) (As := [sj_i 4, sj_i 108, sj_i 111, sj_i 97, sj_i 100, sj_i 0, sj_i 0, sj_i 0]) (rest := []) (b := a0) (ok9 ha0) h dX9_word_80 mw_X9_379 vw_X9_spells (fun _ _ hc => cg_X9_spells ha0 hc) rfl ⟨(Nat.le_of_ble_eq_true rfl), (Nat.le_of_ble_eq_true rfl)⟩ (Nat.le_of_ble_eq_true rfl) rfl (fun v8 V7 h => ?_)
        refine r_if_eq (pc := 83) (tgt := 88) h dX9_word_83 (by decide) (fun h => ?_) (fun h => ?_)
        · refine r_aload_n (pc := 88) dX9_word_88 rfl rfl ?_
          refine r_iconst (pc := 89) dX9_word_89 ?_
          refine r_bipush (pc := 90) dX9_word_90 ⟨by decide, by decide⟩ ?_
          refine r_bipush (pc := 92) dX9_word_92 ⟨by decide, by decide⟩ ?_
          refine r_bipush (pc := 94) dX9_word_94 ⟨by decide, by decide⟩ ?_
          refine r_bipush (pc := 96) dX9_word_96 ⟨by decide, by decide⟩ ?_
          refine r_bipush (pc := 98) dX9_word_98 ⟨by decide, by decide⟩ ?_
          refine r_iconst (pc := 100) dX9_word_100 ?_
          refine r_iconst (pc := 101) dX9_word_101 ?_
          refine r_callVs (pc := 102) (fun v => some (sj_i v)) (As := [sj_i 5, sj_i 113, sj_i 117, sj_i 97, sj_i 107, sj_i 101, sj_i 0, sj_i 0]) (rest := []) (b := a0) (ok9 ha0) h dX9_word_102 mw_X9_379 vw_X9_spells (fun _ _ hc => cg_X9_spells ha0 hc) rfl ⟨(Nat.le_of_ble_eq_true rfl), (Nat.le_of_ble_eq_true rfl)⟩ (Nat.le_of_ble_eq_true rfl) rfl (fun v10 V9 h => ?_)
          refine r_if_eq (pc := 105) (tgt := 110) h dX9_word_105 (by decide) (fun h => ?_) (fun h => ?_)
          · refine r_aload_n (pc := 110) dX9_word_110 rfl rfl ?_
            refine r_iconst (pc := 111) dX9_word_111 ?_
            refine r_bipush (pc := 112) dX9_word_112 ⟨by decide, by decide⟩ ?_
            refine r_bipush (pc := 114) dX9_word_114 ⟨by decide, by decide⟩ ?_
            refine r_bipush (pc := 116) dX9_word_116 ⟨by decide, by decide⟩ ?_
            refine r_iconst (pc := 118) dX9_word_118 ?_
            refine r_iconst (pc := 119) dX9_word_119 ?_
            refine r_iconst (pc := 120) dX9_word_120 ?_
            refine r_iconst (pc := 121) dX9_word_121 ?_
            refine r_callVs (pc := 122) (fun v => some (sj_i v)) (As := [sj_i 3, sj_i 116, sj_i 111, sj_i 112, sj_i 0, sj_i 0, sj_i 0, sj_i 0]) (rest := []) (b := a0) (ok9 ha0) h dX9_word_122 mw_X9_379 vw_X9_spells (fun _ _ hc => cg_X9_spells ha0 hc) rfl ⟨(Nat.le_of_ble_eq_true rfl), (Nat.le_of_ble_eq_true rfl)⟩ (Nat.le_of_ble_eq_true rfl) rfl (fun v12 V11 h => ?_)
            refine r_if_eq (pc := 125) (tgt := 130) h dX9_word_125 (by decide) (fun h => ?_) (fun h => ?_)
            · refine r_aload_n (pc := 130) dX9_word_130 rfl rfl ?_
              refine r_iconst (pc := 131) dX9_word_131 ?_
              refine r_bipush (pc := 132) dX9_word_132 ⟨by decide, by decide⟩ ?_
              refine r_bipush (pc := 134) dX9_word_134 ⟨by decide, by decide⟩ ?_
              refine r_bipush (pc := 136) dX9_word_136 ⟨by decide, by decide⟩ ?_
              refine r_bipush (pc := 138) dX9_word_138 ⟨by decide, by decide⟩ ?_
              refine r_iconst (pc := 140) dX9_word_140 ?_
              refine r_iconst (pc := 141) dX9_word_141 ?_
              refine r_iconst (pc := 142) dX9_word_142 ?_
              refine r_callVs (pc := 143) (fun v => some (sj_i v)) (As := [sj_i 4, sj_i 115, sj_i 111, sj_i 105, sj_i 108, sj_i 0, sj_i 0, sj_i 0]) (rest := []) (b := a0) (ok9 ha0) h dX9_word_143 mw_X9_379 vw_X9_spells (fun _ _ hc => cg_X9_spells ha0 hc) rfl ⟨(Nat.le_of_ble_eq_true rfl), (Nat.le_of_ble_eq_true rfl)⟩ (Nat.le_of_ble_eq_true rfl) rfl (fun v14 V13 h => ?_)
              refine r_if_eq (pc := 146) (tgt := 152) h dX9_word_146 (by decide) (fun h => ?_) (fun h => ?_)
              · refine r_aload_n (pc := 152) dX9_word_152 rfl rfl ?_
                refine r_bipush (pc := 153) dX9_word_153 ⟨by decide, by decide⟩ ?_
                refine r_bipush (pc := 155) dX9_word_155 ⟨by decide, by decide⟩ ?_
                refine r_bipush (pc := 157) dX9_word_157 ⟨by decide, by decide⟩ ?_
                refine r_bipush (pc := 159) dX9_word_159 ⟨by decide, by decide⟩ ?_
                refine r_bipush (pc := 161) dX9_word_161 ⟨by decide, by decide⟩ ?_
                refine r_bipush (pc := 163) dX9_word_163 ⟨by decide, by decide⟩ ?_
                refine r_bipush (pc := 165) dX9_word_165 ⟨by decide, by decide⟩ ?_
                refine r_iconst (pc := 167) dX9_word_167 ?_
                refine r_callVs (pc := 168) (fun v => some (sj_i v)) (As := [sj_i 6, sj_i 97, sj_i 110, sj_i 99, sj_i 104, sj_i 111, sj_i 114, sj_i 0]) (rest := []) (b := a0) (ok9 ha0) h dX9_word_168 mw_X9_379 vw_X9_spells (fun _ _ hc => cg_X9_spells ha0 hc) rfl ⟨(Nat.le_of_ble_eq_true rfl), (Nat.le_of_ble_eq_true rfl)⟩ (Nat.le_of_ble_eq_true rfl) rfl (fun v16 V15 h => ?_)
                refine r_if_eq (pc := 171) (tgt := 179) h dX9_word_171 (by decide) (fun h => ?_) (fun h => ?_)
                · refine r_iconst (pc := 179) dX9_word_179 ?_
                  exact r_irets (pc := 180) h rfl dX9_word_180
                · refine r_bipush (pc := 174) dX9_word_174 ⟨by decide, by decide⟩ ?_
                  refine r_goto (pc := 176) (tgt := 180) dX9_word_176 (by decide) ?_
                  exact r_irets (pc := 180) h rfl dX9_word_180
              · refine r_bipush (pc := 149) dX9_word_149 ⟨by decide, by decide⟩ ?_
                exact r_irets (pc := 151) h rfl dX9_word_151
            · refine r_iconst (pc := 128) dX9_word_128 ?_
              exact r_irets (pc := 129) h rfl dX9_word_129
          · refine r_iconst (pc := 108) dX9_word_108 ?_
            exact r_irets (pc := 109) h rfl dX9_word_109
        · refine r_iconst (pc := 86) dX9_word_86 ?_
          exact r_irets (pc := 87) h rfl dX9_word_87
      · refine r_iconst (pc := 65) dX9_word_65 ?_
        exact r_irets (pc := 66) h rfl dX9_word_66
    · refine r_iconst (pc := 43) dX9_word_43 ?_
      exact r_irets (pc := 44) h rfl dX9_word_44
  · refine r_iconst (pc := 22) dX9_word_22 ?_
    exact r_irets (pc := 23) h rfl dX9_word_23
set_option maxHeartbeats 4000000 in
theorem cg_X9_word {X : sj_X} {g : sj_G} {N : Nat} {a0 : Nat} {V : sj_VV} {q : Int × sj_VV} (ha0 : OK9 g a0) (h : g_X9_word N a0 V = some q) : sj_C X m_X9_word [sj_r (some a0)] (g, V) (some (sj_i q.1), (g, q.2)) :=
  sj_C_of (by decide +kernel) (Nat.le_of_ble_eq_true rfl) (lo := [some (sj_r (some a0))]) rfl (sj_weak (l2 := [some (sj_r (some a0))]) (⟨rfl, trivial⟩) (st_X9_word_0 a0 V ha0 h))
set_option maxHeartbeats 4000000 in
theorem c_X9_word {X : sj_X} {N : Nat} {a0 : Nat} {s : sj_Mem} {q : Int × sj_Mem} (h : f_X9_word N a0 s = some q) : sj_C X m_X9_word [sj_r (some a0)] s (some (sj_i q.1), q.2) := by
  obtain ⟨g, V⟩ := s
  unfold f_X9_word at h
  obtain ⟨ho, h1⟩ := e_ok_some h
  obtain ⟨q2, h2, rfl⟩ := sj_map_some h1
  exact cg_X9_word ho h2
theorem dX9_tells_0 : decode cX9_tells 0 = .ok (.aload_n 0, 1) := by decide +kernel
theorem dX9_tells_1 : decode cX9_tells 1 = .ok (.getfield 346, 3) := by decide +kernel
theorem dX9_tells_4 : decode cX9_tells 4 = .ok (.ifCond .eq 4, 3) := by decide +kernel
theorem dX9_tells_7 : decode cX9_tells 7 = .ok (.return_, 1) := by decide +kernel
theorem dX9_tells_8 : decode cX9_tells 8 = .ok (.aload_n 0, 1) := by decide +kernel
theorem dX9_tells_9 : decode cX9_tells 9 = .ok (.getfield 49, 3) := by decide +kernel
theorem dX9_tells_12 : decode cX9_tells 12 = .ok (.iload_n 1, 1) := by decide +kernel
theorem dX9_tells_13 : decode cX9_tells 13 = .ok (.baload, 1) := by decide +kernel
theorem dX9_tells_14 : decode cX9_tells 14 = .ok (.ifCond .eq 9, 3) := by decide +kernel
theorem dX9_tells_17 : decode cX9_tells 17 = .ok (.aload_n 0, 1) := by decide +kernel
theorem dX9_tells_18 : decode cX9_tells 18 = .ok (.iconst 3, 1) := by decide +kernel
theorem dX9_tells_19 : decode cX9_tells 19 = .ok (.iload_n 2, 1) := by decide +kernel
theorem dX9_tells_20 : decode cX9_tells 20 = .ok (.invokevirtual 362, 3) := by decide +kernel
theorem dX9_tells_23 : decode cX9_tells 23 = .ok (.aload_n 0, 1) := by decide +kernel
theorem dX9_tells_24 : decode cX9_tells 24 = .ok (.getfield 49, 3) := by decide +kernel
theorem dX9_tells_27 : decode cX9_tells 27 = .ok (.iload_n 1, 1) := by decide +kernel
theorem dX9_tells_28 : decode cX9_tells 28 = .ok (.iconst 1, 1) := by decide +kernel
theorem dX9_tells_29 : decode cX9_tells 29 = .ok (.bastore, 1) := by decide +kernel
theorem dX9_tells_30 : decode cX9_tells 30 = .ok (.return_, 1) := by decide +kernel
set_option maxHeartbeats 4000000 in
theorem st_X9_tells_23 {X : sj_X} {g : sj_G} {s0 : sj_Mem} {N : Nat} {q : Unit × sj_VV} :
    ∀ (a0 : Nat) (x1 : Int) (V : sj_VV), OK9 g a0 → g_X9_tells_23 N a0 x1 V = some q → sj_T X m_X9_tells s0 (none, (g, q.2)) 23 [some (sj_r (some a0)), some (sj_i x1), none] [] (g, V) := by
  intro a0 x1 V ha0 h
  unfold g_X9_tells_23 at h
  refine r_aload_n (pc := 23) dX9_tells_23 rfl rfl ?_
  refine r_gRs (b := a0 + 11) (pc := 24) dX9_tells_24 fw_X9_49 rfl (ok9 ha0) (ok9_34 ha0).1 ?_
  refine r_iload_n (pc := 27) dX9_tells_27 rfl rfl ?_
  refine r_iconst (pc := 28) dX9_tells_28 ?_
  refine r_zastores (pc := 29) h dX9_tells_29 (ok9_34 ha0).2 (fun V1 h => ?_)
  exact r_vrets (pc := 30) h rfl dX9_tells_30
set_option maxHeartbeats 4000000 in
theorem st_X9_tells_0 {X : sj_X} {g : sj_G} {s0 : sj_Mem} {N : Nat} {q : Unit × sj_VV} :
    ∀ (a0 : Nat) (x1 : Int) (x2 : Int) (V : sj_VV), OK9 g a0 → g_X9_tells N a0 x1 x2 V = some q → sj_T X m_X9_tells s0 (none, (g, q.2)) 0 [some (sj_r (some a0)), some (sj_i x1), some (sj_i x2)] [] (g, V) := by
  intro a0 x1 x2 V ha0 h
  unfold g_X9_tells at h
  refine r_aload_n (pc := 0) dX9_tells_0 rfl rfl ?_
  refine r_gIs (pc := 1) dX9_tells_1 fw_X9_346 rfl (ok9 ha0) ?_
  refine r_if_eq (pc := 4) (tgt := 8) h dX9_tells_4 (by decide) (fun h => ?_) (fun h => ?_)
  · refine r_aload_n (pc := 8) dX9_tells_8 rfl rfl ?_
    refine r_gRs (b := a0 + 11) (pc := 9) dX9_tells_9 fw_X9_49 rfl (ok9 ha0) (ok9_34 ha0).1 ?_
    refine r_iload_n (pc := 12) dX9_tells_12 rfl rfl ?_
    refine r_zaloads (pc := 13) h dX9_tells_13 (ok9_34 ha0).2 (fun h => ?_)
    refine r_if_eq (pc := 14) (tgt := 23) h dX9_tells_14 (by decide) (fun h => ?_) (fun h => ?_)
    · exact sj_weak (l2 := [some (sj_r (some a0)), some (sj_i x1), none]) (⟨rfl, ⟨rfl, trivial⟩⟩) (st_X9_tells_23 a0 x1 V ha0 h)
    · refine r_aload_n (pc := 17) dX9_tells_17 rfl rfl ?_
      refine r_iconst (pc := 18) dX9_tells_18 ?_
      refine r_iload_n (pc := 19) dX9_tells_19 rfl rfl ?_
      refine r_callVs (pc := 20) (fun _ => none) (As := [sj_i 3, sj_i x2]) (rest := []) (b := a0) (ok9 ha0) h dX9_tells_20 mw_X9_362 vw_X9_wrong (fun _ _ hc => cg_X9_wrong ha0 hc) rfl ⟨(Nat.le_of_ble_eq_true rfl), (Nat.le_of_ble_eq_true rfl)⟩ (Nat.le_of_ble_eq_true rfl) rfl (fun _u V1 h => ?_)
      exact sj_weak (l2 := [some (sj_r (some a0)), some (sj_i x1), none]) (⟨rfl, ⟨rfl, trivial⟩⟩) (st_X9_tells_23 a0 x1 V1 ha0 h)
  · exact r_vrets (pc := 7) h rfl dX9_tells_7
set_option maxHeartbeats 4000000 in
theorem cg_X9_tells {X : sj_X} {g : sj_G} {N : Nat} {a0 : Nat} {x1 : Int} {x2 : Int} {V : sj_VV} {q : Unit × sj_VV} (ha0 : OK9 g a0) (h : g_X9_tells N a0 x1 x2 V = some q) : sj_C X m_X9_tells [sj_r (some a0), sj_i x1, sj_i x2] (g, V) (none, (g, q.2)) :=
  sj_C_of (by decide +kernel) (Nat.le_of_ble_eq_true rfl) (lo := [some (sj_r (some a0)), some (sj_i x1), some (sj_i x2)]) rfl (sj_weak (l2 := [some (sj_r (some a0)), some (sj_i x1), some (sj_i x2)]) (⟨rfl, ⟨rfl, ⟨rfl, trivial⟩⟩⟩) (st_X9_tells_0 a0 x1 x2 V ha0 h))
set_option maxHeartbeats 4000000 in
theorem c_X9_tells {X : sj_X} {N : Nat} {a0 : Nat} {x1 : Int} {x2 : Int} {s : sj_Mem} {q : Unit × sj_Mem} (h : f_X9_tells N a0 x1 x2 s = some q) : sj_C X m_X9_tells [sj_r (some a0), sj_i x1, sj_i x2] s (none, q.2) := by
  obtain ⟨g, V⟩ := s
  unfold f_X9_tells at h
  obtain ⟨ho, h1⟩ := e_ok_some h
  obtain ⟨q2, h2, rfl⟩ := sj_map_some h1
  exact cg_X9_tells ho h2
theorem dX9_anchorLine_0 : decode cX9_anchorLine 0 = .ok (.aload_n 0, 1) := by decide +kernel
theorem dX9_anchorLine_1 : decode cX9_anchorLine 1 = .ok (.iconst 0, 1) := by decide +kernel
theorem dX9_anchorLine_2 : decode cX9_anchorLine 2 = .ok (.iconst 5, 1) := by decide +kernel
theorem dX9_anchorLine_3 : decode cX9_anchorLine 3 = .ok (.invokevirtual 383, 3) := by decide +kernel
theorem dX9_anchorLine_6 : decode cX9_anchorLine 6 = .ok (.istore_n 1, 1) := by decide +kernel
theorem dX9_anchorLine_7 : decode cX9_anchorLine 7 = .ok (.aload_n 0, 1) := by decide +kernel
theorem dX9_anchorLine_8 : decode cX9_anchorLine 8 = .ok (.bipush 12, 2) := by decide +kernel
theorem dX9_anchorLine_10 : decode cX9_anchorLine 10 = .ok (.iload_n 1, 1) := by decide +kernel
theorem dX9_anchorLine_11 : decode cX9_anchorLine 11 = .ok (.iadd, 1) := by decide +kernel
theorem dX9_anchorLine_12 : decode cX9_anchorLine 12 = .ok (.aload_n 0, 1) := by decide +kernel
theorem dX9_anchorLine_13 : decode cX9_anchorLine 13 = .ok (.getfield 368, 3) := by decide +kernel
theorem dX9_anchorLine_16 : decode cX9_anchorLine 16 = .ok (.invokevirtual 386, 3) := by decide +kernel
theorem dX9_anchorLine_19 : decode cX9_anchorLine 19 = .ok (.aload_n 0, 1) := by decide +kernel
theorem dX9_anchorLine_20 : decode cX9_anchorLine 20 = .ok (.getfield 9, 3) := by decide +kernel
theorem dX9_anchorLine_23 : decode cX9_anchorLine 23 = .ok (.sipush 302, 3) := by decide +kernel
theorem dX9_anchorLine_26 : decode cX9_anchorLine 26 = .ok (.iconst 3, 1) := by decide +kernel
theorem dX9_anchorLine_27 : decode cX9_anchorLine 27 = .ok (.iload_n 1, 1) := by decide +kernel
theorem dX9_anchorLine_28 : decode cX9_anchorLine 28 = .ok (.imul, 1) := by decide +kernel
theorem dX9_anchorLine_29 : decode cX9_anchorLine 29 = .ok (.iadd, 1) := by decide +kernel
theorem dX9_anchorLine_30 : decode cX9_anchorLine 30 = .ok (.aload_n 0, 1) := by decide +kernel
theorem dX9_anchorLine_31 : decode cX9_anchorLine 31 = .ok (.iconst 0, 1) := by decide +kernel
theorem dX9_anchorLine_32 : decode cX9_anchorLine 32 = .ok (.aload_n 0, 1) := by decide +kernel
theorem dX9_anchorLine_33 : decode cX9_anchorLine 33 = .ok (.getfield 9, 3) := by decide +kernel
theorem dX9_anchorLine_36 : decode cX9_anchorLine 36 = .ok (.iconst 0, 1) := by decide +kernel
theorem dX9_anchorLine_37 : decode cX9_anchorLine 37 = .ok (.iaload, 1) := by decide +kernel
theorem dX9_anchorLine_38 : decode cX9_anchorLine 38 = .ok (.invokevirtual 383, 3) := by decide +kernel
theorem dX9_anchorLine_41 : decode cX9_anchorLine 41 = .ok (.iastore, 1) := by decide +kernel
theorem dX9_anchorLine_42 : decode cX9_anchorLine 42 = .ok (.aload_n 0, 1) := by decide +kernel
theorem dX9_anchorLine_43 : decode cX9_anchorLine 43 = .ok (.getfield 9, 3) := by decide +kernel
theorem dX9_anchorLine_46 : decode cX9_anchorLine 46 = .ok (.sipush 302, 3) := by decide +kernel
theorem dX9_anchorLine_49 : decode cX9_anchorLine 49 = .ok (.iconst 3, 1) := by decide +kernel
theorem dX9_anchorLine_50 : decode cX9_anchorLine 50 = .ok (.iload_n 1, 1) := by decide +kernel
theorem dX9_anchorLine_51 : decode cX9_anchorLine 51 = .ok (.imul, 1) := by decide +kernel
theorem dX9_anchorLine_52 : decode cX9_anchorLine 52 = .ok (.iadd, 1) := by decide +kernel
theorem dX9_anchorLine_53 : decode cX9_anchorLine 53 = .ok (.iconst 1, 1) := by decide +kernel
theorem dX9_anchorLine_54 : decode cX9_anchorLine 54 = .ok (.iadd, 1) := by decide +kernel
theorem dX9_anchorLine_55 : decode cX9_anchorLine 55 = .ok (.aload_n 0, 1) := by decide +kernel
theorem dX9_anchorLine_56 : decode cX9_anchorLine 56 = .ok (.iconst 0, 1) := by decide +kernel
theorem dX9_anchorLine_57 : decode cX9_anchorLine 57 = .ok (.bipush 100, 2) := by decide +kernel
theorem dX9_anchorLine_59 : decode cX9_anchorLine 59 = .ok (.invokevirtual 383, 3) := by decide +kernel
theorem dX9_anchorLine_62 : decode cX9_anchorLine 62 = .ok (.iastore, 1) := by decide +kernel
theorem dX9_anchorLine_63 : decode cX9_anchorLine 63 = .ok (.aload_n 0, 1) := by decide +kernel
theorem dX9_anchorLine_64 : decode cX9_anchorLine 64 = .ok (.getfield 9, 3) := by decide +kernel
theorem dX9_anchorLine_67 : decode cX9_anchorLine 67 = .ok (.sipush 302, 3) := by decide +kernel
theorem dX9_anchorLine_70 : decode cX9_anchorLine 70 = .ok (.iconst 3, 1) := by decide +kernel
theorem dX9_anchorLine_71 : decode cX9_anchorLine 71 = .ok (.iload_n 1, 1) := by decide +kernel
theorem dX9_anchorLine_72 : decode cX9_anchorLine 72 = .ok (.imul, 1) := by decide +kernel
theorem dX9_anchorLine_73 : decode cX9_anchorLine 73 = .ok (.iadd, 1) := by decide +kernel
theorem dX9_anchorLine_74 : decode cX9_anchorLine 74 = .ok (.iconst 2, 1) := by decide +kernel
theorem dX9_anchorLine_75 : decode cX9_anchorLine 75 = .ok (.iadd, 1) := by decide +kernel
theorem dX9_anchorLine_76 : decode cX9_anchorLine 76 = .ok (.aload_n 0, 1) := by decide +kernel
theorem dX9_anchorLine_77 : decode cX9_anchorLine 77 = .ok (.iconst 1, 1) := by decide +kernel
theorem dX9_anchorLine_78 : decode cX9_anchorLine 78 = .ok (.sipush 500, 3) := by decide +kernel
theorem dX9_anchorLine_81 : decode cX9_anchorLine 81 = .ok (.invokevirtual 383, 3) := by decide +kernel
theorem dX9_anchorLine_84 : decode cX9_anchorLine 84 = .ok (.iastore, 1) := by decide +kernel
theorem dX9_anchorLine_85 : decode cX9_anchorLine 85 = .ok (.return_, 1) := by decide +kernel
set_option maxHeartbeats 4000000 in
theorem st_X9_anchorLine_0 {X : sj_X} {g : sj_G} {s0 : sj_Mem} {N : Nat} {q : Unit × sj_VV} :
    ∀ (a0 : Nat) (V : sj_VV), OK9 g a0 → g_X9_anchorLine N a0 V = some q → sj_T X m_X9_anchorLine s0 (none, (g, q.2)) 0 [some (sj_r (some a0)), none] [] (g, V) := by
  intro a0 V ha0 h
  unfold g_X9_anchorLine at h
  refine r_aload_n (pc := 0) dX9_anchorLine_0 rfl rfl ?_
  refine r_iconst (pc := 1) dX9_anchorLine_1 ?_
  refine r_iconst (pc := 2) dX9_anchorLine_2 ?_
  refine r_callVs (pc := 3) (fun v => some (sj_i v)) (As := [sj_i 0, sj_i 5]) (rest := []) (b := a0) (ok9 ha0) h dX9_anchorLine_3 mw_X9_383 vw_X9_number (fun _ _ hc => cg_X9_number ha0 hc) rfl ⟨(Nat.le_of_ble_eq_true rfl), (Nat.le_of_ble_eq_true rfl)⟩ (Nat.le_of_ble_eq_true rfl) rfl (fun v2 V1 h => ?_)
  refine r_istore_n (ln := [some (sj_r (some a0)), some (sj_i v2)]) (pc := 6) dX9_anchorLine_6 rfl (Nat.le_of_ble_eq_true rfl) rfl ?_
  refine r_aload_n (pc := 7) dX9_anchorLine_7 rfl rfl ?_
  refine r_bipush (pc := 8) dX9_anchorLine_8 ⟨by decide, by decide⟩ ?_
  refine r_iload_n (pc := 10) dX9_anchorLine_10 rfl rfl ?_
  refine r_iadd (pc := 11) dX9_anchorLine_11 ?_
  refine r_aload_n (pc := 12) dX9_anchorLine_12 rfl rfl ?_
  refine r_gIs (pc := 13) dX9_anchorLine_13 fw_X9_368 rfl (ok9 ha0) ?_
  refine r_callVs (pc := 16) (fun _ => none) (As := [sj_i (12 + v2), sj_i (V1 a0 33)]) (rest := []) (b := a0) (ok9 ha0) h dX9_anchorLine_16 mw_X9_386 vw_X9_tells (fun _ _ hc => cg_X9_tells ha0 hc) rfl ⟨(Nat.le_of_ble_eq_true rfl), (Nat.le_of_ble_eq_true rfl)⟩ (Nat.le_of_ble_eq_true rfl) rfl (fun _u V3 h => ?_)
  refine r_aload_n (pc := 19) dX9_anchorLine_19 rfl rfl ?_
  refine r_gRs (b := a0 + 1) (pc := 20) dX9_anchorLine_20 fw_X9_9 rfl (ok9 ha0) (ok9_0 ha0).1 ?_
  refine r_sipush (pc := 23) dX9_anchorLine_23 ⟨by decide, by decide⟩ ?_
  refine r_iconst (pc := 26) dX9_anchorLine_26 ?_
  refine r_iload_n (pc := 27) dX9_anchorLine_27 rfl rfl ?_
  refine r_imul (pc := 28) dX9_anchorLine_28 ?_
  refine r_iadd (pc := 29) dX9_anchorLine_29 ?_
  refine r_aload_n (pc := 30) dX9_anchorLine_30 rfl rfl ?_
  refine r_iconst (pc := 31) dX9_anchorLine_31 ?_
  refine r_aload_n (pc := 32) dX9_anchorLine_32 rfl rfl ?_
  refine r_gRs (b := a0 + 1) (pc := 33) dX9_anchorLine_33 fw_X9_9 rfl (ok9 ha0) (ok9_0 ha0).1 ?_
  refine r_iconst (pc := 36) dX9_anchorLine_36 ?_
  refine r_ialoads (pc := 37) h dX9_anchorLine_37 (ok9_0 ha0).2 (fun h => ?_)
  refine r_callVs (pc := 38) (fun v => some (sj_i v)) (As := [sj_i 0, sj_i (V3 (a0 + 1) (0 : Int).toNat)]) (rest := [(sj_i (302 + (3 * v2))), (sj_r (some (a0 + 1)))]) (b := a0) (ok9 ha0) h dX9_anchorLine_38 mw_X9_383 vw_X9_number (fun _ _ hc => cg_X9_number ha0 hc) rfl ⟨(Nat.le_of_ble_eq_true rfl), (Nat.le_of_ble_eq_true rfl)⟩ (Nat.le_of_ble_eq_true rfl) rfl (fun v5 V4 h => ?_)
  refine r_iastores (pc := 41) h dX9_anchorLine_41 (ok9_0 ha0).2 (fun V6 h => ?_)
  refine r_aload_n (pc := 42) dX9_anchorLine_42 rfl rfl ?_
  refine r_gRs (b := a0 + 1) (pc := 43) dX9_anchorLine_43 fw_X9_9 rfl (ok9 ha0) (ok9_0 ha0).1 ?_
  refine r_sipush (pc := 46) dX9_anchorLine_46 ⟨by decide, by decide⟩ ?_
  refine r_iconst (pc := 49) dX9_anchorLine_49 ?_
  refine r_iload_n (pc := 50) dX9_anchorLine_50 rfl rfl ?_
  refine r_imul (pc := 51) dX9_anchorLine_51 ?_
  refine r_iadd (pc := 52) dX9_anchorLine_52 ?_
  refine r_iconst (pc := 53) dX9_anchorLine_53 ?_
  refine r_iadd (pc := 54) dX9_anchorLine_54 ?_
  refine r_aload_n (pc := 55) dX9_anchorLine_55 rfl rfl ?_
  refine r_iconst (pc := 56) dX9_anchorLine_56 ?_
  refine r_bipush (pc := 57) dX9_anchorLine_57 ⟨by decide, by decide⟩ ?_
  refine r_callVs (pc := 59) (fun v => some (sj_i v)) (As := [sj_i 0, sj_i 100]) (rest := [(sj_i ((302 + (3 * v2)) + 1)), (sj_r (some (a0 + 1)))]) (b := a0) (ok9 ha0) h dX9_anchorLine_59 mw_X9_383 vw_X9_number (fun _ _ hc => cg_X9_number ha0 hc) rfl ⟨(Nat.le_of_ble_eq_true rfl), (Nat.le_of_ble_eq_true rfl)⟩ (Nat.le_of_ble_eq_true rfl) rfl (fun v8 V7 h => ?_)
  refine r_iastores (pc := 62) h dX9_anchorLine_62 (ok9_0 ha0).2 (fun V9 h => ?_)
  refine r_aload_n (pc := 63) dX9_anchorLine_63 rfl rfl ?_
  refine r_gRs (b := a0 + 1) (pc := 64) dX9_anchorLine_64 fw_X9_9 rfl (ok9 ha0) (ok9_0 ha0).1 ?_
  refine r_sipush (pc := 67) dX9_anchorLine_67 ⟨by decide, by decide⟩ ?_
  refine r_iconst (pc := 70) dX9_anchorLine_70 ?_
  refine r_iload_n (pc := 71) dX9_anchorLine_71 rfl rfl ?_
  refine r_imul (pc := 72) dX9_anchorLine_72 ?_
  refine r_iadd (pc := 73) dX9_anchorLine_73 ?_
  refine r_iconst (pc := 74) dX9_anchorLine_74 ?_
  refine r_iadd (pc := 75) dX9_anchorLine_75 ?_
  refine r_aload_n (pc := 76) dX9_anchorLine_76 rfl rfl ?_
  refine r_iconst (pc := 77) dX9_anchorLine_77 ?_
  refine r_sipush (pc := 78) dX9_anchorLine_78 ⟨by decide, by decide⟩ ?_
  refine r_callVs (pc := 81) (fun v => some (sj_i v)) (As := [sj_i 1, sj_i 500]) (rest := [(sj_i ((302 + (3 * v2)) + 2)), (sj_r (some (a0 + 1)))]) (b := a0) (ok9 ha0) h dX9_anchorLine_81 mw_X9_383 vw_X9_number (fun _ _ hc => cg_X9_number ha0 hc) rfl ⟨(Nat.le_of_ble_eq_true rfl), (Nat.le_of_ble_eq_true rfl)⟩ (Nat.le_of_ble_eq_true rfl) rfl (fun v11 V10 h => ?_)
  refine r_iastores (pc := 84) h dX9_anchorLine_84 (ok9_0 ha0).2 (fun V12 h => ?_)
  exact r_vrets (pc := 85) h rfl dX9_anchorLine_85
set_option maxHeartbeats 4000000 in
theorem cg_X9_anchorLine {X : sj_X} {g : sj_G} {N : Nat} {a0 : Nat} {V : sj_VV} {q : Unit × sj_VV} (ha0 : OK9 g a0) (h : g_X9_anchorLine N a0 V = some q) : sj_C X m_X9_anchorLine [sj_r (some a0)] (g, V) (none, (g, q.2)) :=
  sj_C_of (by decide +kernel) (Nat.le_of_ble_eq_true rfl) (lo := [some (sj_r (some a0)), none]) rfl (sj_weak (l2 := [some (sj_r (some a0)), none]) (⟨rfl, trivial⟩) (st_X9_anchorLine_0 a0 V ha0 h))
set_option maxHeartbeats 4000000 in
theorem c_X9_anchorLine {X : sj_X} {N : Nat} {a0 : Nat} {s : sj_Mem} {q : Unit × sj_Mem} (h : f_X9_anchorLine N a0 s = some q) : sj_C X m_X9_anchorLine [sj_r (some a0)] s (none, q.2) := by
  obtain ⟨g, V⟩ := s
  unfold f_X9_anchorLine at h
  obtain ⟨ho, h1⟩ := e_ok_some h
  obtain ⟨q2, h2, rfl⟩ := sj_map_some h1
  exact cg_X9_anchorLine ho h2
theorem dX9_soilLine_0 : decode cX9_soilLine 0 = .ok (.aload_n 0, 1) := by decide +kernel
theorem dX9_soilLine_1 : decode cX9_soilLine 1 = .ok (.iconst 0, 1) := by decide +kernel
theorem dX9_soilLine_2 : decode cX9_soilLine 2 = .ok (.iconst 3, 1) := by decide +kernel
theorem dX9_soilLine_3 : decode cX9_soilLine 3 = .ok (.invokevirtual 383, 3) := by decide +kernel
theorem dX9_soilLine_6 : decode cX9_soilLine 6 = .ok (.istore_n 1, 1) := by decide +kernel
theorem dX9_soilLine_7 : decode cX9_soilLine 7 = .ok (.aload_n 0, 1) := by decide +kernel
theorem dX9_soilLine_8 : decode cX9_soilLine 8 = .ok (.bipush 8, 2) := by decide +kernel
theorem dX9_soilLine_10 : decode cX9_soilLine 10 = .ok (.iload_n 1, 1) := by decide +kernel
theorem dX9_soilLine_11 : decode cX9_soilLine 11 = .ok (.iadd, 1) := by decide +kernel
theorem dX9_soilLine_12 : decode cX9_soilLine 12 = .ok (.aload_n 0, 1) := by decide +kernel
theorem dX9_soilLine_13 : decode cX9_soilLine 13 = .ok (.getfield 368, 3) := by decide +kernel
theorem dX9_soilLine_16 : decode cX9_soilLine 16 = .ok (.invokevirtual 386, 3) := by decide +kernel
theorem dX9_soilLine_19 : decode cX9_soilLine 19 = .ok (.aload_n 0, 1) := by decide +kernel
theorem dX9_soilLine_20 : decode cX9_soilLine 20 = .ok (.getfield 9, 3) := by decide +kernel
theorem dX9_soilLine_23 : decode cX9_soilLine 23 = .ok (.sipush 290, 3) := by decide +kernel
theorem dX9_soilLine_26 : decode cX9_soilLine 26 = .ok (.iconst 3, 1) := by decide +kernel
theorem dX9_soilLine_27 : decode cX9_soilLine 27 = .ok (.iload_n 1, 1) := by decide +kernel
theorem dX9_soilLine_28 : decode cX9_soilLine 28 = .ok (.imul, 1) := by decide +kernel
theorem dX9_soilLine_29 : decode cX9_soilLine 29 = .ok (.iadd, 1) := by decide +kernel
theorem dX9_soilLine_30 : decode cX9_soilLine 30 = .ok (.aload_n 0, 1) := by decide +kernel
theorem dX9_soilLine_31 : decode cX9_soilLine 31 = .ok (.iconst 1, 1) := by decide +kernel
theorem dX9_soilLine_32 : decode cX9_soilLine 32 = .ok (.bipush 30, 2) := by decide +kernel
theorem dX9_soilLine_34 : decode cX9_soilLine 34 = .ok (.invokevirtual 383, 3) := by decide +kernel
theorem dX9_soilLine_37 : decode cX9_soilLine 37 = .ok (.iastore, 1) := by decide +kernel
theorem dX9_soilLine_38 : decode cX9_soilLine 38 = .ok (.aload_n 0, 1) := by decide +kernel
theorem dX9_soilLine_39 : decode cX9_soilLine 39 = .ok (.getfield 9, 3) := by decide +kernel
theorem dX9_soilLine_42 : decode cX9_soilLine 42 = .ok (.sipush 290, 3) := by decide +kernel
theorem dX9_soilLine_45 : decode cX9_soilLine 45 = .ok (.iconst 3, 1) := by decide +kernel
theorem dX9_soilLine_46 : decode cX9_soilLine 46 = .ok (.iload_n 1, 1) := by decide +kernel
theorem dX9_soilLine_47 : decode cX9_soilLine 47 = .ok (.imul, 1) := by decide +kernel
theorem dX9_soilLine_48 : decode cX9_soilLine 48 = .ok (.iadd, 1) := by decide +kernel
theorem dX9_soilLine_49 : decode cX9_soilLine 49 = .ok (.iconst 1, 1) := by decide +kernel
theorem dX9_soilLine_50 : decode cX9_soilLine 50 = .ok (.iadd, 1) := by decide +kernel
theorem dX9_soilLine_51 : decode cX9_soilLine 51 = .ok (.aload_n 0, 1) := by decide +kernel
theorem dX9_soilLine_52 : decode cX9_soilLine 52 = .ok (.iconst 0, 1) := by decide +kernel
theorem dX9_soilLine_53 : decode cX9_soilLine 53 = .ok (.sipush 200, 3) := by decide +kernel
theorem dX9_soilLine_56 : decode cX9_soilLine 56 = .ok (.invokevirtual 383, 3) := by decide +kernel
theorem dX9_soilLine_59 : decode cX9_soilLine 59 = .ok (.iastore, 1) := by decide +kernel
theorem dX9_soilLine_60 : decode cX9_soilLine 60 = .ok (.aload_n 0, 1) := by decide +kernel
theorem dX9_soilLine_61 : decode cX9_soilLine 61 = .ok (.getfield 9, 3) := by decide +kernel
theorem dX9_soilLine_64 : decode cX9_soilLine 64 = .ok (.sipush 290, 3) := by decide +kernel
theorem dX9_soilLine_67 : decode cX9_soilLine 67 = .ok (.iconst 3, 1) := by decide +kernel
theorem dX9_soilLine_68 : decode cX9_soilLine 68 = .ok (.iload_n 1, 1) := by decide +kernel
theorem dX9_soilLine_69 : decode cX9_soilLine 69 = .ok (.imul, 1) := by decide +kernel
theorem dX9_soilLine_70 : decode cX9_soilLine 70 = .ok (.iadd, 1) := by decide +kernel
theorem dX9_soilLine_71 : decode cX9_soilLine 71 = .ok (.iconst 2, 1) := by decide +kernel
theorem dX9_soilLine_72 : decode cX9_soilLine 72 = .ok (.iadd, 1) := by decide +kernel
theorem dX9_soilLine_73 : decode cX9_soilLine 73 = .ok (.aload_n 0, 1) := by decide +kernel
theorem dX9_soilLine_74 : decode cX9_soilLine 74 = .ok (.iconst 0, 1) := by decide +kernel
theorem dX9_soilLine_75 : decode cX9_soilLine 75 = .ok (.sipush 1500, 3) := by decide +kernel
theorem dX9_soilLine_78 : decode cX9_soilLine 78 = .ok (.invokevirtual 383, 3) := by decide +kernel
theorem dX9_soilLine_81 : decode cX9_soilLine 81 = .ok (.iastore, 1) := by decide +kernel
theorem dX9_soilLine_82 : decode cX9_soilLine 82 = .ok (.return_, 1) := by decide +kernel
set_option maxHeartbeats 4000000 in
theorem st_X9_soilLine_0 {X : sj_X} {g : sj_G} {s0 : sj_Mem} {N : Nat} {q : Unit × sj_VV} :
    ∀ (a0 : Nat) (V : sj_VV), OK9 g a0 → g_X9_soilLine N a0 V = some q → sj_T X m_X9_soilLine s0 (none, (g, q.2)) 0 [some (sj_r (some a0)), none] [] (g, V) := by
  intro a0 V ha0 h
  unfold g_X9_soilLine at h
  refine r_aload_n (pc := 0) dX9_soilLine_0 rfl rfl ?_
  refine r_iconst (pc := 1) dX9_soilLine_1 ?_
  refine r_iconst (pc := 2) dX9_soilLine_2 ?_
  refine r_callVs (pc := 3) (fun v => some (sj_i v)) (As := [sj_i 0, sj_i 3]) (rest := []) (b := a0) (ok9 ha0) h dX9_soilLine_3 mw_X9_383 vw_X9_number (fun _ _ hc => cg_X9_number ha0 hc) rfl ⟨(Nat.le_of_ble_eq_true rfl), (Nat.le_of_ble_eq_true rfl)⟩ (Nat.le_of_ble_eq_true rfl) rfl (fun v2 V1 h => ?_)
  refine r_istore_n (ln := [some (sj_r (some a0)), some (sj_i v2)]) (pc := 6) dX9_soilLine_6 rfl (Nat.le_of_ble_eq_true rfl) rfl ?_
  refine r_aload_n (pc := 7) dX9_soilLine_7 rfl rfl ?_
  refine r_bipush (pc := 8) dX9_soilLine_8 ⟨by decide, by decide⟩ ?_
  refine r_iload_n (pc := 10) dX9_soilLine_10 rfl rfl ?_
  refine r_iadd (pc := 11) dX9_soilLine_11 ?_
  refine r_aload_n (pc := 12) dX9_soilLine_12 rfl rfl ?_
  refine r_gIs (pc := 13) dX9_soilLine_13 fw_X9_368 rfl (ok9 ha0) ?_
  refine r_callVs (pc := 16) (fun _ => none) (As := [sj_i (8 + v2), sj_i (V1 a0 33)]) (rest := []) (b := a0) (ok9 ha0) h dX9_soilLine_16 mw_X9_386 vw_X9_tells (fun _ _ hc => cg_X9_tells ha0 hc) rfl ⟨(Nat.le_of_ble_eq_true rfl), (Nat.le_of_ble_eq_true rfl)⟩ (Nat.le_of_ble_eq_true rfl) rfl (fun _u V3 h => ?_)
  refine r_aload_n (pc := 19) dX9_soilLine_19 rfl rfl ?_
  refine r_gRs (b := a0 + 1) (pc := 20) dX9_soilLine_20 fw_X9_9 rfl (ok9 ha0) (ok9_0 ha0).1 ?_
  refine r_sipush (pc := 23) dX9_soilLine_23 ⟨by decide, by decide⟩ ?_
  refine r_iconst (pc := 26) dX9_soilLine_26 ?_
  refine r_iload_n (pc := 27) dX9_soilLine_27 rfl rfl ?_
  refine r_imul (pc := 28) dX9_soilLine_28 ?_
  refine r_iadd (pc := 29) dX9_soilLine_29 ?_
  refine r_aload_n (pc := 30) dX9_soilLine_30 rfl rfl ?_
  refine r_iconst (pc := 31) dX9_soilLine_31 ?_
  refine r_bipush (pc := 32) dX9_soilLine_32 ⟨by decide, by decide⟩ ?_
  refine r_callVs (pc := 34) (fun v => some (sj_i v)) (As := [sj_i 1, sj_i 30]) (rest := [(sj_i (290 + (3 * v2))), (sj_r (some (a0 + 1)))]) (b := a0) (ok9 ha0) h dX9_soilLine_34 mw_X9_383 vw_X9_number (fun _ _ hc => cg_X9_number ha0 hc) rfl ⟨(Nat.le_of_ble_eq_true rfl), (Nat.le_of_ble_eq_true rfl)⟩ (Nat.le_of_ble_eq_true rfl) rfl (fun v5 V4 h => ?_)
  refine r_iastores (pc := 37) h dX9_soilLine_37 (ok9_0 ha0).2 (fun V6 h => ?_)
  refine r_aload_n (pc := 38) dX9_soilLine_38 rfl rfl ?_
  refine r_gRs (b := a0 + 1) (pc := 39) dX9_soilLine_39 fw_X9_9 rfl (ok9 ha0) (ok9_0 ha0).1 ?_
  refine r_sipush (pc := 42) dX9_soilLine_42 ⟨by decide, by decide⟩ ?_
  refine r_iconst (pc := 45) dX9_soilLine_45 ?_
  refine r_iload_n (pc := 46) dX9_soilLine_46 rfl rfl ?_
  refine r_imul (pc := 47) dX9_soilLine_47 ?_
  refine r_iadd (pc := 48) dX9_soilLine_48 ?_
  refine r_iconst (pc := 49) dX9_soilLine_49 ?_
  refine r_iadd (pc := 50) dX9_soilLine_50 ?_
  refine r_aload_n (pc := 51) dX9_soilLine_51 rfl rfl ?_
  refine r_iconst (pc := 52) dX9_soilLine_52 ?_
  refine r_sipush (pc := 53) dX9_soilLine_53 ⟨by decide, by decide⟩ ?_
  refine r_callVs (pc := 56) (fun v => some (sj_i v)) (As := [sj_i 0, sj_i 200]) (rest := [(sj_i ((290 + (3 * v2)) + 1)), (sj_r (some (a0 + 1)))]) (b := a0) (ok9 ha0) h dX9_soilLine_56 mw_X9_383 vw_X9_number (fun _ _ hc => cg_X9_number ha0 hc) rfl ⟨(Nat.le_of_ble_eq_true rfl), (Nat.le_of_ble_eq_true rfl)⟩ (Nat.le_of_ble_eq_true rfl) rfl (fun v8 V7 h => ?_)
  refine r_iastores (pc := 59) h dX9_soilLine_59 (ok9_0 ha0).2 (fun V9 h => ?_)
  refine r_aload_n (pc := 60) dX9_soilLine_60 rfl rfl ?_
  refine r_gRs (b := a0 + 1) (pc := 61) dX9_soilLine_61 fw_X9_9 rfl (ok9 ha0) (ok9_0 ha0).1 ?_
  refine r_sipush (pc := 64) dX9_soilLine_64 ⟨by decide, by decide⟩ ?_
  refine r_iconst (pc := 67) dX9_soilLine_67 ?_
  refine r_iload_n (pc := 68) dX9_soilLine_68 rfl rfl ?_
  refine r_imul (pc := 69) dX9_soilLine_69 ?_
  refine r_iadd (pc := 70) dX9_soilLine_70 ?_
  refine r_iconst (pc := 71) dX9_soilLine_71 ?_
  refine r_iadd (pc := 72) dX9_soilLine_72 ?_
  refine r_aload_n (pc := 73) dX9_soilLine_73 rfl rfl ?_
  refine r_iconst (pc := 74) dX9_soilLine_74 ?_
  refine r_sipush (pc := 75) dX9_soilLine_75 ⟨by decide, by decide⟩ ?_
  refine r_callVs (pc := 78) (fun v => some (sj_i v)) (As := [sj_i 0, sj_i 1500]) (rest := [(sj_i ((290 + (3 * v2)) + 2)), (sj_r (some (a0 + 1)))]) (b := a0) (ok9 ha0) h dX9_soilLine_78 mw_X9_383 vw_X9_number (fun _ _ hc => cg_X9_number ha0 hc) rfl ⟨(Nat.le_of_ble_eq_true rfl), (Nat.le_of_ble_eq_true rfl)⟩ (Nat.le_of_ble_eq_true rfl) rfl (fun v11 V10 h => ?_)
  refine r_iastores (pc := 81) h dX9_soilLine_81 (ok9_0 ha0).2 (fun V12 h => ?_)
  exact r_vrets (pc := 82) h rfl dX9_soilLine_82
set_option maxHeartbeats 4000000 in
theorem cg_X9_soilLine {X : sj_X} {g : sj_G} {N : Nat} {a0 : Nat} {V : sj_VV} {q : Unit × sj_VV} (ha0 : OK9 g a0) (h : g_X9_soilLine N a0 V = some q) : sj_C X m_X9_soilLine [sj_r (some a0)] (g, V) (none, (g, q.2)) :=
  sj_C_of (by decide +kernel) (Nat.le_of_ble_eq_true rfl) (lo := [some (sj_r (some a0)), none]) rfl (sj_weak (l2 := [some (sj_r (some a0)), none]) (⟨rfl, trivial⟩) (st_X9_soilLine_0 a0 V ha0 h))
set_option maxHeartbeats 4000000 in
theorem c_X9_soilLine {X : sj_X} {N : Nat} {a0 : Nat} {s : sj_Mem} {q : Unit × sj_Mem} (h : f_X9_soilLine N a0 s = some q) : sj_C X m_X9_soilLine [sj_r (some a0)] s (none, q.2) := by
  obtain ⟨g, V⟩ := s
  unfold f_X9_soilLine at h
  obtain ⟨ho, h1⟩ := e_ok_some h
  obtain ⟨q2, h2, rfl⟩ := sj_map_some h1
  exact cg_X9_soilLine ho h2
theorem dX9_runs_0 : decode cX9_runs 0 = .ok (.iconst 0, 1) := by decide +kernel
theorem dX9_runs_1 : decode cX9_runs 1 = .ok (.istore_n 3, 1) := by decide +kernel
theorem dX9_runs_2 : decode cX9_runs 2 = .ok (.aload_n 0, 1) := by decide +kernel
theorem dX9_runs_3 : decode cX9_runs 3 = .ok (.getfield 346, 3) := by decide +kernel
theorem dX9_runs_6 : decode cX9_runs 6 = .ok (.ifCond .ne 133, 3) := by decide +kernel
theorem dX9_runs_9 : decode cX9_runs 9 = .ok (.iload_n 3, 1) := by decide +kernel
theorem dX9_runs_10 : decode cX9_runs 10 = .ok (.ifCond .eq 10, 3) := by decide +kernel
theorem dX9_runs_13 : decode cX9_runs 13 = .ok (.aload_n 0, 1) := by decide +kernel
theorem dX9_runs_14 : decode cX9_runs 14 = .ok (.invokevirtual 365, 3) := by decide +kernel
theorem dX9_runs_17 : decode cX9_runs 17 = .ok (.ifCond .eq 122, 3) := by decide +kernel
theorem dX9_runs_20 : decode cX9_runs 20 = .ok (.iload_n 3, 1) := by decide +kernel
theorem dX9_runs_21 : decode cX9_runs 21 = .ok (.aload_n 0, 1) := by decide +kernel
theorem dX9_runs_22 : decode cX9_runs 22 = .ok (.getfield 9, 3) := by decide +kernel
theorem dX9_runs_25 : decode cX9_runs 25 = .ok (.iconst 0, 1) := by decide +kernel
theorem dX9_runs_26 : decode cX9_runs 26 = .ok (.iaload, 1) := by decide +kernel
theorem dX9_runs_27 : decode cX9_runs 27 = .ok (.if_icmp .le 13, 3) := by decide +kernel
theorem dX9_runs_30 : decode cX9_runs 30 = .ok (.aload_n 0, 1) := by decide +kernel
theorem dX9_runs_31 : decode cX9_runs 31 = .ok (.iconst 1, 1) := by decide +kernel
theorem dX9_runs_32 : decode cX9_runs 32 = .ok (.aload_n 0, 1) := by decide +kernel
theorem dX9_runs_33 : decode cX9_runs 33 = .ok (.getfield 349, 3) := by decide +kernel
theorem dX9_runs_36 : decode cX9_runs 36 = .ok (.invokevirtual 362, 3) := by decide +kernel
theorem dX9_runs_39 : decode cX9_runs 39 = .ok (.return_, 1) := by decide +kernel
theorem dX9_runs_40 : decode cX9_runs 40 = .ok (.aload_n 0, 1) := by decide +kernel
theorem dX9_runs_41 : decode cX9_runs 41 = .ok (.iconst 0, 1) := by decide +kernel
theorem dX9_runs_42 : decode cX9_runs 42 = .ok (.iload_n 2, 1) := by decide +kernel
theorem dX9_runs_43 : decode cX9_runs 43 = .ok (.invokevirtual 383, 3) := by decide +kernel
theorem dX9_runs_46 : decode cX9_runs 46 = .ok (.istore 4, 2) := by decide +kernel
theorem dX9_runs_48 : decode cX9_runs 48 = .ok (.iconst 1, 1) := by decide +kernel
theorem dX9_runs_49 : decode cX9_runs 49 = .ok (.istore 5, 2) := by decide +kernel
theorem dX9_runs_51 : decode cX9_runs 51 = .ok (.aload_n 0, 1) := by decide +kernel
theorem dX9_runs_52 : decode cX9_runs 52 = .ok (.getfield 346, 3) := by decide +kernel
theorem dX9_runs_55 : decode cX9_runs 55 = .ok (.ifCond .ne 39, 3) := by decide +kernel
theorem dX9_runs_58 : decode cX9_runs 58 = .ok (.aload_n 0, 1) := by decide +kernel
theorem dX9_runs_59 : decode cX9_runs 59 = .ok (.bipush 42, 2) := by decide +kernel
theorem dX9_runs_61 : decode cX9_runs 61 = .ok (.invokevirtual 359, 3) := by decide +kernel
theorem dX9_runs_64 : decode cX9_runs 64 = .ok (.ifCond .eq 30, 3) := by decide +kernel
theorem dX9_runs_67 : decode cX9_runs 67 = .ok (.aload_n 0, 1) := by decide +kernel
theorem dX9_runs_68 : decode cX9_runs 68 = .ok (.dup, 1) := by decide +kernel
theorem dX9_runs_69 : decode cX9_runs 69 = .ok (.getfield 349, 3) := by decide +kernel
theorem dX9_runs_72 : decode cX9_runs 72 = .ok (.iconst 1, 1) := by decide +kernel
theorem dX9_runs_73 : decode cX9_runs 73 = .ok (.iadd, 1) := by decide +kernel
theorem dX9_runs_74 : decode cX9_runs 74 = .ok (.putfield 349, 3) := by decide +kernel
theorem dX9_runs_77 : decode cX9_runs 77 = .ok (.aload_n 0, 1) := by decide +kernel
theorem dX9_runs_78 : decode cX9_runs 78 = .ok (.iconst 1, 1) := by decide +kernel
theorem dX9_runs_79 : decode cX9_runs 79 = .ok (.aload_n 0, 1) := by decide +kernel
theorem dX9_runs_80 : decode cX9_runs 80 = .ok (.getfield 9, 3) := by decide +kernel
theorem dX9_runs_83 : decode cX9_runs 83 = .ok (.iconst 0, 1) := by decide +kernel
theorem dX9_runs_84 : decode cX9_runs 84 = .ok (.iaload, 1) := by decide +kernel
theorem dX9_runs_85 : decode cX9_runs 85 = .ok (.iconst 1, 1) := by decide +kernel
theorem dX9_runs_86 : decode cX9_runs 86 = .ok (.iadd, 1) := by decide +kernel
theorem dX9_runs_87 : decode cX9_runs 87 = .ok (.iload_n 3, 1) := by decide +kernel
theorem dX9_runs_88 : decode cX9_runs 88 = .ok (.isub, 1) := by decide +kernel
theorem dX9_runs_89 : decode cX9_runs 89 = .ok (.invokevirtual 383, 3) := by decide +kernel
theorem dX9_runs_92 : decode cX9_runs 92 = .ok (.istore 5, 2) := by decide +kernel
theorem dX9_runs_94 : decode cX9_runs 94 = .ok (.aload_n 0, 1) := by decide +kernel
theorem dX9_runs_95 : decode cX9_runs 95 = .ok (.getfield 346, 3) := by decide +kernel
theorem dX9_runs_98 : decode cX9_runs 98 = .ok (.ifCond .eq 4, 3) := by decide +kernel
theorem dX9_runs_101 : decode cX9_runs 101 = .ok (.return_, 1) := by decide +kernel
theorem dX9_runs_102 : decode cX9_runs 102 = .ok (.iconst 0, 1) := by decide +kernel
theorem dX9_runs_103 : decode cX9_runs 103 = .ok (.istore 6, 2) := by decide +kernel
theorem dX9_runs_105 : decode cX9_runs 105 = .ok (.iload 6, 2) := by decide +kernel
theorem dX9_runs_107 : decode cX9_runs 107 = .ok (.iload 5, 2) := by decide +kernel
theorem dX9_runs_109 : decode cX9_runs 109 = .ok (.if_icmp .ge 22, 3) := by decide +kernel
theorem dX9_runs_112 : decode cX9_runs 112 = .ok (.aload_n 0, 1) := by decide +kernel
theorem dX9_runs_113 : decode cX9_runs 113 = .ok (.getfield 9, 3) := by decide +kernel
theorem dX9_runs_116 : decode cX9_runs 116 = .ok (.iload_n 1, 1) := by decide +kernel
theorem dX9_runs_117 : decode cX9_runs 117 = .ok (.iload_n 3, 1) := by decide +kernel
theorem dX9_runs_118 : decode cX9_runs 118 = .ok (.iadd, 1) := by decide +kernel
theorem dX9_runs_119 : decode cX9_runs 119 = .ok (.iload 6, 2) := by decide +kernel
theorem dX9_runs_121 : decode cX9_runs 121 = .ok (.iadd, 1) := by decide +kernel
theorem dX9_runs_122 : decode cX9_runs 122 = .ok (.iload 4, 2) := by decide +kernel
theorem dX9_runs_124 : decode cX9_runs 124 = .ok (.iastore, 1) := by decide +kernel
theorem dX9_runs_125 : decode cX9_runs 125 = .ok (.iinc 6 1, 3) := by decide +kernel
theorem dX9_runs_128 : decode cX9_runs 128 = .ok (.goto (-23), 3) := by decide +kernel
theorem dX9_runs_131 : decode cX9_runs 131 = .ok (.iload_n 3, 1) := by decide +kernel
theorem dX9_runs_132 : decode cX9_runs 132 = .ok (.iload 5, 2) := by decide +kernel
theorem dX9_runs_134 : decode cX9_runs 134 = .ok (.iadd, 1) := by decide +kernel
theorem dX9_runs_135 : decode cX9_runs 135 = .ok (.istore_n 3, 1) := by decide +kernel
theorem dX9_runs_136 : decode cX9_runs 136 = .ok (.goto (-134), 3) := by decide +kernel
theorem dX9_runs_139 : decode cX9_runs 139 = .ok (.aload_n 0, 1) := by decide +kernel
theorem dX9_runs_140 : decode cX9_runs 140 = .ok (.getfield 346, 3) := by decide +kernel
theorem dX9_runs_143 : decode cX9_runs 143 = .ok (.ifCond .ne 35, 3) := by decide +kernel
theorem dX9_runs_146 : decode cX9_runs 146 = .ok (.iload_n 3, 1) := by decide +kernel
theorem dX9_runs_147 : decode cX9_runs 147 = .ok (.aload_n 0, 1) := by decide +kernel
theorem dX9_runs_148 : decode cX9_runs 148 = .ok (.getfield 9, 3) := by decide +kernel
theorem dX9_runs_151 : decode cX9_runs 151 = .ok (.iconst 0, 1) := by decide +kernel
theorem dX9_runs_152 : decode cX9_runs 152 = .ok (.iaload, 1) := by decide +kernel
theorem dX9_runs_153 : decode cX9_runs 153 = .ok (.if_icmp .gt 25, 3) := by decide +kernel
theorem dX9_runs_156 : decode cX9_runs 156 = .ok (.aload_n 0, 1) := by decide +kernel
theorem dX9_runs_157 : decode cX9_runs 157 = .ok (.aload_n 0, 1) := by decide +kernel
theorem dX9_runs_158 : decode cX9_runs 158 = .ok (.bipush 59, 2) := by decide +kernel
theorem dX9_runs_160 : decode cX9_runs 160 = .ok (.invokevirtual 359, 3) := by decide +kernel
theorem dX9_runs_163 : decode cX9_runs 163 = .ok (.ifCond .eq 7, 3) := by decide +kernel
theorem dX9_runs_166 : decode cX9_runs 166 = .ok (.iconst 2, 1) := by decide +kernel
theorem dX9_runs_167 : decode cX9_runs 167 = .ok (.goto 4, 3) := by decide +kernel
theorem dX9_runs_170 : decode cX9_runs 170 = .ok (.iconst 1, 1) := by decide +kernel
theorem dX9_runs_171 : decode cX9_runs 171 = .ok (.aload_n 0, 1) := by decide +kernel
theorem dX9_runs_172 : decode cX9_runs 172 = .ok (.getfield 349, 3) := by decide +kernel
theorem dX9_runs_175 : decode cX9_runs 175 = .ok (.invokevirtual 362, 3) := by decide +kernel
theorem dX9_runs_178 : decode cX9_runs 178 = .ok (.return_, 1) := by decide +kernel
set_option maxHeartbeats 4000000 in
theorem st_X9_runs_105_b {X : sj_X} {g : sj_G} {s0 : sj_Mem} {N : Nat} {q : Unit × sj_VV} {k2 : Nat → Int → Int → Int → sj_VV → Option (Unit × sj_VV)} {k105 : Nat → Int → Int → Int → Int → Int → Int → sj_VV → Option (Unit × sj_VV)} (hk2 : ∀ (a0 : Nat) (x1 : Int) (x2 : Int) (x3 : Int) (V : sj_VV), OK9 g a0 → k2 a0 x1 x2 x3 V = some q → sj_T X m_X9_runs s0 (none, (g, q.2)) 2 [some (sj_r (some a0)), some (sj_i x1), some (sj_i x2), some (sj_i x3), none, none, none] [] (g, V)) (hk105 : ∀ (a0 : Nat) (x1 : Int) (x2 : Int) (x3 : Int) (x4 : Int) (x5 : Int) (x6 : Int) (V : sj_VV), OK9 g a0 → k105 a0 x1 x2 x3 x4 x5 x6 V = some q → sj_T X m_X9_runs s0 (none, (g, q.2)) 105 [some (sj_r (some a0)), some (sj_i x1), some (sj_i x2), some (sj_i x3), some (sj_i x4), some (sj_i x5), some (sj_i x6)] [] (g, V)) :
    ∀ (a0 : Nat) (x1 : Int) (x2 : Int) (x3 : Int) (x4 : Int) (x5 : Int) (x6 : Int) (V : sj_VV), OK9 g a0 → g_X9_runs_105_b N k2 k105 a0 x1 x2 x3 x4 x5 x6 V = some q → sj_T X m_X9_runs s0 (none, (g, q.2)) 105 [some (sj_r (some a0)), some (sj_i x1), some (sj_i x2), some (sj_i x3), some (sj_i x4), some (sj_i x5), some (sj_i x6)] [] (g, V) := by
  intro a0 x1 x2 x3 x4 x5 x6 V ha0 h
  unfold g_X9_runs_105_b at h
  refine r_iload (pc := 105) dX9_runs_105 rfl ?_
  refine r_iload (pc := 107) dX9_runs_107 rfl ?_
  refine r_icmp_ge (pc := 109) (tgt := 131) h dX9_runs_109 (by decide) (fun h => ?_) (fun h => ?_)
  · refine r_iload_n (pc := 131) dX9_runs_131 rfl rfl ?_
    refine r_iload (pc := 132) dX9_runs_132 rfl ?_
    refine r_iadd (pc := 134) dX9_runs_134 ?_
    refine r_istore_nL (ln := fun w => [some (sj_r (some a0)), some (sj_i x1), some (sj_i x2), some (sj_i w), some (sj_i x4), some (sj_i x5), some (sj_i x6)]) (pc := 135) h dX9_runs_135 rfl (Nat.le_of_ble_eq_true rfl) (fun _ => rfl) (fun v1 h => ?_)
    refine r_goto (pc := 136) (tgt := 2) dX9_runs_136 (by decide) ?_
    exact sj_weak (l2 := [some (sj_r (some a0)), some (sj_i x1), some (sj_i x2), some (sj_i v1), none, none, none]) (⟨rfl, ⟨rfl, ⟨rfl, ⟨rfl, trivial⟩⟩⟩⟩) (hk2 a0 x1 x2 v1 V ha0 h)
  · refine r_aload_n (pc := 112) dX9_runs_112 rfl rfl ?_
    refine r_gRs (b := a0 + 1) (pc := 113) dX9_runs_113 fw_X9_9 rfl (ok9 ha0) (ok9_0 ha0).1 ?_
    refine r_iload_n (pc := 116) dX9_runs_116 rfl rfl ?_
    refine r_iload_n (pc := 117) dX9_runs_117 rfl rfl ?_
    refine r_iadd (pc := 118) dX9_runs_118 ?_
    refine r_iload (pc := 119) dX9_runs_119 rfl ?_
    refine r_iadd (pc := 121) dX9_runs_121 ?_
    refine r_iload (pc := 122) dX9_runs_122 rfl ?_
    refine r_iastores (pc := 124) h dX9_runs_124 (ok9_0 ha0).2 (fun V2 h => ?_)
    refine r_iinc (ln := fun w => [some (sj_r (some a0)), some (sj_i x1), some (sj_i x2), some (sj_i x3), some (sj_i x4), some (sj_i x5), some (sj_i w)]) (pc := 125) h dX9_runs_125 rfl (Nat.le_of_ble_eq_true rfl) (fun _ => rfl) (fun v3 h => ?_)
    refine r_goto (pc := 128) (tgt := 105) dX9_runs_128 (by decide) ?_
    exact sj_weak (l2 := [some (sj_r (some a0)), some (sj_i x1), some (sj_i x2), some (sj_i x3), some (sj_i x4), some (sj_i x5), some (sj_i v3)]) (⟨rfl, ⟨rfl, ⟨rfl, ⟨rfl, ⟨rfl, ⟨rfl, ⟨rfl, trivial⟩⟩⟩⟩⟩⟩⟩) (hk105 a0 x1 x2 x3 x4 x5 v3 V2 ha0 h)
set_option maxHeartbeats 4000000 in
theorem st_X9_runs_105 {X : sj_X} {g : sj_G} {s0 : sj_Mem} {N : Nat} {q : Unit × sj_VV} {k2 : Nat → Int → Int → Int → sj_VV → Option (Unit × sj_VV)} (hk2 : ∀ (a0 : Nat) (x1 : Int) (x2 : Int) (x3 : Int) (V : sj_VV), OK9 g a0 → k2 a0 x1 x2 x3 V = some q → sj_T X m_X9_runs s0 (none, (g, q.2)) 2 [some (sj_r (some a0)), some (sj_i x1), some (sj_i x2), some (sj_i x3), none, none, none] [] (g, V)) :
    ∀ (n : Nat) (a0 : Nat) (x1 : Int) (x2 : Int) (x3 : Int) (x4 : Int) (x5 : Int) (x6 : Int) (V : sj_VV), OK9 g a0 → g_X9_runs_105 N k2 n a0 x1 x2 x3 x4 x5 x6 V = some q → sj_T X m_X9_runs s0 (none, (g, q.2)) 105 [some (sj_r (some a0)), some (sj_i x1), some (sj_i x2), some (sj_i x3), some (sj_i x4), some (sj_i x5), some (sj_i x6)] [] (g, V) := by
  intro n
  induction n with
  | zero => intro a0 x1 x2 x3 x4 x5 x6 V ha0 h; exact nomatch h
  | succ n ih => intro a0 x1 x2 x3 x4 x5 x6 V ha0 h; exact st_X9_runs_105_b (N := N) hk2 ih a0 x1 x2 x3 x4 x5 x6 V ha0 h
set_option maxHeartbeats 4000000 in
theorem st_X9_runs_94 {X : sj_X} {g : sj_G} {s0 : sj_Mem} {N : Nat} {q : Unit × sj_VV} {k2 : Nat → Int → Int → Int → sj_VV → Option (Unit × sj_VV)} (hk2 : ∀ (a0 : Nat) (x1 : Int) (x2 : Int) (x3 : Int) (V : sj_VV), OK9 g a0 → k2 a0 x1 x2 x3 V = some q → sj_T X m_X9_runs s0 (none, (g, q.2)) 2 [some (sj_r (some a0)), some (sj_i x1), some (sj_i x2), some (sj_i x3), none, none, none] [] (g, V)) :
    ∀ (a0 : Nat) (x1 : Int) (x2 : Int) (x3 : Int) (x4 : Int) (x5 : Int) (V : sj_VV), OK9 g a0 → g_X9_runs_94 N k2 a0 x1 x2 x3 x4 x5 V = some q → sj_T X m_X9_runs s0 (none, (g, q.2)) 94 [some (sj_r (some a0)), some (sj_i x1), some (sj_i x2), some (sj_i x3), some (sj_i x4), some (sj_i x5), none] [] (g, V) := by
  intro a0 x1 x2 x3 x4 x5 V ha0 h
  unfold g_X9_runs_94 at h
  refine r_aload_n (pc := 94) dX9_runs_94 rfl rfl ?_
  refine r_gIs (pc := 95) dX9_runs_95 fw_X9_346 rfl (ok9 ha0) ?_
  refine r_if_eq (pc := 98) (tgt := 102) h dX9_runs_98 (by decide) (fun h => ?_) (fun h => ?_)
  · refine r_iconst (pc := 102) dX9_runs_102 ?_
    refine r_istore (ln := [some (sj_r (some a0)), some (sj_i x1), some (sj_i x2), some (sj_i x3), some (sj_i x4), some (sj_i x5), some (sj_i 0)]) (pc := 103) dX9_runs_103 (Nat.le_of_ble_eq_true rfl) rfl ?_
    exact sj_weak (l2 := [some (sj_r (some a0)), some (sj_i x1), some (sj_i x2), some (sj_i x3), some (sj_i x4), some (sj_i x5), some (sj_i 0)]) (⟨rfl, ⟨rfl, ⟨rfl, ⟨rfl, ⟨rfl, ⟨rfl, ⟨rfl, trivial⟩⟩⟩⟩⟩⟩⟩) (st_X9_runs_105 hk2 N a0 x1 x2 x3 x4 x5 0 V ha0 h)
  · exact r_vrets (pc := 101) h rfl dX9_runs_101
set_option maxHeartbeats 4000000 in
theorem st_X9_runs_20 {X : sj_X} {g : sj_G} {s0 : sj_Mem} {N : Nat} {q : Unit × sj_VV} {k2 : Nat → Int → Int → Int → sj_VV → Option (Unit × sj_VV)} (hk2 : ∀ (a0 : Nat) (x1 : Int) (x2 : Int) (x3 : Int) (V : sj_VV), OK9 g a0 → k2 a0 x1 x2 x3 V = some q → sj_T X m_X9_runs s0 (none, (g, q.2)) 2 [some (sj_r (some a0)), some (sj_i x1), some (sj_i x2), some (sj_i x3), none, none, none] [] (g, V)) :
    ∀ (a0 : Nat) (x1 : Int) (x2 : Int) (x3 : Int) (V : sj_VV), OK9 g a0 → g_X9_runs_20 N k2 a0 x1 x2 x3 V = some q → sj_T X m_X9_runs s0 (none, (g, q.2)) 20 [some (sj_r (some a0)), some (sj_i x1), some (sj_i x2), some (sj_i x3), none, none, none] [] (g, V) := by
  intro a0 x1 x2 x3 V ha0 h
  unfold g_X9_runs_20 at h
  refine r_iload_n (pc := 20) dX9_runs_20 rfl rfl ?_
  refine r_aload_n (pc := 21) dX9_runs_21 rfl rfl ?_
  refine r_gRs (b := a0 + 1) (pc := 22) dX9_runs_22 fw_X9_9 rfl (ok9 ha0) (ok9_0 ha0).1 ?_
  refine r_iconst (pc := 25) dX9_runs_25 ?_
  refine r_ialoads (pc := 26) h dX9_runs_26 (ok9_0 ha0).2 (fun h => ?_)
  refine r_icmp_le (pc := 27) (tgt := 40) h dX9_runs_27 (by decide) (fun h => ?_) (fun h => ?_)
  · refine r_aload_n (pc := 40) dX9_runs_40 rfl rfl ?_
    refine r_iconst (pc := 41) dX9_runs_41 ?_
    refine r_iload_n (pc := 42) dX9_runs_42 rfl rfl ?_
    refine r_callVs (pc := 43) (fun v => some (sj_i v)) (As := [sj_i 0, sj_i x2]) (rest := []) (b := a0) (ok9 ha0) h dX9_runs_43 mw_X9_383 vw_X9_number (fun _ _ hc => cg_X9_number ha0 hc) rfl ⟨(Nat.le_of_ble_eq_true rfl), (Nat.le_of_ble_eq_true rfl)⟩ (Nat.le_of_ble_eq_true rfl) rfl (fun v2 V1 h => ?_)
    refine r_istore (ln := [some (sj_r (some a0)), some (sj_i x1), some (sj_i x2), some (sj_i x3), some (sj_i v2), none, none]) (pc := 46) dX9_runs_46 (Nat.le_of_ble_eq_true rfl) rfl ?_
    refine r_iconst (pc := 48) dX9_runs_48 ?_
    refine r_istore (ln := [some (sj_r (some a0)), some (sj_i x1), some (sj_i x2), some (sj_i x3), some (sj_i v2), some (sj_i 1), none]) (pc := 49) dX9_runs_49 (Nat.le_of_ble_eq_true rfl) rfl ?_
    refine r_aload_n (pc := 51) dX9_runs_51 rfl rfl ?_
    refine r_gIs (pc := 52) dX9_runs_52 fw_X9_346 rfl (ok9 ha0) ?_
    refine r_if_ne (pc := 55) (tgt := 94) h dX9_runs_55 (by decide) (fun h => ?_) (fun h => ?_)
    · refine r_aload_n (pc := 58) dX9_runs_58 rfl rfl ?_
      refine r_bipush (pc := 59) dX9_runs_59 ⟨by decide, by decide⟩ ?_
      refine r_callVs (pc := 61) (fun v => some (sj_i v)) (As := [sj_i 42]) (rest := []) (b := a0) (ok9 ha0) h dX9_runs_61 mw_X9_359 vw_X9_isNext (fun _ _ hc => cg_X9_isNext ha0 hc) rfl ⟨(Nat.le_of_ble_eq_true rfl), (Nat.le_of_ble_eq_true rfl)⟩ (Nat.le_of_ble_eq_true rfl) rfl (fun v4 V3 h => ?_)
      refine r_if_eq (pc := 64) (tgt := 94) h dX9_runs_64 (by decide) (fun h => ?_) (fun h => ?_)
      · exact sj_weak (l2 := [some (sj_r (some a0)), some (sj_i x1), some (sj_i x2), some (sj_i x3), some (sj_i v2), some (sj_i 1), none]) (⟨rfl, ⟨rfl, ⟨rfl, ⟨rfl, ⟨rfl, ⟨rfl, trivial⟩⟩⟩⟩⟩⟩) (st_X9_runs_94 hk2 a0 x1 x2 x3 v2 1 V3 ha0 h)
      · refine r_aload_n (pc := 67) dX9_runs_67 rfl rfl ?_
        refine r_dup (pc := 68) dX9_runs_68 rfl ?_
        refine r_gIs (pc := 69) dX9_runs_69 fw_X9_349 rfl (ok9 ha0) ?_
        refine r_iconst (pc := 72) dX9_runs_72 ?_
        refine r_iadd (pc := 73) dX9_runs_73 ?_
        refine r_pIs (pc := 74) h dX9_runs_74 fw_X9_349 rfl rfl (nf9_29) (ok9 ha0) (fun V5 h => ?_)
        refine r_aload_n (pc := 77) dX9_runs_77 rfl rfl ?_
        refine r_iconst (pc := 78) dX9_runs_78 ?_
        refine r_aload_n (pc := 79) dX9_runs_79 rfl rfl ?_
        refine r_gRs (b := a0 + 1) (pc := 80) dX9_runs_80 fw_X9_9 rfl (ok9 ha0) (ok9_0 ha0).1 ?_
        refine r_iconst (pc := 83) dX9_runs_83 ?_
        refine r_ialoads (pc := 84) h dX9_runs_84 (ok9_0 ha0).2 (fun h => ?_)
        refine r_iconst (pc := 85) dX9_runs_85 ?_
        refine r_iadd (pc := 86) dX9_runs_86 ?_
        refine r_iload_n (pc := 87) dX9_runs_87 rfl rfl ?_
        refine r_isub (pc := 88) dX9_runs_88 ?_
        refine r_callVs (pc := 89) (fun v => some (sj_i v)) (As := [sj_i 1, sj_i (((V5 (a0 + 1) (0 : Int).toNat) + 1) - x3)]) (rest := []) (b := a0) (ok9 ha0) h dX9_runs_89 mw_X9_383 vw_X9_number (fun _ _ hc => cg_X9_number ha0 hc) rfl ⟨(Nat.le_of_ble_eq_true rfl), (Nat.le_of_ble_eq_true rfl)⟩ (Nat.le_of_ble_eq_true rfl) rfl (fun v7 V6 h => ?_)
        refine r_istore (ln := [some (sj_r (some a0)), some (sj_i x1), some (sj_i x2), some (sj_i x3), some (sj_i v2), some (sj_i v7), none]) (pc := 92) dX9_runs_92 (Nat.le_of_ble_eq_true rfl) rfl ?_
        exact sj_weak (l2 := [some (sj_r (some a0)), some (sj_i x1), some (sj_i x2), some (sj_i x3), some (sj_i v2), some (sj_i v7), none]) (⟨rfl, ⟨rfl, ⟨rfl, ⟨rfl, ⟨rfl, ⟨rfl, trivial⟩⟩⟩⟩⟩⟩) (st_X9_runs_94 hk2 a0 x1 x2 x3 v2 v7 V6 ha0 h)
    · exact sj_weak (l2 := [some (sj_r (some a0)), some (sj_i x1), some (sj_i x2), some (sj_i x3), some (sj_i v2), some (sj_i 1), none]) (⟨rfl, ⟨rfl, ⟨rfl, ⟨rfl, ⟨rfl, ⟨rfl, trivial⟩⟩⟩⟩⟩⟩) (st_X9_runs_94 hk2 a0 x1 x2 x3 v2 1 V1 ha0 h)
  · refine r_aload_n (pc := 30) dX9_runs_30 rfl rfl ?_
    refine r_iconst (pc := 31) dX9_runs_31 ?_
    refine r_aload_n (pc := 32) dX9_runs_32 rfl rfl ?_
    refine r_gIs (pc := 33) dX9_runs_33 fw_X9_349 rfl (ok9 ha0) ?_
    refine r_callVs (pc := 36) (fun _ => none) (As := [sj_i 1, sj_i (V a0 29)]) (rest := []) (b := a0) (ok9 ha0) h dX9_runs_36 mw_X9_362 vw_X9_wrong (fun _ _ hc => cg_X9_wrong ha0 hc) rfl ⟨(Nat.le_of_ble_eq_true rfl), (Nat.le_of_ble_eq_true rfl)⟩ (Nat.le_of_ble_eq_true rfl) rfl (fun _u V8 h => ?_)
    exact r_vrets (pc := 39) h rfl dX9_runs_39
set_option maxHeartbeats 4000000 in
theorem st_X9_runs_171 {X : sj_X} {g : sj_G} {s0 : sj_Mem} {N : Nat} {q : Unit × sj_VV} :
    ∀ (a0 : Nat) (y0 : Int) (y1 : Nat) (V : sj_VV), OK9 g a0 → OK9 g y1 → g_X9_runs_171 N a0 y0 y1 V = some q → sj_T X m_X9_runs s0 (none, (g, q.2)) 171 [some (sj_r (some a0)), none, none, none, none, none, none] [(sj_i y0), (sj_r (some y1))] (g, V) := by
  intro a0 y0 y1 V ha0 hy1 h
  unfold g_X9_runs_171 at h
  refine r_aload_n (pc := 171) dX9_runs_171 rfl rfl ?_
  refine r_gIs (pc := 172) dX9_runs_172 fw_X9_349 rfl (ok9 ha0) ?_
  refine r_callVs (pc := 175) (fun _ => none) (As := [sj_i y0, sj_i (V a0 29)]) (rest := []) (b := y1) (ok9 hy1) h dX9_runs_175 mw_X9_362 vw_X9_wrong (fun _ _ hc => cg_X9_wrong hy1 hc) rfl ⟨(Nat.le_of_ble_eq_true rfl), (Nat.le_of_ble_eq_true rfl)⟩ (Nat.le_of_ble_eq_true rfl) rfl (fun _u V1 h => ?_)
  exact r_vrets (pc := 178) h rfl dX9_runs_178
set_option maxHeartbeats 4000000 in
theorem st_X9_runs_139 {X : sj_X} {g : sj_G} {s0 : sj_Mem} {N : Nat} {q : Unit × sj_VV} :
    ∀ (a0 : Nat) (x3 : Int) (V : sj_VV), OK9 g a0 → g_X9_runs_139 N a0 x3 V = some q → sj_T X m_X9_runs s0 (none, (g, q.2)) 139 [some (sj_r (some a0)), none, none, some (sj_i x3), none, none, none] [] (g, V) := by
  intro a0 x3 V ha0 h
  unfold g_X9_runs_139 at h
  refine r_aload_n (pc := 139) dX9_runs_139 rfl rfl ?_
  refine r_gIs (pc := 140) dX9_runs_140 fw_X9_346 rfl (ok9 ha0) ?_
  refine r_if_ne (pc := 143) (tgt := 178) h dX9_runs_143 (by decide) (fun h => ?_) (fun h => ?_)
  · refine r_iload_n (pc := 146) dX9_runs_146 rfl rfl ?_
    refine r_aload_n (pc := 147) dX9_runs_147 rfl rfl ?_
    refine r_gRs (b := a0 + 1) (pc := 148) dX9_runs_148 fw_X9_9 rfl (ok9 ha0) (ok9_0 ha0).1 ?_
    refine r_iconst (pc := 151) dX9_runs_151 ?_
    refine r_ialoads (pc := 152) h dX9_runs_152 (ok9_0 ha0).2 (fun h => ?_)
    refine r_icmp_gt (pc := 153) (tgt := 178) h dX9_runs_153 (by decide) (fun h => ?_) (fun h => ?_)
    · exact r_vrets (pc := 178) h rfl dX9_runs_178
    · refine r_aload_n (pc := 156) dX9_runs_156 rfl rfl ?_
      refine r_aload_n (pc := 157) dX9_runs_157 rfl rfl ?_
      refine r_bipush (pc := 158) dX9_runs_158 ⟨by decide, by decide⟩ ?_
      refine r_callVs (pc := 160) (fun v => some (sj_i v)) (As := [sj_i 59]) (rest := [(sj_r (some a0))]) (b := a0) (ok9 ha0) h dX9_runs_160 mw_X9_359 vw_X9_isNext (fun _ _ hc => cg_X9_isNext ha0 hc) rfl ⟨(Nat.le_of_ble_eq_true rfl), (Nat.le_of_ble_eq_true rfl)⟩ (Nat.le_of_ble_eq_true rfl) rfl (fun v2 V1 h => ?_)
      refine r_if_eq (pc := 163) (tgt := 170) h dX9_runs_163 (by decide) (fun h => ?_) (fun h => ?_)
      · refine r_iconst (pc := 170) dX9_runs_170 ?_
        exact sj_weak (l2 := [some (sj_r (some a0)), none, none, none, none, none, none]) (⟨rfl, trivial⟩) (st_X9_runs_171 a0 1 a0 V1 ha0 ha0 h)
      · refine r_iconst (pc := 166) dX9_runs_166 ?_
        refine r_goto (pc := 167) (tgt := 171) dX9_runs_167 (by decide) ?_
        exact sj_weak (l2 := [some (sj_r (some a0)), none, none, none, none, none, none]) (⟨rfl, trivial⟩) (st_X9_runs_171 a0 2 a0 V1 ha0 ha0 h)
  · exact r_vrets (pc := 178) h rfl dX9_runs_178
set_option maxHeartbeats 4000000 in
theorem st_X9_runs_2_b {X : sj_X} {g : sj_G} {s0 : sj_Mem} {N : Nat} {q : Unit × sj_VV} {k2 : Nat → Int → Int → Int → sj_VV → Option (Unit × sj_VV)} (hk2 : ∀ (a0 : Nat) (x1 : Int) (x2 : Int) (x3 : Int) (V : sj_VV), OK9 g a0 → k2 a0 x1 x2 x3 V = some q → sj_T X m_X9_runs s0 (none, (g, q.2)) 2 [some (sj_r (some a0)), some (sj_i x1), some (sj_i x2), some (sj_i x3), none, none, none] [] (g, V)) :
    ∀ (a0 : Nat) (x1 : Int) (x2 : Int) (x3 : Int) (V : sj_VV), OK9 g a0 → g_X9_runs_2_b N k2 a0 x1 x2 x3 V = some q → sj_T X m_X9_runs s0 (none, (g, q.2)) 2 [some (sj_r (some a0)), some (sj_i x1), some (sj_i x2), some (sj_i x3), none, none, none] [] (g, V) := by
  intro a0 x1 x2 x3 V ha0 h
  unfold g_X9_runs_2_b at h
  refine r_aload_n (pc := 2) dX9_runs_2 rfl rfl ?_
  refine r_gIs (pc := 3) dX9_runs_3 fw_X9_346 rfl (ok9 ha0) ?_
  refine r_if_ne (pc := 6) (tgt := 139) h dX9_runs_6 (by decide) (fun h => ?_) (fun h => ?_)
  · refine r_iload_n (pc := 9) dX9_runs_9 rfl rfl ?_
    refine r_if_eq (pc := 10) (tgt := 20) h dX9_runs_10 (by decide) (fun h => ?_) (fun h => ?_)
    · exact sj_weak (l2 := [some (sj_r (some a0)), some (sj_i x1), some (sj_i x2), some (sj_i x3), none, none, none]) (⟨rfl, ⟨rfl, ⟨rfl, ⟨rfl, trivial⟩⟩⟩⟩) (st_X9_runs_20 hk2 a0 x1 x2 x3 V ha0 h)
    · refine r_aload_n (pc := 13) dX9_runs_13 rfl rfl ?_
      refine r_callVs (pc := 14) (fun v => some (sj_i v)) (As := []) (rest := []) (b := a0) (ok9 ha0) h dX9_runs_14 mw_X9_365 vw_X9_isDigitNext (fun _ _ hc => cg_X9_isDigitNext ha0 hc) rfl ⟨(Nat.le_of_ble_eq_true rfl), (Nat.le_of_ble_eq_true rfl)⟩ (Nat.le_of_ble_eq_true rfl) rfl (fun v2 V1 h => ?_)
      refine r_if_eq (pc := 17) (tgt := 139) h dX9_runs_17 (by decide) (fun h => ?_) (fun h => ?_)
      · exact sj_weak (l2 := [some (sj_r (some a0)), none, none, some (sj_i x3), none, none, none]) (⟨rfl, ⟨rfl, trivial⟩⟩) (st_X9_runs_139 a0 x3 V1 ha0 h)
      · exact sj_weak (l2 := [some (sj_r (some a0)), some (sj_i x1), some (sj_i x2), some (sj_i x3), none, none, none]) (⟨rfl, ⟨rfl, ⟨rfl, ⟨rfl, trivial⟩⟩⟩⟩) (st_X9_runs_20 hk2 a0 x1 x2 x3 V1 ha0 h)
  · exact sj_weak (l2 := [some (sj_r (some a0)), none, none, some (sj_i x3), none, none, none]) (⟨rfl, ⟨rfl, trivial⟩⟩) (st_X9_runs_139 a0 x3 V ha0 h)
set_option maxHeartbeats 4000000 in
theorem st_X9_runs_2 {X : sj_X} {g : sj_G} {s0 : sj_Mem} {N : Nat} {q : Unit × sj_VV} :
    ∀ (n : Nat) (a0 : Nat) (x1 : Int) (x2 : Int) (x3 : Int) (V : sj_VV), OK9 g a0 → g_X9_runs_2 N n a0 x1 x2 x3 V = some q → sj_T X m_X9_runs s0 (none, (g, q.2)) 2 [some (sj_r (some a0)), some (sj_i x1), some (sj_i x2), some (sj_i x3), none, none, none] [] (g, V) := by
  intro n
  induction n with
  | zero => intro a0 x1 x2 x3 V ha0 h; exact nomatch h
  | succ n ih => intro a0 x1 x2 x3 V ha0 h; exact st_X9_runs_2_b (N := N) ih a0 x1 x2 x3 V ha0 h
set_option maxHeartbeats 4000000 in
theorem st_X9_runs_0 {X : sj_X} {g : sj_G} {s0 : sj_Mem} {N : Nat} {q : Unit × sj_VV} :
    ∀ (a0 : Nat) (x1 : Int) (x2 : Int) (V : sj_VV), OK9 g a0 → g_X9_runs N a0 x1 x2 V = some q → sj_T X m_X9_runs s0 (none, (g, q.2)) 0 [some (sj_r (some a0)), some (sj_i x1), some (sj_i x2), none, none, none, none] [] (g, V) := by
  intro a0 x1 x2 V ha0 h
  unfold g_X9_runs at h
  refine r_iconst (pc := 0) dX9_runs_0 ?_
  refine r_istore_n (ln := [some (sj_r (some a0)), some (sj_i x1), some (sj_i x2), some (sj_i 0), none, none, none]) (pc := 1) dX9_runs_1 rfl (Nat.le_of_ble_eq_true rfl) rfl ?_
  exact sj_weak (l2 := [some (sj_r (some a0)), some (sj_i x1), some (sj_i x2), some (sj_i 0), none, none, none]) (⟨rfl, ⟨rfl, ⟨rfl, ⟨rfl, trivial⟩⟩⟩⟩) (st_X9_runs_2 N a0 x1 x2 0 V ha0 h)
set_option maxHeartbeats 4000000 in
theorem cg_X9_runs {X : sj_X} {g : sj_G} {N : Nat} {a0 : Nat} {x1 : Int} {x2 : Int} {V : sj_VV} {q : Unit × sj_VV} (ha0 : OK9 g a0) (h : g_X9_runs N a0 x1 x2 V = some q) : sj_C X m_X9_runs [sj_r (some a0), sj_i x1, sj_i x2] (g, V) (none, (g, q.2)) :=
  sj_C_of (by decide +kernel) (Nat.le_of_ble_eq_true rfl) (lo := [some (sj_r (some a0)), some (sj_i x1), some (sj_i x2), none, none, none, none]) rfl (sj_weak (l2 := [some (sj_r (some a0)), some (sj_i x1), some (sj_i x2), none, none, none, none]) (⟨rfl, ⟨rfl, ⟨rfl, trivial⟩⟩⟩) (st_X9_runs_0 a0 x1 x2 V ha0 h))
set_option maxHeartbeats 4000000 in
theorem c_X9_runs {X : sj_X} {N : Nat} {a0 : Nat} {x1 : Int} {x2 : Int} {s : sj_Mem} {q : Unit × sj_Mem} (h : f_X9_runs N a0 x1 x2 s = some q) : sj_C X m_X9_runs [sj_r (some a0), sj_i x1, sj_i x2] s (none, q.2) := by
  obtain ⟨g, V⟩ := s
  unfold f_X9_runs at h
  obtain ⟨ho, h1⟩ := e_ok_some h
  obtain ⟨q2, h2, rfl⟩ := sj_map_some h1
  exact cg_X9_runs ho h2
