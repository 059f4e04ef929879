theorem dX8_slice_0 : decode cX8_slice 0 = .ok (.iload_n 1, 1) := by decide +kernel
theorem dX8_slice_1 : decode cX8_slice 1 = .ok (.ifCond .lt 24, 3) := by decide +kernel
theorem dX8_slice_4 : decode cX8_slice 4 = .ok (.iload_n 1, 1) := by decide +kernel
theorem dX8_slice_5 : decode cX8_slice 5 = .ok (.aload_n 0, 1) := by decide +kernel
theorem dX8_slice_6 : decode cX8_slice 6 = .ok (.getfield 12, 3) := by decide +kernel
theorem dX8_slice_9 : decode cX8_slice 9 = .ok (.getfield 106, 3) := by decide +kernel
theorem dX8_slice_12 : decode cX8_slice 12 = .ok (.invokevirtual 199, 3) := by decide +kernel
theorem dX8_slice_15 : decode cX8_slice 15 = .ok (.if_icmp .ge 10, 3) := by decide +kernel
theorem dX8_slice_18 : decode cX8_slice 18 = .ok (.aload_n 0, 1) := by decide +kernel
theorem dX8_slice_19 : decode cX8_slice 19 = .ok (.invokevirtual 267, 3) := by decide +kernel
theorem dX8_slice_22 : decode cX8_slice 22 = .ok (.ifCond .ne 7, 3) := by decide +kernel
theorem dX8_slice_25 : decode cX8_slice 25 = .ok (.ldc2_w 270, 3) := by decide +kernel
theorem dX8_slice_28 : decode cX8_slice 28 = .ok (.lreturn, 1) := by decide +kernel
theorem dX8_slice_29 : decode cX8_slice 29 = .ok (.iload_n 2, 1) := by decide +kernel
theorem dX8_slice_30 : decode cX8_slice 30 = .ok (.tableswitch 134 0 7 #[46, 60, 71, 82, 93, 103, 114, 124], 46) := by decide +kernel
theorem dX8_slice_76 : decode cX8_slice 76 = .ok (.aload_n 0, 1) := by decide +kernel
theorem dX8_slice_77 : decode cX8_slice 77 = .ok (.getfield 12, 3) := by decide +kernel
theorem dX8_slice_80 : decode cX8_slice 80 = .ok (.getfield 106, 3) := by decide +kernel
theorem dX8_slice_83 : decode cX8_slice 83 = .ok (.getfield 241, 3) := by decide +kernel
theorem dX8_slice_86 : decode cX8_slice 86 = .ok (.iload_n 1, 1) := by decide +kernel
theorem dX8_slice_87 : decode cX8_slice 87 = .ok (.iadd, 1) := by decide +kernel
theorem dX8_slice_88 : decode cX8_slice 88 = .ok (.i2l, 1) := by decide +kernel
theorem dX8_slice_89 : decode cX8_slice 89 = .ok (.lreturn, 1) := by decide +kernel
theorem dX8_slice_90 : decode cX8_slice 90 = .ok (.aload_n 0, 1) := by decide +kernel
theorem dX8_slice_91 : decode cX8_slice 91 = .ok (.getfield 53, 3) := by decide +kernel
theorem dX8_slice_94 : decode cX8_slice 94 = .ok (.getfield 272, 3) := by decide +kernel
theorem dX8_slice_97 : decode cX8_slice 97 = .ok (.iload_n 1, 1) := by decide +kernel
theorem dX8_slice_98 : decode cX8_slice 98 = .ok (.iaload, 1) := by decide +kernel
theorem dX8_slice_99 : decode cX8_slice 99 = .ok (.i2l, 1) := by decide +kernel
theorem dX8_slice_100 : decode cX8_slice 100 = .ok (.lreturn, 1) := by decide +kernel
theorem dX8_slice_101 : decode cX8_slice 101 = .ok (.aload_n 0, 1) := by decide +kernel
theorem dX8_slice_102 : decode cX8_slice 102 = .ok (.getfield 53, 3) := by decide +kernel
theorem dX8_slice_105 : decode cX8_slice 105 = .ok (.getfield 275, 3) := by decide +kernel
theorem dX8_slice_108 : decode cX8_slice 108 = .ok (.iload_n 1, 1) := by decide +kernel
theorem dX8_slice_109 : decode cX8_slice 109 = .ok (.iaload, 1) := by decide +kernel
theorem dX8_slice_110 : decode cX8_slice 110 = .ok (.i2l, 1) := by decide +kernel
theorem dX8_slice_111 : decode cX8_slice 111 = .ok (.lreturn, 1) := by decide +kernel
theorem dX8_slice_112 : decode cX8_slice 112 = .ok (.aload_n 0, 1) := by decide +kernel
theorem dX8_slice_113 : decode cX8_slice 113 = .ok (.getfield 53, 3) := by decide +kernel
theorem dX8_slice_116 : decode cX8_slice 116 = .ok (.getfield 276, 3) := by decide +kernel
theorem dX8_slice_119 : decode cX8_slice 119 = .ok (.iload_n 1, 1) := by decide +kernel
theorem dX8_slice_120 : decode cX8_slice 120 = .ok (.iaload, 1) := by decide +kernel
theorem dX8_slice_121 : decode cX8_slice 121 = .ok (.i2l, 1) := by decide +kernel
theorem dX8_slice_122 : decode cX8_slice 122 = .ok (.lreturn, 1) := by decide +kernel
theorem dX8_slice_123 : decode cX8_slice 123 = .ok (.aload_n 0, 1) := by decide +kernel
theorem dX8_slice_124 : decode cX8_slice 124 = .ok (.getfield 53, 3) := by decide +kernel
theorem dX8_slice_127 : decode cX8_slice 127 = .ok (.iload_n 1, 1) := by decide +kernel
theorem dX8_slice_128 : decode cX8_slice 128 = .ok (.invokevirtual 279, 3) := by decide +kernel
theorem dX8_slice_131 : decode cX8_slice 131 = .ok (.i2l, 1) := by decide +kernel
theorem dX8_slice_132 : decode cX8_slice 132 = .ok (.lreturn, 1) := by decide +kernel
theorem dX8_slice_133 : decode cX8_slice 133 = .ok (.aload_n 0, 1) := by decide +kernel
theorem dX8_slice_134 : decode cX8_slice 134 = .ok (.getfield 53, 3) := by decide +kernel
theorem dX8_slice_137 : decode cX8_slice 137 = .ok (.getfield 282, 3) := by decide +kernel
theorem dX8_slice_140 : decode cX8_slice 140 = .ok (.iload_n 1, 1) := by decide +kernel
theorem dX8_slice_141 : decode cX8_slice 141 = .ok (.iaload, 1) := by decide +kernel
theorem dX8_slice_142 : decode cX8_slice 142 = .ok (.i2l, 1) := by decide +kernel
theorem dX8_slice_143 : decode cX8_slice 143 = .ok (.lreturn, 1) := by decide +kernel
theorem dX8_slice_144 : decode cX8_slice 144 = .ok (.aload_n 0, 1) := by decide +kernel
theorem dX8_slice_145 : decode cX8_slice 145 = .ok (.getfield 53, 3) := by decide +kernel
theorem dX8_slice_148 : decode cX8_slice 148 = .ok (.getfield 285, 3) := by decide +kernel
theorem dX8_slice_151 : decode cX8_slice 151 = .ok (.iload_n 1, 1) := by decide +kernel
theorem dX8_slice_152 : decode cX8_slice 152 = .ok (.laload, 1) := by decide +kernel
theorem dX8_slice_153 : decode cX8_slice 153 = .ok (.lreturn, 1) := by decide +kernel
theorem dX8_slice_154 : decode cX8_slice 154 = .ok (.aload_n 0, 1) := by decide +kernel
theorem dX8_slice_155 : decode cX8_slice 155 = .ok (.getfield 53, 3) := by decide +kernel
theorem dX8_slice_158 : decode cX8_slice 158 = .ok (.getfield 289, 3) := by decide +kernel
theorem dX8_slice_161 : decode cX8_slice 161 = .ok (.iload_n 1, 1) := by decide +kernel
theorem dX8_slice_162 : decode cX8_slice 162 = .ok (.laload, 1) := by decide +kernel
theorem dX8_slice_163 : decode cX8_slice 163 = .ok (.lreturn, 1) := by decide +kernel
theorem dX8_slice_164 : decode cX8_slice 164 = .ok (.ldc2_w 270, 3) := by decide +kernel
theorem dX8_slice_167 : decode cX8_slice 167 = .ok (.lreturn, 1) := by decide +kernel
set_option maxHeartbeats 4000000 in
theorem st_X8_slice_0 {X : sj_X} {g : sj_G} {s0 : sj_Mem} {N : Nat} {q : Int × sj_VV} :
    ∀ (a0 : Nat) (x1 : Int) (x2 : Int) (V : sj_VV), OK8 g a0 → g_X8_slice N a0 x1 x2 V = some q → sj_T X m_X8_slice s0 (some (sj_j q.1), (g, q.2)) 0 [some (sj_r (some a0)), some (sj_i x1), some (sj_i x2)] [] (g, V) := by
  intro a0 x1 x2 V ha0 h
  unfold g_X8_slice at h
  refine r_iload_n (pc := 0) dX8_slice_0 rfl rfl ?_
  refine r_if_lt (pc := 1) (tgt := 25) h dX8_slice_1 (by decide) (fun h => ?_) (fun h => ?_)
  · refine r_ldc2 (n := -10000000000000) (pc := 25) dX8_slice_25 kc_X8_270 ?_
    exact r_lrets (pc := 28) h rfl dX8_slice_28
  · refine r_iload_n (pc := 4) dX8_slice_4 rfl rfl ?_
    refine r_aload_n (pc := 5) dX8_slice_5 rfl rfl ?_
    refine r_gRs (b := a0 + 1) (pc := 6) dX8_slice_6 fw_X8_12 rfl (ok8 ha0) (ok8_0 ha0).1 ?_
    refine r_gRs (b := (a0 + 1) + 12) (pc := 9) dX8_slice_9 fw_X8_106 rfl (ok0 (ok8_0 ha0).2) (ok0_14 (ok8_0 ha0).2).1 ?_
    refine r_callVs (pc := 12) (fun v => some (sj_i v)) (As := []) (rest := [(sj_i x1)]) (b := ((a0 + 1) + 12)) (ok5 (ok0_14 (ok8_0 ha0).2).2) h dX8_slice_12 mw_X8_199 vw_X5_count (fun _ _ hc => cg_X5_count (ok0_14 (ok8_0 ha0).2).2 hc) rfl ⟨(Nat.le_of_ble_eq_true rfl), (Nat.le_of_ble_eq_true rfl)⟩ (Nat.le_of_ble_eq_true rfl) rfl (fun v2 V1 h => ?_)
    refine r_icmp_ge (pc := 15) (tgt := 25) h dX8_slice_15 (by decide) (fun h => ?_) (fun h => ?_)
    · refine r_ldc2 (n := -10000000000000) (pc := 25) dX8_slice_25 kc_X8_270 ?_
      exact r_lrets (pc := 28) h rfl dX8_slice_28
    · refine r_aload_n (pc := 18) dX8_slice_18 rfl rfl ?_
      refine r_callVs (pc := 19) (fun v => some (sj_i v)) (As := []) (rest := []) (b := a0) (ok8 ha0) h dX8_slice_19 mw_X8_267 vw_X8_cutUp (fun _ _ hc => cg_X8_cutUp ha0 hc) rfl ⟨(Nat.le_of_ble_eq_true rfl), (Nat.le_of_ble_eq_true rfl)⟩ (Nat.le_of_ble_eq_true rfl) rfl (fun v4 V3 h => ?_)
      refine r_if_ne (pc := 22) (tgt := 29) h dX8_slice_22 (by decide) (fun h => ?_) (fun h => ?_)
      · refine r_ldc2 (n := -10000000000000) (pc := 25) dX8_slice_25 kc_X8_270 ?_
        exact r_lrets (pc := 28) h rfl dX8_slice_28
      · refine r_iload_n (pc := 29) dX8_slice_29 rfl rfl ?_
        obtain ⟨hr, h⟩ := e_sw_some h
        refine sj_if h (fun c0 h => ?_) (fun c0 h => ?_)
        · refine r_tcase (pc := 30) (tgt := 76) (j := 0) hr c0 dX8_slice_30 (by decide) (by decide) rfl (by decide) ?_
          refine r_aload_n (pc := 76) dX8_slice_76 rfl rfl ?_
          refine r_gRs (b := a0 + 1) (pc := 77) dX8_slice_77 fw_X8_12 rfl (ok8 ha0) (ok8_0 ha0).1 ?_
          refine r_gRs (b := (a0 + 1) + 12) (pc := 80) dX8_slice_80 fw_X8_106 rfl (ok0 (ok8_0 ha0).2) (ok0_14 (ok8_0 ha0).2).1 ?_
          refine r_gIs (pc := 83) dX8_slice_83 fw_X8_241 rfl (ok5 (ok0_14 (ok8_0 ha0).2).2) ?_
          refine r_iload_n (pc := 86) dX8_slice_86 rfl rfl ?_
          refine r_iadd (pc := 87) dX8_slice_87 ?_
          refine r_i2l (pc := 88) h dX8_slice_88 (fun v5 h => ?_)
          exact r_lrets (pc := 89) h rfl dX8_slice_89
        refine sj_if h (fun c1 h => ?_) (fun c1 h => ?_)
        · refine r_tcase (pc := 30) (tgt := 90) (j := 1) hr c1 dX8_slice_30 (by decide) (by decide) rfl (by decide) ?_
          refine r_aload_n (pc := 90) dX8_slice_90 rfl rfl ?_
          refine r_gRs (b := a0 + 54) (pc := 91) dX8_slice_91 fw_X8_53 rfl (ok8 ha0) (ok8_8 ha0).1 ?_
          refine r_gRs (b := (a0 + 54) + 1) (pc := 94) dX8_slice_94 fw_X8_272 rfl (ok4 (ok8_8 ha0).2) (ok4_0 (ok8_8 ha0).2).1 ?_
          refine r_iload_n (pc := 97) dX8_slice_97 rfl rfl ?_
          refine r_ialoads (pc := 98) h dX8_slice_98 (ok4_0 (ok8_8 ha0).2).2 (fun h => ?_)
          refine r_i2l (pc := 99) h dX8_slice_99 (fun v6 h => ?_)
          exact r_lrets (pc := 100) h rfl dX8_slice_100
        refine sj_if h (fun c2 h => ?_) (fun c2 h => ?_)
        · refine r_tcase (pc := 30) (tgt := 101) (j := 2) hr c2 dX8_slice_30 (by decide) (by decide) rfl (by decide) ?_
          refine r_aload_n (pc := 101) dX8_slice_101 rfl rfl ?_
          refine r_gRs (b := a0 + 54) (pc := 102) dX8_slice_102 fw_X8_53 rfl (ok8 ha0) (ok8_8 ha0).1 ?_
          refine r_gRs (b := (a0 + 54) + 2) (pc := 105) dX8_slice_105 fw_X8_275 rfl (ok4 (ok8_8 ha0).2) (ok4_1 (ok8_8 ha0).2).1 ?_
          refine r_iload_n (pc := 108) dX8_slice_108 rfl rfl ?_
          refine r_ialoads (pc := 109) h dX8_slice_109 (ok4_1 (ok8_8 ha0).2).2 (fun h => ?_)
          refine r_i2l (pc := 110) h dX8_slice_110 (fun v7 h => ?_)
          exact r_lrets (pc := 111) h rfl dX8_slice_111
        refine sj_if h (fun c3 h => ?_) (fun c3 h => ?_)
        · refine r_tcase (pc := 30) (tgt := 112) (j := 3) hr c3 dX8_slice_30 (by decide) (by decide) rfl (by decide) ?_
          refine r_aload_n (pc := 112) dX8_slice_112 rfl rfl ?_
          refine r_gRs (b := a0 + 54) (pc := 113) dX8_slice_113 fw_X8_53 rfl (ok8 ha0) (ok8_8 ha0).1 ?_
          refine r_gRs (b := (a0 + 54) + 3) (pc := 116) dX8_slice_116 fw_X8_276 rfl (ok4 (ok8_8 ha0).2) (ok4_2 (ok8_8 ha0).2).1 ?_
          refine r_iload_n (pc := 119) dX8_slice_119 rfl rfl ?_
          refine r_ialoads (pc := 120) h dX8_slice_120 (ok4_2 (ok8_8 ha0).2).2 (fun h => ?_)
          refine r_i2l (pc := 121) h dX8_slice_121 (fun v8 h => ?_)
          exact r_lrets (pc := 122) h rfl dX8_slice_122
        refine sj_if h (fun c4 h => ?_) (fun c4 h => ?_)
        · refine r_tcase (pc := 30) (tgt := 123) (j := 4) hr c4 dX8_slice_30 (by decide) (by decide) rfl (by decide) ?_
          refine r_aload_n (pc := 123) dX8_slice_123 rfl rfl ?_
          refine r_gRs (b := a0 + 54) (pc := 124) dX8_slice_124 fw_X8_53 rfl (ok8 ha0) (ok8_8 ha0).1 ?_
          refine r_iload_n (pc := 127) dX8_slice_127 rfl rfl ?_
          refine r_callVs (pc := 128) (fun v => some (sj_i v)) (As := [sj_i x1]) (rest := []) (b := (a0 + 54)) (ok4 (ok8_8 ha0).2) h dX8_slice_128 mw_X8_279 vw_X4_press (fun _ _ hc => cg_X4_press (ok8_8 ha0).2 hc) rfl ⟨(Nat.le_of_ble_eq_true rfl), (Nat.le_of_ble_eq_true rfl)⟩ (Nat.le_of_ble_eq_true rfl) rfl (fun v10 V9 h => ?_)
          refine r_i2l (pc := 131) h dX8_slice_131 (fun v11 h => ?_)
          exact r_lrets (pc := 132) h rfl dX8_slice_132
        refine sj_if h (fun c5 h => ?_) (fun c5 h => ?_)
        · refine r_tcase (pc := 30) (tgt := 133) (j := 5) hr c5 dX8_slice_30 (by decide) (by decide) rfl (by decide) ?_
          refine r_aload_n (pc := 133) dX8_slice_133 rfl rfl ?_
          refine r_gRs (b := a0 + 54) (pc := 134) dX8_slice_134 fw_X8_53 rfl (ok8 ha0) (ok8_8 ha0).1 ?_
          refine r_gRs (b := (a0 + 54) + 4) (pc := 137) dX8_slice_137 fw_X8_282 rfl (ok4 (ok8_8 ha0).2) (ok4_3 (ok8_8 ha0).2).1 ?_
          refine r_iload_n (pc := 140) dX8_slice_140 rfl rfl ?_
          refine r_ialoads (pc := 141) h dX8_slice_141 (ok4_3 (ok8_8 ha0).2).2 (fun h => ?_)
          refine r_i2l (pc := 142) h dX8_slice_142 (fun v12 h => ?_)
          exact r_lrets (pc := 143) h rfl dX8_slice_143
        refine sj_if h (fun c6 h => ?_) (fun c6 h => ?_)
        · refine r_tcase (pc := 30) (tgt := 144) (j := 6) hr c6 dX8_slice_30 (by decide) (by decide) rfl (by decide) ?_
          refine r_aload_n (pc := 144) dX8_slice_144 rfl rfl ?_
          refine r_gRs (b := a0 + 54) (pc := 145) dX8_slice_145 fw_X8_53 rfl (ok8 ha0) (ok8_8 ha0).1 ?_
          refine r_gRs (b := (a0 + 54) + 5) (pc := 148) dX8_slice_148 fw_X8_285 rfl (ok4 (ok8_8 ha0).2) (ok4_4 (ok8_8 ha0).2).1 ?_
          refine r_iload_n (pc := 151) dX8_slice_151 rfl rfl ?_
          refine r_laloads (pc := 152) h dX8_slice_152 (ok4_4 (ok8_8 ha0).2).2 (fun h => ?_)
          exact r_lrets (pc := 153) h rfl dX8_slice_153
        refine sj_if h (fun c7 h => ?_) (fun c7 h => ?_)
        · refine r_tcase (pc := 30) (tgt := 154) (j := 7) hr c7 dX8_slice_30 (by decide) (by decide) rfl (by decide) ?_
          refine r_aload_n (pc := 154) dX8_slice_154 rfl rfl ?_
          refine r_gRs (b := a0 + 54) (pc := 155) dX8_slice_155 fw_X8_53 rfl (ok8 ha0) (ok8_8 ha0).1 ?_
          refine r_gRs (b := (a0 + 54) + 6) (pc := 158) dX8_slice_158 fw_X8_289 rfl (ok4 (ok8_8 ha0).2) (ok4_5 (ok8_8 ha0).2).1 ?_
          refine r_iload_n (pc := 161) dX8_slice_161 rfl rfl ?_
          refine r_laloads (pc := 162) h dX8_slice_162 (ok4_5 (ok8_8 ha0).2).2 (fun h => ?_)
          exact r_lrets (pc := 163) h rfl dX8_slice_163
        refine r_tdflt (pc := 30) (tgt := 164) hr dX8_slice_30 (by omega) (by decide) ?_
        refine r_ldc2 (n := -10000000000000) (pc := 164) dX8_slice_164 kc_X8_270 ?_
        exact r_lrets (pc := 167) h rfl dX8_slice_167
set_option maxHeartbeats 4000000 in
theorem cg_X8_slice {X : sj_X} {g : sj_G} {N : Nat} {a0 : Nat} {x1 : Int} {x2 : Int} {V : sj_VV} {q : Int × sj_VV} (ha0 : OK8 g a0) (h : g_X8_slice N a0 x1 x2 V = some q) : sj_C X m_X8_slice [sj_r (some a0), sj_i x1, sj_i x2] (g, V) (some (sj_j q.1), (g, q.2)) :=
  sj_C_of (by decide +kernel) (Nat.le_of_ble_eq_true rfl) (lo := [some (sj_r (some a0)), some (sj_i x1), some (sj_i x2)]) rfl (sj_weak (l2 := [some (sj_r (some a0)), some (sj_i x1), some (sj_i x2)]) (⟨rfl, ⟨rfl, ⟨rfl, trivial⟩⟩⟩) (st_X8_slice_0 a0 x1 x2 V ha0 h))
set_option maxHeartbeats 4000000 in
theorem c_X8_slice {X : sj_X} {N : Nat} {a0 : Nat} {x1 : Int} {x2 : Int} {s : sj_Mem} {q : Int × sj_Mem} (h : f_X8_slice N a0 x1 x2 s = some q) : sj_C X m_X8_slice [sj_r (some a0), sj_i x1, sj_i x2] s (some (sj_j q.1), q.2) := by
  obtain ⟨g, V⟩ := s
  unfold f_X8_slice at h
  obtain ⟨ho, h1⟩ := e_ok_some h
  obtain ⟨q2, h2, rfl⟩ := sj_map_some h1
  exact cg_X8_slice ho h2
theorem dX8_rubs_0 : decode cX8_rubs 0 = .ok (.iload_n 1, 1) := by decide +kernel
theorem dX8_rubs_1 : decode cX8_rubs 1 = .ok (.ifCond .lt 31, 3) := by decide +kernel
theorem dX8_rubs_4 : decode cX8_rubs 4 = .ok (.iload_n 1, 1) := by decide +kernel
theorem dX8_rubs_5 : decode cX8_rubs 5 = .ok (.aload_n 0, 1) := by decide +kernel
theorem dX8_rubs_6 : decode cX8_rubs 6 = .ok (.getfield 12, 3) := by decide +kernel
theorem dX8_rubs_9 : decode cX8_rubs 9 = .ok (.getfield 106, 3) := by decide +kernel
theorem dX8_rubs_12 : decode cX8_rubs 12 = .ok (.invokevirtual 199, 3) := by decide +kernel
theorem dX8_rubs_15 : decode cX8_rubs 15 = .ok (.if_icmp .ge 17, 3) := by decide +kernel
theorem dX8_rubs_18 : decode cX8_rubs 18 = .ok (.iload_n 2, 1) := by decide +kernel
theorem dX8_rubs_19 : decode cX8_rubs 19 = .ok (.invokestatic 292, 3) := by decide +kernel
theorem dX8_rubs_22 : decode cX8_rubs 22 = .ok (.ifCond .eq 10, 3) := by decide +kernel
theorem dX8_rubs_25 : decode cX8_rubs 25 = .ok (.aload_n 0, 1) := by decide +kernel
theorem dX8_rubs_26 : decode cX8_rubs 26 = .ok (.invokevirtual 267, 3) := by decide +kernel
theorem dX8_rubs_29 : decode cX8_rubs 29 = .ok (.ifCond .ne 7, 3) := by decide +kernel
theorem dX8_rubs_32 : decode cX8_rubs 32 = .ok (.ldc2_w 295, 3) := by decide +kernel
theorem dX8_rubs_35 : decode cX8_rubs 35 = .ok (.lreturn, 1) := by decide +kernel
theorem dX8_rubs_36 : decode cX8_rubs 36 = .ok (.aload_n 0, 1) := by decide +kernel
theorem dX8_rubs_37 : decode cX8_rubs 37 = .ok (.getfield 53, 3) := by decide +kernel
theorem dX8_rubs_40 : decode cX8_rubs 40 = .ok (.iload_n 1, 1) := by decide +kernel
theorem dX8_rubs_41 : decode cX8_rubs 41 = .ok (.iload_n 2, 1) := by decide +kernel
theorem dX8_rubs_42 : decode cX8_rubs 42 = .ok (.invokevirtual 297, 3) := by decide +kernel
theorem dX8_rubs_45 : decode cX8_rubs 45 = .ok (.lreturn, 1) := by decide +kernel
set_option maxHeartbeats 4000000 in
theorem st_X8_rubs_0 {X : sj_X} {g : sj_G} {s0 : sj_Mem} {N : Nat} {q : Int × sj_VV} :
    ∀ (a0 : Nat) (x1 : Int) (x2 : Int) (V : sj_VV), OK8 g a0 → g_X8_rubs N a0 x1 x2 V = some q → sj_T X m_X8_rubs s0 (some (sj_j q.1), (g, q.2)) 0 [some (sj_r (some a0)), some (sj_i x1), some (sj_i x2)] [] (g, V) := by
  intro a0 x1 x2 V ha0 h
  unfold g_X8_rubs at h
  refine r_iload_n (pc := 0) dX8_rubs_0 rfl rfl ?_
  refine r_if_lt (pc := 1) (tgt := 32) h dX8_rubs_1 (by decide) (fun h => ?_) (fun h => ?_)
  · refine r_ldc2 (n := -10) (pc := 32) dX8_rubs_32 kc_X8_295 ?_
    exact r_lrets (pc := 35) h rfl dX8_rubs_35
  · refine r_iload_n (pc := 4) dX8_rubs_4 rfl rfl ?_
    refine r_aload_n (pc := 5) dX8_rubs_5 rfl rfl ?_
    refine r_gRs (b := a0 + 1) (pc := 6) dX8_rubs_6 fw_X8_12 rfl (ok8 ha0) (ok8_0 ha0).1 ?_
    refine r_gRs (b := (a0 + 1) + 12) (pc := 9) dX8_rubs_9 fw_X8_106 rfl (ok0 (ok8_0 ha0).2) (ok0_14 (ok8_0 ha0).2).1 ?_
    refine r_callVs (pc := 12) (fun v => some (sj_i v)) (As := []) (rest := [(sj_i x1)]) (b := ((a0 + 1) + 12)) (ok5 (ok0_14 (ok8_0 ha0).2).2) h dX8_rubs_12 mw_X8_199 vw_X5_count (fun _ _ hc => cg_X5_count (ok0_14 (ok8_0 ha0).2).2 hc) rfl ⟨(Nat.le_of_ble_eq_true rfl), (Nat.le_of_ble_eq_true rfl)⟩ (Nat.le_of_ble_eq_true rfl) rfl (fun v2 V1 h => ?_)
    refine r_icmp_ge (pc := 15) (tgt := 32) h dX8_rubs_15 (by decide) (fun h => ?_) (fun h => ?_)
    · refine r_ldc2 (n := -10) (pc := 32) dX8_rubs_32 kc_X8_295 ?_
      exact r_lrets (pc := 35) h rfl dX8_rubs_35
    · refine r_iload_n (pc := 18) dX8_rubs_18 rfl rfl ?_
      refine r_callSs (pc := 19) (fun v => some (sj_i v)) (As := [sj_i x2]) (rest := []) h dX8_rubs_19 mw_X8_292 kw_879 (fun _ _ hc => cg_X8_isK  hc) rfl ⟨(Nat.le_of_ble_eq_true rfl), (Nat.le_of_ble_eq_true rfl)⟩ (Nat.le_of_ble_eq_true rfl) rfl (fun v4 V3 h => ?_)
      refine r_if_eq (pc := 22) (tgt := 32) h dX8_rubs_22 (by decide) (fun h => ?_) (fun h => ?_)
      · refine r_ldc2 (n := -10) (pc := 32) dX8_rubs_32 kc_X8_295 ?_
        exact r_lrets (pc := 35) h rfl dX8_rubs_35
      · refine r_aload_n (pc := 25) dX8_rubs_25 rfl rfl ?_
        refine r_callVs (pc := 26) (fun v => some (sj_i v)) (As := []) (rest := []) (b := a0) (ok8 ha0) h dX8_rubs_26 mw_X8_267 vw_X8_cutUp (fun _ _ hc => cg_X8_cutUp ha0 hc) rfl ⟨(Nat.le_of_ble_eq_true rfl), (Nat.le_of_ble_eq_true rfl)⟩ (Nat.le_of_ble_eq_true rfl) rfl (fun v6 V5 h => ?_)
        refine r_if_ne (pc := 29) (tgt := 36) h dX8_rubs_29 (by decide) (fun h => ?_) (fun h => ?_)
        · refine r_ldc2 (n := -10) (pc := 32) dX8_rubs_32 kc_X8_295 ?_
          exact r_lrets (pc := 35) h rfl dX8_rubs_35
        · refine r_aload_n (pc := 36) dX8_rubs_36 rfl rfl ?_
          refine r_gRs (b := a0 + 54) (pc := 37) dX8_rubs_37 fw_X8_53 rfl (ok8 ha0) (ok8_8 ha0).1 ?_
          refine r_iload_n (pc := 40) dX8_rubs_40 rfl rfl ?_
          refine r_iload_n (pc := 41) dX8_rubs_41 rfl rfl ?_
          refine r_callVs (pc := 42) (fun v => some (sj_j v)) (As := [sj_i x1, sj_i x2]) (rest := []) (b := (a0 + 54)) (ok4 (ok8_8 ha0).2) h dX8_rubs_42 mw_X8_297 vw_X4_rubsOf (fun _ _ hc => cg_X4_rubsOf (ok8_8 ha0).2 hc) rfl ⟨(Nat.le_of_ble_eq_true rfl), (Nat.le_of_ble_eq_true rfl)⟩ (Nat.le_of_ble_eq_true rfl) rfl (fun v8 V7 h => ?_)
          exact r_lrets (pc := 45) h rfl dX8_rubs_45
set_option maxHeartbeats 4000000 in
theorem cg_X8_rubs {X : sj_X} {g : sj_G} {N : Nat} {a0 : Nat} {x1 : Int} {x2 : Int} {V : sj_VV} {q : Int × sj_VV} (ha0 : OK8 g a0) (h : g_X8_rubs N a0 x1 x2 V = some q) : sj_C X m_X8_rubs [sj_r (some a0), sj_i x1, sj_i x2] (g, V) (some (sj_j q.1), (g, q.2)) :=
  sj_C_of (by decide +kernel) (Nat.le_of_ble_eq_true rfl) (lo := [some (sj_r (some a0)), some (sj_i x1), some (sj_i x2)]) rfl (sj_weak (l2 := [some (sj_r (some a0)), some (sj_i x1), some (sj_i x2)]) (⟨rfl, ⟨rfl, ⟨rfl, trivial⟩⟩⟩) (st_X8_rubs_0 a0 x1 x2 V ha0 h))
set_option maxHeartbeats 4000000 in
theorem c_X8_rubs {X : sj_X} {N : Nat} {a0 : Nat} {x1 : Int} {x2 : Int} {s : sj_Mem} {q : Int × sj_Mem} (h : f_X8_rubs N a0 x1 x2 s = some q) : sj_C X m_X8_rubs [sj_r (some a0), sj_i x1, sj_i x2] s (some (sj_j q.1), q.2) := by
  obtain ⟨g, V⟩ := s
  unfold f_X8_rubs at h
  obtain ⟨ho, h1⟩ := e_ok_some h
  obtain ⟨q2, h2, rfl⟩ := sj_map_some h1
  exact cg_X8_rubs ho h2
theorem dX8_stands_0 : decode cX8_stands 0 = .ok (.iload_n 1, 1) := by decide +kernel
theorem dX8_stands_1 : decode cX8_stands 1 = .ok (.invokestatic 292, 3) := by decide +kernel
theorem dX8_stands_4 : decode cX8_stands 4 = .ok (.ifCond .eq 10, 3) := by decide +kernel
theorem dX8_stands_7 : decode cX8_stands 7 = .ok (.aload_n 0, 1) := by decide +kernel
theorem dX8_stands_8 : decode cX8_stands 8 = .ok (.invokevirtual 267, 3) := by decide +kernel
theorem dX8_stands_11 : decode cX8_stands 11 = .ok (.ifCond .ne 5, 3) := by decide +kernel
theorem dX8_stands_14 : decode cX8_stands 14 = .ok (.iconst (-1), 1) := by decide +kernel
theorem dX8_stands_15 : decode cX8_stands 15 = .ok (.ireturn, 1) := by decide +kernel
theorem dX8_stands_16 : decode cX8_stands 16 = .ok (.aload_n 0, 1) := by decide +kernel
theorem dX8_stands_17 : decode cX8_stands 17 = .ok (.getfield 53, 3) := by decide +kernel
theorem dX8_stands_20 : decode cX8_stands 20 = .ok (.iload_n 1, 1) := by decide +kernel
theorem dX8_stands_21 : decode cX8_stands 21 = .ok (.invokevirtual 301, 3) := by decide +kernel
theorem dX8_stands_24 : decode cX8_stands 24 = .ok (.ifCond .eq 7, 3) := by decide +kernel
theorem dX8_stands_27 : decode cX8_stands 27 = .ok (.iconst 1, 1) := by decide +kernel
theorem dX8_stands_28 : decode cX8_stands 28 = .ok (.goto 4, 3) := by decide +kernel
theorem dX8_stands_31 : decode cX8_stands 31 = .ok (.iconst 0, 1) := by decide +kernel
theorem dX8_stands_32 : decode cX8_stands 32 = .ok (.ireturn, 1) := by decide +kernel
set_option maxHeartbeats 4000000 in
theorem st_X8_stands_0 {X : sj_X} {g : sj_G} {s0 : sj_Mem} {N : Nat} {q : Int × sj_VV} :
    ∀ (a0 : Nat) (x1 : Int) (V : sj_VV), OK8 g a0 → g_X8_stands N a0 x1 V = some q → sj_T X m_X8_stands s0 (some (sj_i q.1), (g, q.2)) 0 [some (sj_r (some a0)), some (sj_i x1)] [] (g, V) := by
  intro a0 x1 V ha0 h
  unfold g_X8_stands at h
  refine r_iload_n (pc := 0) dX8_stands_0 rfl rfl ?_
  refine r_callSs (pc := 1) (fun v => some (sj_i v)) (As := [sj_i x1]) (rest := []) h dX8_stands_1 mw_X8_292 kw_879 (fun _ _ hc => cg_X8_isK  hc) rfl ⟨(Nat.le_of_ble_eq_true rfl), (Nat.le_of_ble_eq_true rfl)⟩ (Nat.le_of_ble_eq_true rfl) rfl (fun v2 V1 h => ?_)
  refine r_if_eq (pc := 4) (tgt := 14) h dX8_stands_4 (by decide) (fun h => ?_) (fun h => ?_)
  · refine r_iconst (pc := 14) dX8_stands_14 ?_
    exact r_irets (pc := 15) h rfl dX8_stands_15
  · refine r_aload_n (pc := 7) dX8_stands_7 rfl rfl ?_
    refine r_callVs (pc := 8) (fun v => some (sj_i v)) (As := []) (rest := []) (b := a0) (ok8 ha0) h dX8_stands_8 mw_X8_267 vw_X8_cutUp (fun _ _ hc => cg_X8_cutUp ha0 hc) rfl ⟨(Nat.le_of_ble_eq_true rfl), (Nat.le_of_ble_eq_true rfl)⟩ (Nat.le_of_ble_eq_true rfl) rfl (fun v4 V3 h => ?_)
    refine r_if_ne (pc := 11) (tgt := 16) h dX8_stands_11 (by decide) (fun h => ?_) (fun h => ?_)
    · refine r_iconst (pc := 14) dX8_stands_14 ?_
      exact r_irets (pc := 15) h rfl dX8_stands_15
    · refine r_aload_n (pc := 16) dX8_stands_16 rfl rfl ?_
      refine r_gRs (b := a0 + 54) (pc := 17) dX8_stands_17 fw_X8_53 rfl (ok8 ha0) (ok8_8 ha0).1 ?_
      refine r_iload_n (pc := 20) dX8_stands_20 rfl rfl ?_
      refine r_callVs (pc := 21) (fun v => some (sj_i v)) (As := [sj_i x1]) (rest := []) (b := (a0 + 54)) (ok4 (ok8_8 ha0).2) h dX8_stands_21 mw_X8_301 vw_X4_hold (fun _ _ hc => cg_X4_hold (ok8_8 ha0).2 hc) rfl ⟨(Nat.le_of_ble_eq_true rfl), (Nat.le_of_ble_eq_true rfl)⟩ (Nat.le_of_ble_eq_true rfl) rfl (fun v6 V5 h => ?_)
      refine r_if_eq (pc := 24) (tgt := 31) h dX8_stands_24 (by decide) (fun h => ?_) (fun h => ?_)
      · refine r_iconst (pc := 31) dX8_stands_31 ?_
        exact r_irets (pc := 32) h rfl dX8_stands_32
      · refine r_iconst (pc := 27) dX8_stands_27 ?_
        refine r_goto (pc := 28) (tgt := 32) dX8_stands_28 (by decide) ?_
        exact r_irets (pc := 32) h rfl dX8_stands_32
set_option maxHeartbeats 4000000 in
theorem cg_X8_stands {X : sj_X} {g : sj_G} {N : Nat} {a0 : Nat} {x1 : Int} {V : sj_VV} {q : Int × sj_VV} (ha0 : OK8 g a0) (h : g_X8_stands N a0 x1 V = some q) : sj_C X m_X8_stands [sj_r (some a0), sj_i x1] (g, V) (some (sj_i q.1), (g, q.2)) :=
  sj_C_of (by decide +kernel) (Nat.le_of_ble_eq_true rfl) (lo := [some (sj_r (some a0)), some (sj_i x1)]) rfl (sj_weak (l2 := [some (sj_r (some a0)), some (sj_i x1)]) (⟨rfl, ⟨rfl, trivial⟩⟩) (st_X8_stands_0 a0 x1 V ha0 h))
set_option maxHeartbeats 4000000 in
theorem c_X8_stands {X : sj_X} {N : Nat} {a0 : Nat} {x1 : Int} {s : sj_Mem} {q : Int × sj_Mem} (h : f_X8_stands N a0 x1 s = some q) : sj_C X m_X8_stands [sj_r (some a0), sj_i x1] s (some (sj_i q.1), q.2) := by
  obtain ⟨g, V⟩ := s
  unfold f_X8_stands at h
  obtain ⟨ho, h1⟩ := e_ok_some h
  obtain ⟨q2, h2, rfl⟩ := sj_map_some h1
  exact cg_X8_stands ho h2
theorem dX8_factor_0 : decode cX8_factor 0 = .ok (.aload_n 0, 1) := by decide +kernel
theorem dX8_factor_1 : decode cX8_factor 1 = .ok (.invokevirtual 267, 3) := by decide +kernel
theorem dX8_factor_4 : decode cX8_factor 4 = .ok (.ifCond .eq 16, 3) := by decide +kernel
theorem dX8_factor_7 : decode cX8_factor 7 = .ok (.aload_n 0, 1) := by decide +kernel
theorem dX8_factor_8 : decode cX8_factor 8 = .ok (.getfield 53, 3) := by decide +kernel
theorem dX8_factor_11 : decode cX8_factor 11 = .ok (.sipush 20001, 3) := by decide +kernel
theorem dX8_factor_14 : decode cX8_factor 14 = .ok (.invokevirtual 303, 3) := by decide +kernel
theorem dX8_factor_17 : decode cX8_factor 17 = .ok (.goto 4, 3) := by decide +kernel
theorem dX8_factor_20 : decode cX8_factor 20 = .ok (.iconst (-1), 1) := by decide +kernel
theorem dX8_factor_21 : decode cX8_factor 21 = .ok (.ireturn, 1) := by decide +kernel
set_option maxHeartbeats 4000000 in
theorem st_X8_factor_0 {X : sj_X} {g : sj_G} {s0 : sj_Mem} {N : Nat} {q : Int × sj_VV} :
    ∀ (a0 : Nat) (V : sj_VV), OK8 g a0 → g_X8_factor N a0 V = some q → sj_T X m_X8_factor s0 (some (sj_i q.1), (g, q.2)) 0 [some (sj_r (some a0))] [] (g, V) := by
  intro a0 V ha0 h
  unfold g_X8_factor at h
  refine r_aload_n (pc := 0) dX8_factor_0 rfl rfl ?_
  refine r_callVs (pc := 1) (fun v => some (sj_i v)) (As := []) (rest := []) (b := a0) (ok8 ha0) h dX8_factor_1 mw_X8_267 vw_X8_cutUp (fun _ _ hc => cg_X8_cutUp ha0 hc) rfl ⟨(Nat.le_of_ble_eq_true rfl), (Nat.le_of_ble_eq_true rfl)⟩ (Nat.le_of_ble_eq_true rfl) rfl (fun v2 V1 h => ?_)
  refine r_if_eq (pc := 4) (tgt := 20) h dX8_factor_4 (by decide) (fun h => ?_) (fun h => ?_)
  · refine r_iconst (pc := 20) dX8_factor_20 ?_
    exact r_irets (pc := 21) h rfl dX8_factor_21
  · refine r_aload_n (pc := 7) dX8_factor_7 rfl rfl ?_
    refine r_gRs (b := a0 + 54) (pc := 8) dX8_factor_8 fw_X8_53 rfl (ok8 ha0) (ok8_8 ha0).1 ?_
    refine r_sipush (pc := 11) dX8_factor_11 ⟨by decide, by decide⟩ ?_
    refine r_callVs (pc := 14) (fun v => some (sj_i v)) (As := [sj_i 20001]) (rest := []) (b := (a0 + 54)) (ok4 (ok8_8 ha0).2) h dX8_factor_14 mw_X8_303 vw_X4_leastBound (fun _ _ hc => cg_X4_leastBound (ok8_8 ha0).2 hc) rfl ⟨(Nat.le_of_ble_eq_true rfl), (Nat.le_of_ble_eq_true rfl)⟩ (Nat.le_of_ble_eq_true rfl) rfl (fun v4 V3 h => ?_)
    refine r_goto (pc := 17) (tgt := 21) dX8_factor_17 (by decide) ?_
    exact r_irets (pc := 21) h rfl dX8_factor_21
set_option maxHeartbeats 4000000 in
theorem cg_X8_factor {X : sj_X} {g : sj_G} {N : Nat} {a0 : Nat} {V : sj_VV} {q : Int × sj_VV} (ha0 : OK8 g a0) (h : g_X8_factor N a0 V = some q) : sj_C X m_X8_factor [sj_r (some a0)] (g, V) (some (sj_i q.1), (g, q.2)) :=
  sj_C_of (by decide +kernel) (Nat.le_of_ble_eq_true rfl) (lo := [some (sj_r (some a0))]) rfl (sj_weak (l2 := [some (sj_r (some a0))]) (⟨rfl, trivial⟩) (st_X8_factor_0 a0 V ha0 h))
set_option maxHeartbeats 4000000 in
theorem c_X8_factor {X : sj_X} {N : Nat} {a0 : Nat} {s : sj_Mem} {q : Int × sj_Mem} (h : f_X8_factor N a0 s = some q) : sj_C X m_X8_factor [sj_r (some a0)] s (some (sj_i q.1), q.2) := by
  obtain ⟨g, V⟩ := s
  unfold f_X8_factor at h
  obtain ⟨ho, h1⟩ := e_ok_some h
  obtain ⟨q2, h2, rfl⟩ := sj_map_some h1
  exact cg_X8_factor ho h2
theorem dX8_sum_0 : decode cX8_sum 0 = .ok (.aload_n 0, 1) := by decide +kernel
theorem dX8_sum_1 : decode cX8_sum 1 = .ok (.invokevirtual 267, 3) := by decide +kernel
theorem dX8_sum_4 : decode cX8_sum 4 = .ok (.ifCond .ne 7, 3) := by decide +kernel
theorem dX8_sum_7 : decode cX8_sum 7 = .ok (.ldc2_w 270, 3) := by decide +kernel
theorem dX8_sum_10 : decode cX8_sum 10 = .ok (.lreturn, 1) := by decide +kernel
theorem dX8_sum_11 : decode cX8_sum 11 = .ok (.iload_n 1, 1) := by decide +kernel
theorem dX8_sum_12 : decode cX8_sum 12 = .ok (.tableswitch 76 0 4 #[36, 44, 52, 60, 68], 36) := by decide +kernel
theorem dX8_sum_48 : decode cX8_sum 48 = .ok (.aload_n 0, 1) := by decide +kernel
theorem dX8_sum_49 : decode cX8_sum 49 = .ok (.getfield 53, 3) := by decide +kernel
theorem dX8_sum_52 : decode cX8_sum 52 = .ok (.invokevirtual 306, 3) := by decide +kernel
theorem dX8_sum_55 : decode cX8_sum 55 = .ok (.lreturn, 1) := by decide +kernel
theorem dX8_sum_56 : decode cX8_sum 56 = .ok (.aload_n 0, 1) := by decide +kernel
theorem dX8_sum_57 : decode cX8_sum 57 = .ok (.getfield 53, 3) := by decide +kernel
theorem dX8_sum_60 : decode cX8_sum 60 = .ok (.getfield 310, 3) := by decide +kernel
theorem dX8_sum_63 : decode cX8_sum 63 = .ok (.lreturn, 1) := by decide +kernel
theorem dX8_sum_64 : decode cX8_sum 64 = .ok (.aload_n 0, 1) := by decide +kernel
theorem dX8_sum_65 : decode cX8_sum 65 = .ok (.getfield 53, 3) := by decide +kernel
theorem dX8_sum_68 : decode cX8_sum 68 = .ok (.invokevirtual 314, 3) := by decide +kernel
theorem dX8_sum_71 : decode cX8_sum 71 = .ok (.lreturn, 1) := by decide +kernel
theorem dX8_sum_72 : decode cX8_sum 72 = .ok (.aload_n 0, 1) := by decide +kernel
theorem dX8_sum_73 : decode cX8_sum 73 = .ok (.getfield 53, 3) := by decide +kernel
theorem dX8_sum_76 : decode cX8_sum 76 = .ok (.invokevirtual 317, 3) := by decide +kernel
theorem dX8_sum_79 : decode cX8_sum 79 = .ok (.lreturn, 1) := by decide +kernel
theorem dX8_sum_80 : decode cX8_sum 80 = .ok (.aload_n 0, 1) := by decide +kernel
theorem dX8_sum_81 : decode cX8_sum 81 = .ok (.getfield 53, 3) := by decide +kernel
theorem dX8_sum_84 : decode cX8_sum 84 = .ok (.invokevirtual 320, 3) := by decide +kernel
theorem dX8_sum_87 : decode cX8_sum 87 = .ok (.lreturn, 1) := by decide +kernel
theorem dX8_sum_88 : decode cX8_sum 88 = .ok (.ldc2_w 270, 3) := by decide +kernel
theorem dX8_sum_91 : decode cX8_sum 91 = .ok (.lreturn, 1) := by decide +kernel
set_option maxHeartbeats 4000000 in
theorem st_X8_sum_0 {X : sj_X} {g : sj_G} {s0 : sj_Mem} {N : Nat} {q : Int × sj_VV} :
    ∀ (a0 : Nat) (x1 : Int) (V : sj_VV), OK8 g a0 → g_X8_sum N a0 x1 V = some q → sj_T X m_X8_sum s0 (some (sj_j q.1), (g, q.2)) 0 [some (sj_r (some a0)), some (sj_i x1)] [] (g, V) := by
  intro a0 x1 V ha0 h
  unfold g_X8_sum at h
  refine r_aload_n (pc := 0) dX8_sum_0 rfl rfl ?_
  refine r_callVs (pc := 1) (fun v => some (sj_i v)) (As := []) (rest := []) (b := a0) (ok8 ha0) h dX8_sum_1 mw_X8_267 vw_X8_cutUp (fun _ _ hc => cg_X8_cutUp ha0 hc) rfl ⟨(Nat.le_of_ble_eq_true rfl), (Nat.le_of_ble_eq_true rfl)⟩ (Nat.le_of_ble_eq_true rfl) rfl (fun v2 V1 h => ?_)
  refine r_if_ne (pc := 4) (tgt := 11) h dX8_sum_4 (by decide) (fun h => ?_) (fun h => ?_)
  · refine r_ldc2 (n := -10000000000000) (pc := 7) dX8_sum_7 kc_X8_270 ?_
    exact r_lrets (pc := 10) h rfl dX8_sum_10
  · refine r_iload_n (pc := 11) dX8_sum_11 rfl rfl ?_
    obtain ⟨hr, h⟩ := e_sw_some h
    refine sj_if h (fun c0 h => ?_) (fun c0 h => ?_)
    · refine r_tcase (pc := 12) (tgt := 48) (j := 0) hr c0 dX8_sum_12 (by decide) (by decide) rfl (by decide) ?_
      refine r_aload_n (pc := 48) dX8_sum_48 rfl rfl ?_
      refine r_gRs (b := a0 + 54) (pc := 49) dX8_sum_49 fw_X8_53 rfl (ok8 ha0) (ok8_8 ha0).1 ?_
      refine r_callVs (pc := 52) (fun v => some (sj_j v)) (As := []) (rest := []) (b := (a0 + 54)) (ok4 (ok8_8 ha0).2) h dX8_sum_52 mw_X8_306 vw_X4_allPushes (fun _ _ hc => cg_X4_allPushes (ok8_8 ha0).2 hc) rfl ⟨(Nat.le_of_ble_eq_true rfl), (Nat.le_of_ble_eq_true rfl)⟩ (Nat.le_of_ble_eq_true rfl) rfl (fun v4 V3 h => ?_)
      exact r_lrets (pc := 55) h rfl dX8_sum_55
    refine sj_if h (fun c1 h => ?_) (fun c1 h => ?_)
    · refine r_tcase (pc := 12) (tgt := 56) (j := 1) hr c1 dX8_sum_12 (by decide) (by decide) rfl (by decide) ?_
      refine r_aload_n (pc := 56) dX8_sum_56 rfl rfl ?_
      refine r_gRs (b := a0 + 54) (pc := 57) dX8_sum_57 fw_X8_53 rfl (ok8 ha0) (ok8_8 ha0).1 ?_
      refine r_gJs (pc := 60) dX8_sum_60 fw_X8_310 rfl (ok4 (ok8_8 ha0).2) ?_
      exact r_lrets (pc := 63) h rfl dX8_sum_63
    refine sj_if h (fun c2 h => ?_) (fun c2 h => ?_)
    · refine r_tcase (pc := 12) (tgt := 64) (j := 2) hr c2 dX8_sum_12 (by decide) (by decide) rfl (by decide) ?_
      refine r_aload_n (pc := 64) dX8_sum_64 rfl rfl ?_
      refine r_gRs (b := a0 + 54) (pc := 65) dX8_sum_65 fw_X8_53 rfl (ok8 ha0) (ok8_8 ha0).1 ?_
      refine r_callVs (pc := 68) (fun v => some (sj_j v)) (As := []) (rest := []) (b := (a0 + 54)) (ok4 (ok8_8 ha0).2) h dX8_sum_68 mw_X8_314 vw_X4_allWeights (fun _ _ hc => cg_X4_allWeights (ok8_8 ha0).2 hc) rfl ⟨(Nat.le_of_ble_eq_true rfl), (Nat.le_of_ble_eq_true rfl)⟩ (Nat.le_of_ble_eq_true rfl) rfl (fun v6 V5 h => ?_)
      exact r_lrets (pc := 71) h rfl dX8_sum_71
    refine sj_if h (fun c3 h => ?_) (fun c3 h => ?_)
    · refine r_tcase (pc := 12) (tgt := 72) (j := 3) hr c3 dX8_sum_12 (by decide) (by decide) rfl (by decide) ?_
      refine r_aload_n (pc := 72) dX8_sum_72 rfl rfl ?_
      refine r_gRs (b := a0 + 54) (pc := 73) dX8_sum_73 fw_X8_53 rfl (ok8 ha0) (ok8_8 ha0).1 ?_
      refine r_callVs (pc := 76) (fun v => some (sj_j v)) (As := []) (rest := []) (b := (a0 + 54)) (ok4 (ok8_8 ha0).2) h dX8_sum_76 mw_X8_317 vw_X4_allLifts (fun _ _ hc => cg_X4_allLifts (ok8_8 ha0).2 hc) rfl ⟨(Nat.le_of_ble_eq_true rfl), (Nat.le_of_ble_eq_true rfl)⟩ (Nat.le_of_ble_eq_true rfl) rfl (fun v8 V7 h => ?_)
      exact r_lrets (pc := 79) h rfl dX8_sum_79
    refine sj_if h (fun c4 h => ?_) (fun c4 h => ?_)
    · refine r_tcase (pc := 12) (tgt := 80) (j := 4) hr c4 dX8_sum_12 (by decide) (by decide) rfl (by decide) ?_
      refine r_aload_n (pc := 80) dX8_sum_80 rfl rfl ?_
      refine r_gRs (b := a0 + 54) (pc := 81) dX8_sum_81 fw_X8_53 rfl (ok8 ha0) (ok8_8 ha0).1 ?_
      refine r_callVs (pc := 84) (fun v => some (sj_j v)) (As := []) (rest := []) (b := (a0 + 54)) (ok4 (ok8_8 ha0).2) h dX8_sum_84 mw_X8_320 vw_X4_allStrengths (fun _ _ hc => cg_X4_allStrengths (ok8_8 ha0).2 hc) rfl ⟨(Nat.le_of_ble_eq_true rfl), (Nat.le_of_ble_eq_true rfl)⟩ (Nat.le_of_ble_eq_true rfl) rfl (fun v10 V9 h => ?_)
      exact r_lrets (pc := 87) h rfl dX8_sum_87
    refine r_tdflt (pc := 12) (tgt := 88) hr dX8_sum_12 (by omega) (by decide) ?_
    refine r_ldc2 (n := -10000000000000) (pc := 88) dX8_sum_88 kc_X8_270 ?_
    exact r_lrets (pc := 91) h rfl dX8_sum_91
set_option maxHeartbeats 4000000 in
theorem cg_X8_sum {X : sj_X} {g : sj_G} {N : Nat} {a0 : Nat} {x1 : Int} {V : sj_VV} {q : Int × sj_VV} (ha0 : OK8 g a0) (h : g_X8_sum N a0 x1 V = some q) : sj_C X m_X8_sum [sj_r (some a0), sj_i x1] (g, V) (some (sj_j q.1), (g, q.2)) :=
  sj_C_of (by decide +kernel) (Nat.le_of_ble_eq_true rfl) (lo := [some (sj_r (some a0)), some (sj_i x1)]) rfl (sj_weak (l2 := [some (sj_r (some a0)), some (sj_i x1)]) (⟨rfl, ⟨rfl, trivial⟩⟩) (st_X8_sum_0 a0 x1 V ha0 h))
set_option maxHeartbeats 4000000 in
theorem c_X8_sum {X : sj_X} {N : Nat} {a0 : Nat} {x1 : Int} {s : sj_Mem} {q : Int × sj_Mem} (h : f_X8_sum N a0 x1 s = some q) : sj_C X m_X8_sum [sj_r (some a0), sj_i x1] s (some (sj_j q.1), q.2) := by
  obtain ⟨g, V⟩ := s
  unfold f_X8_sum at h
  obtain ⟨ho, h1⟩ := e_ok_some h
  obtain ⟨q2, h2, rfl⟩ := sj_map_some h1
  exact cg_X8_sum ho h2
theorem dX8_dry_0 : decode cX8_dry 0 = .ok (.aload_n 0, 1) := by decide +kernel
theorem dX8_dry_1 : decode cX8_dry 1 = .ok (.getfield 12, 3) := by decide +kernel
theorem dX8_dry_4 : decode cX8_dry 4 = .ok (.getfield 106, 3) := by decide +kernel
theorem dX8_dry_7 : decode cX8_dry 7 = .ok (.invokevirtual 192, 3) := by decide +kernel
theorem dX8_dry_10 : decode cX8_dry 10 = .ok (.ifCond .eq 5, 3) := by decide +kernel
theorem dX8_dry_13 : decode cX8_dry 13 = .ok (.iconst (-1), 1) := by decide +kernel
theorem dX8_dry_14 : decode cX8_dry 14 = .ok (.ireturn, 1) := by decide +kernel
theorem dX8_dry_15 : decode cX8_dry 15 = .ok (.aload_n 0, 1) := by decide +kernel
theorem dX8_dry_16 : decode cX8_dry 16 = .ok (.getfield 16, 3) := by decide +kernel
theorem dX8_dry_19 : decode cX8_dry 19 = .ok (.aload_n 0, 1) := by decide +kernel
theorem dX8_dry_20 : decode cX8_dry 20 = .ok (.getfield 12, 3) := by decide +kernel
theorem dX8_dry_23 : decode cX8_dry 23 = .ok (.invokevirtual 148, 3) := by decide +kernel
theorem dX8_dry_26 : decode cX8_dry 26 = .ok (.aload_n 0, 1) := by decide +kernel
theorem dX8_dry_27 : decode cX8_dry 27 = .ok (.getfield 16, 3) := by decide +kernel
theorem dX8_dry_30 : decode cX8_dry 30 = .ok (.invokevirtual 323, 3) := by decide +kernel
theorem dX8_dry_33 : decode cX8_dry 33 = .ok (.aload_n 0, 1) := by decide +kernel
theorem dX8_dry_34 : decode cX8_dry 34 = .ok (.getfield 53, 3) := by decide +kernel
theorem dX8_dry_37 : decode cX8_dry 37 = .ok (.aload_n 0, 1) := by decide +kernel
theorem dX8_dry_38 : decode cX8_dry 38 = .ok (.getfield 16, 3) := by decide +kernel
theorem dX8_dry_41 : decode cX8_dry 41 = .ok (.aload_n 0, 1) := by decide +kernel
theorem dX8_dry_42 : decode cX8_dry 42 = .ok (.getfield 12, 3) := by decide +kernel
theorem dX8_dry_45 : decode cX8_dry 45 = .ok (.getfield 106, 3) := by decide +kernel
theorem dX8_dry_48 : decode cX8_dry 48 = .ok (.invokevirtual 259, 3) := by decide +kernel
theorem dX8_dry_51 : decode cX8_dry 51 = .ok (.aload_n 0, 1) := by decide +kernel
theorem dX8_dry_52 : decode cX8_dry 52 = .ok (.getfield 53, 3) := by decide +kernel
theorem dX8_dry_55 : decode cX8_dry 55 = .ok (.aload_n 0, 1) := by decide +kernel
theorem dX8_dry_56 : decode cX8_dry 56 = .ok (.getfield 16, 3) := by decide +kernel
theorem dX8_dry_59 : decode cX8_dry 59 = .ok (.iconst 0, 1) := by decide +kernel
theorem dX8_dry_60 : decode cX8_dry 60 = .ok (.invokevirtual 263, 3) := by decide +kernel
theorem dX8_dry_63 : decode cX8_dry 63 = .ok (.aload_n 0, 1) := by decide +kernel
theorem dX8_dry_64 : decode cX8_dry 64 = .ok (.getfield 53, 3) := by decide +kernel
theorem dX8_dry_67 : decode cX8_dry 67 = .ok (.sipush 20001, 3) := by decide +kernel
theorem dX8_dry_70 : decode cX8_dry 70 = .ok (.invokevirtual 303, 3) := by decide +kernel
theorem dX8_dry_73 : decode cX8_dry 73 = .ok (.ireturn, 1) := by decide +kernel
set_option maxHeartbeats 4000000 in
theorem st_X8_dry_0 {X : sj_X} {g : sj_G} {s0 : sj_Mem} {N : Nat} {q : Int × sj_VV} :
    ∀ (a0 : Nat) (V : sj_VV), OK8 g a0 → g_X8_dry N a0 V = some q → sj_T X m_X8_dry s0 (some (sj_i q.1), (g, q.2)) 0 [some (sj_r (some a0))] [] (g, V) := by
  intro a0 V ha0 h
  unfold g_X8_dry at h
  refine r_aload_n (pc := 0) dX8_dry_0 rfl rfl ?_
  refine r_gRs (b := a0 + 1) (pc := 1) dX8_dry_1 fw_X8_12 rfl (ok8 ha0) (ok8_0 ha0).1 ?_
  refine r_gRs (b := (a0 + 1) + 12) (pc := 4) dX8_dry_4 fw_X8_106 rfl (ok0 (ok8_0 ha0).2) (ok0_14 (ok8_0 ha0).2).1 ?_
  refine r_callVs (pc := 7) (fun v => some (sj_i v)) (As := []) (rest := []) (b := ((a0 + 1) + 12)) (ok5 (ok0_14 (ok8_0 ha0).2).2) h dX8_dry_7 mw_X8_192 vw_X5_isNone (fun _ _ hc => cg_X5_isNone (ok0_14 (ok8_0 ha0).2).2 hc) rfl ⟨(Nat.le_of_ble_eq_true rfl), (Nat.le_of_ble_eq_true rfl)⟩ (Nat.le_of_ble_eq_true rfl) rfl (fun v2 V1 h => ?_)
  refine r_if_eq (pc := 10) (tgt := 15) h dX8_dry_10 (by decide) (fun h => ?_) (fun h => ?_)
  · refine r_aload_n (pc := 15) dX8_dry_15 rfl rfl ?_
    refine r_gRs (b := a0 + 15) (pc := 16) dX8_dry_16 fw_X8_16 rfl (ok8 ha0) (ok8_1 ha0).1 ?_
    refine r_aload_n (pc := 19) dX8_dry_19 rfl rfl ?_
    refine r_gRs (b := a0 + 1) (pc := 20) dX8_dry_20 fw_X8_12 rfl (ok8 ha0) (ok8_0 ha0).1 ?_
    refine r_callVs (pc := 23) (fun _ => none) (As := [sj_r (some (a0 + 1))]) (rest := []) (b := (a0 + 15)) (ok0 (ok8_1 ha0).2) h dX8_dry_23 mw_X8_148 vw_X0_copy (fun _ _ hc => cg_X0_copy (ok8_1 ha0).2 (ok8_0 ha0).2 hc) rfl ⟨(Nat.le_of_ble_eq_true rfl), (Nat.le_of_ble_eq_true rfl)⟩ (Nat.le_of_ble_eq_true rfl) rfl (fun _u V3 h => ?_)
    refine r_aload_n (pc := 26) dX8_dry_26 rfl rfl ?_
    refine r_gRs (b := a0 + 15) (pc := 27) dX8_dry_27 fw_X8_16 rfl (ok8 ha0) (ok8_1 ha0).1 ?_
    refine r_callVs (pc := 30) (fun _ => none) (As := []) (rest := []) (b := (a0 + 15)) (ok0 (ok8_1 ha0).2) h dX8_dry_30 mw_X8_323 vw_X0_dryUp (fun _ _ hc => cg_X0_dryUp (ok8_1 ha0).2 hc) rfl ⟨(Nat.le_of_ble_eq_true rfl), (Nat.le_of_ble_eq_true rfl)⟩ (Nat.le_of_ble_eq_true rfl) rfl (fun _u V4 h => ?_)
    refine r_aload_n (pc := 33) dX8_dry_33 rfl rfl ?_
    refine r_gRs (b := a0 + 54) (pc := 34) dX8_dry_34 fw_X8_53 rfl (ok8 ha0) (ok8_8 ha0).1 ?_
    refine r_aload_n (pc := 37) dX8_dry_37 rfl rfl ?_
    refine r_gRs (b := a0 + 15) (pc := 38) dX8_dry_38 fw_X8_16 rfl (ok8 ha0) (ok8_1 ha0).1 ?_
    refine r_aload_n (pc := 41) dX8_dry_41 rfl rfl ?_
    refine r_gRs (b := a0 + 1) (pc := 42) dX8_dry_42 fw_X8_12 rfl (ok8 ha0) (ok8_0 ha0).1 ?_
    refine r_gRs (b := (a0 + 1) + 12) (pc := 45) dX8_dry_45 fw_X8_106 rfl (ok0 (ok8_0 ha0).2) (ok0_14 (ok8_0 ha0).2).1 ?_
    refine r_callVs (pc := 48) (fun _ => none) (As := [sj_r (some (a0 + 15)), sj_r (some ((a0 + 1) + 12))]) (rest := []) (b := (a0 + 54)) (ok4 (ok8_8 ha0).2) h dX8_dry_48 mw_X8_259 vw_X4_weigh (fun _ _ hc => cg_X4_weigh (ok8_8 ha0).2 (ok8_1 ha0).2 (ok0_14 (ok8_0 ha0).2).2 hc) rfl ⟨(Nat.le_of_ble_eq_true rfl), (Nat.le_of_ble_eq_true rfl)⟩ (Nat.le_of_ble_eq_true rfl) rfl (fun _u V5 h => ?_)
    refine r_aload_n (pc := 51) dX8_dry_51 rfl rfl ?_
    refine r_gRs (b := a0 + 54) (pc := 52) dX8_dry_52 fw_X8_53 rfl (ok8 ha0) (ok8_8 ha0).1 ?_
    refine r_aload_n (pc := 55) dX8_dry_55 rfl rfl ?_
    refine r_gRs (b := a0 + 15) (pc := 56) dX8_dry_56 fw_X8_16 rfl (ok8 ha0) (ok8_1 ha0).1 ?_
    refine r_iconst (pc := 59) dX8_dry_59 ?_
    refine r_callVs (pc := 60) (fun _ => none) (As := [sj_r (some (a0 + 15)), sj_i 0]) (rest := []) (b := (a0 + 54)) (ok4 (ok8_8 ha0).2) h dX8_dry_60 mw_X8_263 vw_X4_settle (fun _ _ hc => cg_X4_settle (ok8_8 ha0).2 (ok8_1 ha0).2 hc) rfl ⟨(Nat.le_of_ble_eq_true rfl), (Nat.le_of_ble_eq_true rfl)⟩ (Nat.le_of_ble_eq_true rfl) rfl (fun _u V6 h => ?_)
    refine r_aload_n (pc := 63) dX8_dry_63 rfl rfl ?_
    refine r_gRs (b := a0 + 54) (pc := 64) dX8_dry_64 fw_X8_53 rfl (ok8 ha0) (ok8_8 ha0).1 ?_
    refine r_sipush (pc := 67) dX8_dry_67 ⟨by decide, by decide⟩ ?_
    refine r_callVs (pc := 70) (fun v => some (sj_i v)) (As := [sj_i 20001]) (rest := []) (b := (a0 + 54)) (ok4 (ok8_8 ha0).2) h dX8_dry_70 mw_X8_303 vw_X4_leastBound (fun _ _ hc => cg_X4_leastBound (ok8_8 ha0).2 hc) rfl ⟨(Nat.le_of_ble_eq_true rfl), (Nat.le_of_ble_eq_true rfl)⟩ (Nat.le_of_ble_eq_true rfl) rfl (fun v8 V7 h => ?_)
    exact r_irets (pc := 73) h rfl dX8_dry_73
  · refine r_iconst (pc := 13) dX8_dry_13 ?_
    exact r_irets (pc := 14) h rfl dX8_dry_14
set_option maxHeartbeats 4000000 in
theorem cg_X8_dry {X : sj_X} {g : sj_G} {N : Nat} {a0 : Nat} {V : sj_VV} {q : Int × sj_VV} (ha0 : OK8 g a0) (h : g_X8_dry N a0 V = some q) : sj_C X m_X8_dry [sj_r (some a0)] (g, V) (some (sj_i q.1), (g, q.2)) :=
  sj_C_of (by decide +kernel) (Nat.le_of_ble_eq_true rfl) (lo := [some (sj_r (some a0))]) rfl (sj_weak (l2 := [some (sj_r (some a0))]) (⟨rfl, trivial⟩) (st_X8_dry_0 a0 V ha0 h))
set_option maxHeartbeats 4000000 in
theorem c_X8_dry {X : sj_X} {N : Nat} {a0 : Nat} {s : sj_Mem} {q : Int × sj_Mem} (h : f_X8_dry N a0 s = some q) : sj_C X m_X8_dry [sj_r (some a0)] s (some (sj_i q.1), q.2) := by
  obtain ⟨g, V⟩ := s
  unfold f_X8_dry at h
  obtain ⟨ho, h1⟩ := e_ok_some h
  obtain ⟨q2, h2, rfl⟩ := sj_map_some h1
  exact cg_X8_dry ho h2
theorem dX8_bears_0 : decode cX8_bears 0 = .ok (.iload_n 1, 1) := by decide +kernel
theorem dX8_bears_1 : decode cX8_bears 1 = .ok (.invokestatic 292, 3) := by decide +kernel
theorem dX8_bears_4 : decode cX8_bears 4 = .ok (.ifCond .eq 16, 3) := by decide +kernel
theorem dX8_bears_7 : decode cX8_bears 7 = .ok (.aload_n 0, 1) := by decide +kernel
theorem dX8_bears_8 : decode cX8_bears 8 = .ok (.getfield 12, 3) := by decide +kernel
theorem dX8_bears_11 : decode cX8_bears 11 = .ok (.getfield 106, 3) := by decide +kernel
theorem dX8_bears_14 : decode cX8_bears 14 = .ok (.invokevirtual 192, 3) := by decide +kernel
theorem dX8_bears_17 : decode cX8_bears 17 = .ok (.ifCond .eq 5, 3) := by decide +kernel
theorem dX8_bears_20 : decode cX8_bears 20 = .ok (.iconst (-1), 1) := by decide +kernel
theorem dX8_bears_21 : decode cX8_bears 21 = .ok (.ireturn, 1) := by decide +kernel
theorem dX8_bears_22 : decode cX8_bears 22 = .ok (.aload_n 0, 1) := by decide +kernel
theorem dX8_bears_23 : decode cX8_bears 23 = .ok (.getfield 16, 3) := by decide +kernel
theorem dX8_bears_26 : decode cX8_bears 26 = .ok (.aload_n 0, 1) := by decide +kernel
theorem dX8_bears_27 : decode cX8_bears 27 = .ok (.getfield 12, 3) := by decide +kernel
theorem dX8_bears_30 : decode cX8_bears 30 = .ok (.invokevirtual 148, 3) := by decide +kernel
theorem dX8_bears_33 : decode cX8_bears 33 = .ok (.iconst (-1), 1) := by decide +kernel
theorem dX8_bears_34 : decode cX8_bears 34 = .ok (.istore_n 2, 1) := by decide +kernel
theorem dX8_bears_35 : decode cX8_bears 35 = .ok (.iconst 0, 1) := by decide +kernel
theorem dX8_bears_36 : decode cX8_bears 36 = .ok (.istore_n 3, 1) := by decide +kernel
theorem dX8_bears_37 : decode cX8_bears 37 = .ok (.iload_n 3, 1) := by decide +kernel
theorem dX8_bears_38 : decode cX8_bears 38 = .ok (.bipush 100, 2) := by decide +kernel
theorem dX8_bears_40 : decode cX8_bears 40 = .ok (.if_icmp .gt 61, 3) := by decide +kernel
theorem dX8_bears_43 : decode cX8_bears 43 = .ok (.aload_n 0, 1) := by decide +kernel
theorem dX8_bears_44 : decode cX8_bears 44 = .ok (.getfield 53, 3) := by decide +kernel
theorem dX8_bears_47 : decode cX8_bears 47 = .ok (.aload_n 0, 1) := by decide +kernel
theorem dX8_bears_48 : decode cX8_bears 48 = .ok (.getfield 16, 3) := by decide +kernel
theorem dX8_bears_51 : decode cX8_bears 51 = .ok (.aload_n 0, 1) := by decide +kernel
theorem dX8_bears_52 : decode cX8_bears 52 = .ok (.getfield 12, 3) := by decide +kernel
theorem dX8_bears_55 : decode cX8_bears 55 = .ok (.getfield 106, 3) := by decide +kernel
theorem dX8_bears_58 : decode cX8_bears 58 = .ok (.invokevirtual 259, 3) := by decide +kernel
theorem dX8_bears_61 : decode cX8_bears 61 = .ok (.aload_n 0, 1) := by decide +kernel
theorem dX8_bears_62 : decode cX8_bears 62 = .ok (.getfield 53, 3) := by decide +kernel
theorem dX8_bears_65 : decode cX8_bears 65 = .ok (.aload_n 0, 1) := by decide +kernel
theorem dX8_bears_66 : decode cX8_bears 66 = .ok (.getfield 16, 3) := by decide +kernel
theorem dX8_bears_69 : decode cX8_bears 69 = .ok (.iconst 0, 1) := by decide +kernel
theorem dX8_bears_70 : decode cX8_bears 70 = .ok (.invokevirtual 263, 3) := by decide +kernel
theorem dX8_bears_73 : decode cX8_bears 73 = .ok (.aload_n 0, 1) := by decide +kernel
theorem dX8_bears_74 : decode cX8_bears 74 = .ok (.getfield 53, 3) := by decide +kernel
theorem dX8_bears_77 : decode cX8_bears 77 = .ok (.iload_n 1, 1) := by decide +kernel
theorem dX8_bears_78 : decode cX8_bears 78 = .ok (.invokevirtual 301, 3) := by decide +kernel
theorem dX8_bears_81 : decode cX8_bears 81 = .ok (.ifCond .ne 5, 3) := by decide +kernel
theorem dX8_bears_84 : decode cX8_bears 84 = .ok (.iload_n 2, 1) := by decide +kernel
theorem dX8_bears_85 : decode cX8_bears 85 = .ok (.ireturn, 1) := by decide +kernel
theorem dX8_bears_86 : decode cX8_bears 86 = .ok (.iload_n 3, 1) := by decide +kernel
theorem dX8_bears_87 : decode cX8_bears 87 = .ok (.istore_n 2, 1) := by decide +kernel
theorem dX8_bears_88 : decode cX8_bears 88 = .ok (.aload_n 0, 1) := by decide +kernel
theorem dX8_bears_89 : decode cX8_bears 89 = .ok (.getfield 16, 3) := by decide +kernel
theorem dX8_bears_92 : decode cX8_bears 92 = .ok (.invokevirtual 326, 3) := by decide +kernel
theorem dX8_bears_95 : decode cX8_bears 95 = .ok (.iinc 3 1, 3) := by decide +kernel
theorem dX8_bears_98 : decode cX8_bears 98 = .ok (.goto (-61), 3) := by decide +kernel
theorem dX8_bears_101 : decode cX8_bears 101 = .ok (.iload_n 2, 1) := by decide +kernel
theorem dX8_bears_102 : decode cX8_bears 102 = .ok (.ireturn, 1) := by decide +kernel
set_option maxHeartbeats 4000000 in
theorem st_X8_bears_37_b {X : sj_X} {g : sj_G} {s0 : sj_Mem} {N : Nat} {q : Int × sj_VV} {k37 : Nat → Int → Int → Int → sj_VV → Option (Int × sj_VV)} (hk37 : ∀ (a0 : Nat) (x1 : Int) (x2 : Int) (x3 : Int) (V : sj_VV), OK8 g a0 → k37 a0 x1 x2 x3 V = some q → sj_T X m_X8_bears s0 (some (sj_i q.1), (g, q.2)) 37 [some (sj_r (some a0)), some (sj_i x1), some (sj_i x2), some (sj_i x3)] [] (g, V)) :
    ∀ (a0 : Nat) (x1 : Int) (x2 : Int) (x3 : Int) (V : sj_VV), OK8 g a0 → g_X8_bears_37_b N k37 a0 x1 x2 x3 V = some q → sj_T X m_X8_bears s0 (some (sj_i q.1), (g, q.2)) 37 [some (sj_r (some a0)), some (sj_i x1), some (sj_i x2), some (sj_i x3)] [] (g, V) := by
  intro a0 x1 x2 x3 V ha0 h
  unfold g_X8_bears_37_b at h
  refine r_iload_n (pc := 37) dX8_bears_37 rfl rfl ?_
  refine r_bipush (pc := 38) dX8_bears_38 ⟨by decide, by decide⟩ ?_
  refine r_icmp_gt (pc := 40) (tgt := 101) h dX8_bears_40 (by decide) (fun h => ?_) (fun h => ?_)
  · refine r_iload_n (pc := 101) dX8_bears_101 rfl rfl ?_
    exact r_irets (pc := 102) h rfl dX8_bears_102
  · refine r_aload_n (pc := 43) dX8_bears_43 rfl rfl ?_
    refine r_gRs (b := a0 + 54) (pc := 44) dX8_bears_44 fw_X8_53 rfl (ok8 ha0) (ok8_8 ha0).1 ?_
    refine r_aload_n (pc := 47) dX8_bears_47 rfl rfl ?_
    refine r_gRs (b := a0 + 15) (pc := 48) dX8_bears_48 fw_X8_16 rfl (ok8 ha0) (ok8_1 ha0).1 ?_
    refine r_aload_n (pc := 51) dX8_bears_51 rfl rfl ?_
    refine r_gRs (b := a0 + 1) (pc := 52) dX8_bears_52 fw_X8_12 rfl (ok8 ha0) (ok8_0 ha0).1 ?_
    refine r_gRs (b := (a0 + 1) + 12) (pc := 55) dX8_bears_55 fw_X8_106 rfl (ok0 (ok8_0 ha0).2) (ok0_14 (ok8_0 ha0).2).1 ?_
    refine r_callVs (pc := 58) (fun _ => none) (As := [sj_r (some (a0 + 15)), sj_r (some ((a0 + 1) + 12))]) (rest := []) (b := (a0 + 54)) (ok4 (ok8_8 ha0).2) h dX8_bears_58 mw_X8_259 vw_X4_weigh (fun _ _ hc => cg_X4_weigh (ok8_8 ha0).2 (ok8_1 ha0).2 (ok0_14 (ok8_0 ha0).2).2 hc) rfl ⟨(Nat.le_of_ble_eq_true rfl), (Nat.le_of_ble_eq_true rfl)⟩ (Nat.le_of_ble_eq_true rfl) rfl (fun _u V1 h => ?_)
    refine r_aload_n (pc := 61) dX8_bears_61 rfl rfl ?_
    refine r_gRs (b := a0 + 54) (pc := 62) dX8_bears_62 fw_X8_53 rfl (ok8 ha0) (ok8_8 ha0).1 ?_
    refine r_aload_n (pc := 65) dX8_bears_65 rfl rfl ?_
    refine r_gRs (b := a0 + 15) (pc := 66) dX8_bears_66 fw_X8_16 rfl (ok8 ha0) (ok8_1 ha0).1 ?_
    refine r_iconst (pc := 69) dX8_bears_69 ?_
    refine r_callVs (pc := 70) (fun _ => none) (As := [sj_r (some (a0 + 15)), sj_i 0]) (rest := []) (b := (a0 + 54)) (ok4 (ok8_8 ha0).2) h dX8_bears_70 mw_X8_263 vw_X4_settle (fun _ _ hc => cg_X4_settle (ok8_8 ha0).2 (ok8_1 ha0).2 hc) rfl ⟨(Nat.le_of_ble_eq_true rfl), (Nat.le_of_ble_eq_true rfl)⟩ (Nat.le_of_ble_eq_true rfl) rfl (fun _u V2 h => ?_)
    refine r_aload_n (pc := 73) dX8_bears_73 rfl rfl ?_
    refine r_gRs (b := a0 + 54) (pc := 74) dX8_bears_74 fw_X8_53 rfl (ok8 ha0) (ok8_8 ha0).1 ?_
    refine r_iload_n (pc := 77) dX8_bears_77 rfl rfl ?_
    refine r_callVs (pc := 78) (fun v => some (sj_i v)) (As := [sj_i x1]) (rest := []) (b := (a0 + 54)) (ok4 (ok8_8 ha0).2) h dX8_bears_78 mw_X8_301 vw_X4_hold (fun _ _ hc => cg_X4_hold (ok8_8 ha0).2 hc) rfl ⟨(Nat.le_of_ble_eq_true rfl), (Nat.le_of_ble_eq_true rfl)⟩ (Nat.le_of_ble_eq_true rfl) rfl (fun v4 V3 h => ?_)
    refine r_if_ne (pc := 81) (tgt := 86) h dX8_bears_81 (by decide) (fun h => ?_) (fun h => ?_)
    · refine r_iload_n (pc := 84) dX8_bears_84 rfl rfl ?_
      exact r_irets (pc := 85) h rfl dX8_bears_85
    · refine r_iload_n (pc := 86) dX8_bears_86 rfl rfl ?_
      refine r_istore_n (ln := [some (sj_r (some a0)), some (sj_i x1), some (sj_i x3), some (sj_i x3)]) (pc := 87) dX8_bears_87 rfl (Nat.le_of_ble_eq_true rfl) rfl ?_
      refine r_aload_n (pc := 88) dX8_bears_88 rfl rfl ?_
      refine r_gRs (b := a0 + 15) (pc := 89) dX8_bears_89 fw_X8_16 rfl (ok8 ha0) (ok8_1 ha0).1 ?_
      refine r_callVs (pc := 92) (fun _ => none) (As := []) (rest := []) (b := (a0 + 15)) (ok0 (ok8_1 ha0).2) h dX8_bears_92 mw_X8_326 vw_X0_raiseWater (fun _ _ hc => cg_X0_raiseWater (ok8_1 ha0).2 hc) rfl ⟨(Nat.le_of_ble_eq_true rfl), (Nat.le_of_ble_eq_true rfl)⟩ (Nat.le_of_ble_eq_true rfl) rfl (fun _u V5 h => ?_)
      refine r_iinc (ln := fun w => [some (sj_r (some a0)), some (sj_i x1), some (sj_i x3), some (sj_i w)]) (pc := 95) h dX8_bears_95 rfl (Nat.le_of_ble_eq_true rfl) (fun _ => rfl) (fun v6 h => ?_)
      refine r_goto (pc := 98) (tgt := 37) dX8_bears_98 (by decide) ?_
      exact sj_weak (l2 := [some (sj_r (some a0)), some (sj_i x1), some (sj_i x3), some (sj_i v6)]) (⟨rfl, ⟨rfl, ⟨rfl, ⟨rfl, trivial⟩⟩⟩⟩) (hk37 a0 x1 x3 v6 V5 ha0 h)
set_option maxHeartbeats 4000000 in
theorem st_X8_bears_37 {X : sj_X} {g : sj_G} {s0 : sj_Mem} {N : Nat} {q : Int × sj_VV} :
    ∀ (n : Nat) (a0 : Nat) (x1 : Int) (x2 : Int) (x3 : Int) (V : sj_VV), OK8 g a0 → g_X8_bears_37 N n a0 x1 x2 x3 V = some q → sj_T X m_X8_bears s0 (some (sj_i q.1), (g, q.2)) 37 [some (sj_r (some a0)), some (sj_i x1), some (sj_i x2), some (sj_i x3)] [] (g, V) := by
  intro n
  induction n with
  | zero => intro a0 x1 x2 x3 V ha0 h; exact nomatch h
  | succ n ih => intro a0 x1 x2 x3 V ha0 h; exact st_X8_bears_37_b (N := N) ih a0 x1 x2 x3 V ha0 h
set_option maxHeartbeats 4000000 in
theorem st_X8_bears_0 {X : sj_X} {g : sj_G} {s0 : sj_Mem} {N : Nat} {q : Int × sj_VV} :
    ∀ (a0 : Nat) (x1 : Int) (V : sj_VV), OK8 g a0 → g_X8_bears N a0 x1 V = some q → sj_T X m_X8_bears s0 (some (sj_i q.1), (g, q.2)) 0 [some (sj_r (some a0)), some (sj_i x1), none, none] [] (g, V) := by
  intro a0 x1 V ha0 h
  unfold g_X8_bears at h
  refine r_iload_n (pc := 0) dX8_bears_0 rfl rfl ?_
  refine r_callSs (pc := 1) (fun v => some (sj_i v)) (As := [sj_i x1]) (rest := []) h dX8_bears_1 mw_X8_292 kw_879 (fun _ _ hc => cg_X8_isK  hc) rfl ⟨(Nat.le_of_ble_eq_true rfl), (Nat.le_of_ble_eq_true rfl)⟩ (Nat.le_of_ble_eq_true rfl) rfl (fun v2 V1 h => ?_)
  refine r_if_eq (pc := 4) (tgt := 20) h dX8_bears_4 (by decide) (fun h => ?_) (fun h => ?_)
  · refine r_iconst (pc := 20) dX8_bears_20 ?_
    exact r_irets (pc := 21) h rfl dX8_bears_21
  · refine r_aload_n (pc := 7) dX8_bears_7 rfl rfl ?_
    refine r_gRs (b := a0 + 1) (pc := 8) dX8_bears_8 fw_X8_12 rfl (ok8 ha0) (ok8_0 ha0).1 ?_
    refine r_gRs (b := (a0 + 1) + 12) (pc := 11) dX8_bears_11 fw_X8_106 rfl (ok0 (ok8_0 ha0).2) (ok0_14 (ok8_0 ha0).2).1 ?_
    refine r_callVs (pc := 14) (fun v => some (sj_i v)) (As := []) (rest := []) (b := ((a0 + 1) + 12)) (ok5 (ok0_14 (ok8_0 ha0).2).2) h dX8_bears_14 mw_X8_192 vw_X5_isNone (fun _ _ hc => cg_X5_isNone (ok0_14 (ok8_0 ha0).2).2 hc) rfl ⟨(Nat.le_of_ble_eq_true rfl), (Nat.le_of_ble_eq_true rfl)⟩ (Nat.le_of_ble_eq_true rfl) rfl (fun v4 V3 h => ?_)
    refine r_if_eq (pc := 17) (tgt := 22) h dX8_bears_17 (by decide) (fun h => ?_) (fun h => ?_)
    · refine r_aload_n (pc := 22) dX8_bears_22 rfl rfl ?_
      refine r_gRs (b := a0 + 15) (pc := 23) dX8_bears_23 fw_X8_16 rfl (ok8 ha0) (ok8_1 ha0).1 ?_
      refine r_aload_n (pc := 26) dX8_bears_26 rfl rfl ?_
      refine r_gRs (b := a0 + 1) (pc := 27) dX8_bears_27 fw_X8_12 rfl (ok8 ha0) (ok8_0 ha0).1 ?_
      refine r_callVs (pc := 30) (fun _ => none) (As := [sj_r (some (a0 + 1))]) (rest := []) (b := (a0 + 15)) (ok0 (ok8_1 ha0).2) h dX8_bears_30 mw_X8_148 vw_X0_copy (fun _ _ hc => cg_X0_copy (ok8_1 ha0).2 (ok8_0 ha0).2 hc) rfl ⟨(Nat.le_of_ble_eq_true rfl), (Nat.le_of_ble_eq_true rfl)⟩ (Nat.le_of_ble_eq_true rfl) rfl (fun _u V5 h => ?_)
      refine r_iconst (pc := 33) dX8_bears_33 ?_
      refine r_istore_n (ln := [some (sj_r (some a0)), some (sj_i x1), some (sj_i ((-1))), none]) (pc := 34) dX8_bears_34 rfl (Nat.le_of_ble_eq_true rfl) rfl ?_
      refine r_iconst (pc := 35) dX8_bears_35 ?_
      refine r_istore_n (ln := [some (sj_r (some a0)), some (sj_i x1), some (sj_i ((-1))), some (sj_i 0)]) (pc := 36) dX8_bears_36 rfl (Nat.le_of_ble_eq_true rfl) rfl ?_
      exact sj_weak (l2 := [some (sj_r (some a0)), some (sj_i x1), some (sj_i ((-1))), some (sj_i 0)]) (⟨rfl, ⟨rfl, ⟨rfl, ⟨rfl, trivial⟩⟩⟩⟩) (st_X8_bears_37 N a0 x1 ((-1)) 0 V5 ha0 h)
    · refine r_iconst (pc := 20) dX8_bears_20 ?_
      exact r_irets (pc := 21) h rfl dX8_bears_21
set_option maxHeartbeats 4000000 in
theorem cg_X8_bears {X : sj_X} {g : sj_G} {N : Nat} {a0 : Nat} {x1 : Int} {V : sj_VV} {q : Int × sj_VV} (ha0 : OK8 g a0) (h : g_X8_bears N a0 x1 V = some q) : sj_C X m_X8_bears [sj_r (some a0), sj_i x1] (g, V) (some (sj_i q.1), (g, q.2)) :=
  sj_C_of (by decide +kernel) (Nat.le_of_ble_eq_true rfl) (lo := [some (sj_r (some a0)), some (sj_i x1), none, none]) rfl (sj_weak (l2 := [some (sj_r (some a0)), some (sj_i x1), none, none]) (⟨rfl, ⟨rfl, trivial⟩⟩) (st_X8_bears_0 a0 x1 V ha0 h))
set_option maxHeartbeats 4000000 in
theorem c_X8_bears {X : sj_X} {N : Nat} {a0 : Nat} {x1 : Int} {s : sj_Mem} {q : Int × sj_Mem} (h : f_X8_bears N a0 x1 s = some q) : sj_C X m_X8_bears [sj_r (some a0), sj_i x1] s (some (sj_i q.1), q.2) := by
  obtain ⟨g, V⟩ := s
  unfold f_X8_bears at h
  obtain ⟨ho, h1⟩ := e_ok_some h
  obtain ⟨q2, h2, rfl⟩ := sj_map_some h1
  exact cg_X8_bears ho h2
theorem dX8_needs_0 : decode cX8_needs 0 = .ok (.iload_n 1, 1) := by decide +kernel
theorem dX8_needs_1 : decode cX8_needs 1 = .ok (.invokestatic 292, 3) := by decide +kernel
theorem dX8_needs_4 : decode cX8_needs 4 = .ok (.ifCond .eq 10, 3) := by decide +kernel
theorem dX8_needs_7 : decode cX8_needs 7 = .ok (.aload_n 0, 1) := by decide +kernel
theorem dX8_needs_8 : decode cX8_needs 8 = .ok (.invokevirtual 267, 3) := by decide +kernel
theorem dX8_needs_11 : decode cX8_needs 11 = .ok (.ifCond .ne 5, 3) := by decide +kernel
theorem dX8_needs_14 : decode cX8_needs 14 = .ok (.iconst (-1), 1) := by decide +kernel
theorem dX8_needs_15 : decode cX8_needs 15 = .ok (.ireturn, 1) := by decide +kernel
theorem dX8_needs_16 : decode cX8_needs 16 = .ok (.iconst (-1), 1) := by decide +kernel
theorem dX8_needs_17 : decode cX8_needs 17 = .ok (.istore_n 2, 1) := by decide +kernel
theorem dX8_needs_18 : decode cX8_needs 18 = .ok (.sipush 501, 3) := by decide +kernel
theorem dX8_needs_21 : decode cX8_needs 21 = .ok (.istore_n 3, 1) := by decide +kernel
theorem dX8_needs_22 : decode cX8_needs 22 = .ok (.iconst 0, 1) := by decide +kernel
theorem dX8_needs_23 : decode cX8_needs 23 = .ok (.istore 4, 2) := by decide +kernel
theorem dX8_needs_25 : decode cX8_needs 25 = .ok (.iload 4, 2) := by decide +kernel
theorem dX8_needs_27 : decode cX8_needs 27 = .ok (.bipush 15, 2) := by decide +kernel
theorem dX8_needs_29 : decode cX8_needs 29 = .ok (.if_icmp .ge 56, 3) := by decide +kernel
theorem dX8_needs_32 : decode cX8_needs 32 = .ok (.iload_n 3, 1) := by decide +kernel
theorem dX8_needs_33 : decode cX8_needs 33 = .ok (.iload_n 2, 1) := by decide +kernel
theorem dX8_needs_34 : decode cX8_needs 34 = .ok (.isub, 1) := by decide +kernel
theorem dX8_needs_35 : decode cX8_needs 35 = .ok (.iconst 1, 1) := by decide +kernel
theorem dX8_needs_36 : decode cX8_needs 36 = .ok (.if_icmp .le 49, 3) := by decide +kernel
theorem dX8_needs_39 : decode cX8_needs 39 = .ok (.iload_n 2, 1) := by decide +kernel
theorem dX8_needs_40 : decode cX8_needs 40 = .ok (.iload_n 3, 1) := by decide +kernel
theorem dX8_needs_41 : decode cX8_needs 41 = .ok (.iadd, 1) := by decide +kernel
theorem dX8_needs_42 : decode cX8_needs 42 = .ok (.iconst 2, 1) := by decide +kernel
theorem dX8_needs_43 : decode cX8_needs 43 = .ok (.idiv, 1) := by decide +kernel
theorem dX8_needs_44 : decode cX8_needs 44 = .ok (.istore 5, 2) := by decide +kernel
theorem dX8_needs_46 : decode cX8_needs 46 = .ok (.aload_n 0, 1) := by decide +kernel
theorem dX8_needs_47 : decode cX8_needs 47 = .ok (.getfield 53, 3) := by decide +kernel
theorem dX8_needs_50 : decode cX8_needs 50 = .ok (.aload_n 0, 1) := by decide +kernel
theorem dX8_needs_51 : decode cX8_needs 51 = .ok (.getfield 12, 3) := by decide +kernel
theorem dX8_needs_54 : decode cX8_needs 54 = .ok (.iload 5, 2) := by decide +kernel
theorem dX8_needs_56 : decode cX8_needs 56 = .ok (.invokevirtual 263, 3) := by decide +kernel
theorem dX8_needs_59 : decode cX8_needs 59 = .ok (.aload_n 0, 1) := by decide +kernel
theorem dX8_needs_60 : decode cX8_needs 60 = .ok (.getfield 53, 3) := by decide +kernel
theorem dX8_needs_63 : decode cX8_needs 63 = .ok (.iload_n 1, 1) := by decide +kernel
theorem dX8_needs_64 : decode cX8_needs 64 = .ok (.invokevirtual 301, 3) := by decide +kernel
theorem dX8_needs_67 : decode cX8_needs 67 = .ok (.ifCond .eq 9, 3) := by decide +kernel
theorem dX8_needs_70 : decode cX8_needs 70 = .ok (.iload 5, 2) := by decide +kernel
theorem dX8_needs_72 : decode cX8_needs 72 = .ok (.istore_n 3, 1) := by decide +kernel
theorem dX8_needs_73 : decode cX8_needs 73 = .ok (.goto 6, 3) := by decide +kernel
theorem dX8_needs_76 : decode cX8_needs 76 = .ok (.iload 5, 2) := by decide +kernel
theorem dX8_needs_78 : decode cX8_needs 78 = .ok (.istore_n 2, 1) := by decide +kernel
theorem dX8_needs_79 : decode cX8_needs 79 = .ok (.iinc 4 1, 3) := by decide +kernel
theorem dX8_needs_82 : decode cX8_needs 82 = .ok (.goto (-57), 3) := by decide +kernel
theorem dX8_needs_85 : decode cX8_needs 85 = .ok (.iload_n 3, 1) := by decide +kernel
theorem dX8_needs_86 : decode cX8_needs 86 = .ok (.sipush 500, 3) := by decide +kernel
theorem dX8_needs_89 : decode cX8_needs 89 = .ok (.if_icmp .le 7, 3) := by decide +kernel
theorem dX8_needs_92 : decode cX8_needs 92 = .ok (.iconst (-1), 1) := by decide +kernel
theorem dX8_needs_93 : decode cX8_needs 93 = .ok (.goto 4, 3) := by decide +kernel
theorem dX8_needs_96 : decode cX8_needs 96 = .ok (.iload_n 3, 1) := by decide +kernel
theorem dX8_needs_97 : decode cX8_needs 97 = .ok (.ireturn, 1) := by decide +kernel
set_option maxHeartbeats 4000000 in
theorem st_X8_needs_79 {X : sj_X} {g : sj_G} {s0 : sj_Mem} {N : Nat} {q : Int × sj_VV} {k25 : Nat → Int → Int → Int → Int → sj_VV → Option (Int × sj_VV)} (hk25 : ∀ (a0 : Nat) (x1 : Int) (x2 : Int) (x3 : Int) (x4 : Int) (V : sj_VV), OK8 g a0 → k25 a0 x1 x2 x3 x4 V = some q → sj_T X m_X8_needs s0 (some (sj_i q.1), (g, q.2)) 25 [some (sj_r (some a0)), some (sj_i x1), some (sj_i x2), some (sj_i x3), some (sj_i x4), none] [] (g, V)) :
    ∀ (a0 : Nat) (x1 : Int) (x2 : Int) (x3 : Int) (x4 : Int) (V : sj_VV), OK8 g a0 → g_X8_needs_79 N k25 a0 x1 x2 x3 x4 V = some q → sj_T X m_X8_needs s0 (some (sj_i q.1), (g, q.2)) 79 [some (sj_r (some a0)), some (sj_i x1), some (sj_i x2), some (sj_i x3), some (sj_i x4), none] [] (g, V) := by
  intro a0 x1 x2 x3 x4 V ha0 h
  unfold g_X8_needs_79 at h
  refine r_iinc (ln := fun w => [some (sj_r (some a0)), some (sj_i x1), some (sj_i x2), some (sj_i x3), some (sj_i w), none]) (pc := 79) h dX8_needs_79 rfl (Nat.le_of_ble_eq_true rfl) (fun _ => rfl) (fun v1 h => ?_)
  refine r_goto (pc := 82) (tgt := 25) dX8_needs_82 (by decide) ?_
  exact sj_weak (l2 := [some (sj_r (some a0)), some (sj_i x1), some (sj_i x2), some (sj_i x3), some (sj_i v1), none]) (⟨rfl, ⟨rfl, ⟨rfl, ⟨rfl, ⟨rfl, trivial⟩⟩⟩⟩⟩) (hk25 a0 x1 x2 x3 v1 V ha0 h)
set_option maxHeartbeats 4000000 in
theorem st_X8_needs_85 {X : sj_X} {g : sj_G} {s0 : sj_Mem} {N : Nat} {q : Int × sj_VV} :
    ∀ (x3 : Int) (V : sj_VV), g_X8_needs_85 N x3 V = some q → sj_T X m_X8_needs s0 (some (sj_i q.1), (g, q.2)) 85 [none, none, none, some (sj_i x3), none, none] [] (g, V) := by
  intro x3 V  h
  unfold g_X8_needs_85 at h
  refine r_iload_n (pc := 85) dX8_needs_85 rfl rfl ?_
  refine r_sipush (pc := 86) dX8_needs_86 ⟨by decide, by decide⟩ ?_
  refine r_icmp_le (pc := 89) (tgt := 96) h dX8_needs_89 (by decide) (fun h => ?_) (fun h => ?_)
  · refine r_iload_n (pc := 96) dX8_needs_96 rfl rfl ?_
    exact r_irets (pc := 97) h rfl dX8_needs_97
  · refine r_iconst (pc := 92) dX8_needs_92 ?_
    refine r_goto (pc := 93) (tgt := 97) dX8_needs_93 (by decide) ?_
    exact r_irets (pc := 97) h rfl dX8_needs_97
set_option maxHeartbeats 4000000 in
theorem st_X8_needs_25_b {X : sj_X} {g : sj_G} {s0 : sj_Mem} {N : Nat} {q : Int × sj_VV} {k25 : Nat → Int → Int → Int → Int → sj_VV → Option (Int × sj_VV)} (hk25 : ∀ (a0 : Nat) (x1 : Int) (x2 : Int) (x3 : Int) (x4 : Int) (V : sj_VV), OK8 g a0 → k25 a0 x1 x2 x3 x4 V = some q → sj_T X m_X8_needs s0 (some (sj_i q.1), (g, q.2)) 25 [some (sj_r (some a0)), some (sj_i x1), some (sj_i x2), some (sj_i x3), some (sj_i x4), none] [] (g, V)) :
    ∀ (a0 : Nat) (x1 : Int) (x2 : Int) (x3 : Int) (x4 : Int) (V : sj_VV), OK8 g a0 → g_X8_needs_25_b N k25 a0 x1 x2 x3 x4 V = some q → sj_T X m_X8_needs s0 (some (sj_i q.1), (g, q.2)) 25 [some (sj_r (some a0)), some (sj_i x1), some (sj_i x2), some (sj_i x3), some (sj_i x4), none] [] (g, V) := by
  intro a0 x1 x2 x3 x4 V ha0 h
  unfold g_X8_needs_25_b at h
  refine r_iload (pc := 25) dX8_needs_25 rfl ?_
  refine r_bipush (pc := 27) dX8_needs_27 ⟨by decide, by decide⟩ ?_
  refine r_icmp_ge (pc := 29) (tgt := 85) h dX8_needs_29 (by decide) (fun h => ?_) (fun h => ?_)
  · exact sj_weak (l2 := [none, none, none, some (sj_i x3), none, none]) (⟨rfl, trivial⟩) (st_X8_needs_85 x3 V h)
  · refine r_iload_n (pc := 32) dX8_needs_32 rfl rfl ?_
    refine r_iload_n (pc := 33) dX8_needs_33 rfl rfl ?_
    refine r_isub (pc := 34) dX8_needs_34 ?_
    refine r_iconst (pc := 35) dX8_needs_35 ?_
    refine r_icmp_le (pc := 36) (tgt := 85) h dX8_needs_36 (by decide) (fun h => ?_) (fun h => ?_)
    · exact sj_weak (l2 := [none, none, none, some (sj_i x3), none, none]) (⟨rfl, trivial⟩) (st_X8_needs_85 x3 V h)
    · refine r_iload_n (pc := 39) dX8_needs_39 rfl rfl ?_
      refine r_iload_n (pc := 40) dX8_needs_40 rfl rfl ?_
      refine r_iadd (pc := 41) dX8_needs_41 ?_
      refine r_iconst (pc := 42) dX8_needs_42 ?_
      refine r_idiv (pc := 43) h dX8_needs_43 (fun v1 h => ?_)
      refine r_istore (ln := [some (sj_r (some a0)), some (sj_i x1), some (sj_i x2), some (sj_i x3), some (sj_i x4), some (sj_i v1)]) (pc := 44) dX8_needs_44 (Nat.le_of_ble_eq_true rfl) rfl ?_
      refine r_aload_n (pc := 46) dX8_needs_46 rfl rfl ?_
      refine r_gRs (b := a0 + 54) (pc := 47) dX8_needs_47 fw_X8_53 rfl (ok8 ha0) (ok8_8 ha0).1 ?_
      refine r_aload_n (pc := 50) dX8_needs_50 rfl rfl ?_
      refine r_gRs (b := a0 + 1) (pc := 51) dX8_needs_51 fw_X8_12 rfl (ok8 ha0) (ok8_0 ha0).1 ?_
      refine r_iload (pc := 54) dX8_needs_54 rfl ?_
      refine r_callVs (pc := 56) (fun _ => none) (As := [sj_r (some (a0 + 1)), sj_i v1]) (rest := []) (b := (a0 + 54)) (ok4 (ok8_8 ha0).2) h dX8_needs_56 mw_X8_263 vw_X4_settle (fun _ _ hc => cg_X4_settle (ok8_8 ha0).2 (ok8_0 ha0).2 hc) rfl ⟨(Nat.le_of_ble_eq_true rfl), (Nat.le_of_ble_eq_true rfl)⟩ (Nat.le_of_ble_eq_true rfl) rfl (fun _u V2 h => ?_)
      refine r_aload_n (pc := 59) dX8_needs_59 rfl rfl ?_
      refine r_gRs (b := a0 + 54) (pc := 60) dX8_needs_60 fw_X8_53 rfl (ok8 ha0) (ok8_8 ha0).1 ?_
      refine r_iload_n (pc := 63) dX8_needs_63 rfl rfl ?_
      refine r_callVs (pc := 64) (fun v => some (sj_i v)) (As := [sj_i x1]) (rest := []) (b := (a0 + 54)) (ok4 (ok8_8 ha0).2) h dX8_needs_64 mw_X8_301 vw_X4_hold (fun _ _ hc => cg_X4_hold (ok8_8 ha0).2 hc) rfl ⟨(Nat.le_of_ble_eq_true rfl), (Nat.le_of_ble_eq_true rfl)⟩ (Nat.le_of_ble_eq_true rfl) rfl (fun v4 V3 h => ?_)
      refine r_if_eq (pc := 67) (tgt := 76) h dX8_needs_67 (by decide) (fun h => ?_) (fun h => ?_)
      · refine r_iload (pc := 76) dX8_needs_76 rfl ?_
        refine r_istore_n (ln := [some (sj_r (some a0)), some (sj_i x1), some (sj_i v1), some (sj_i x3), some (sj_i x4), some (sj_i v1)]) (pc := 78) dX8_needs_78 rfl (Nat.le_of_ble_eq_true rfl) rfl ?_
        exact sj_weak (l2 := [some (sj_r (some a0)), some (sj_i x1), some (sj_i v1), some (sj_i x3), some (sj_i x4), none]) (⟨rfl, ⟨rfl, ⟨rfl, ⟨rfl, ⟨rfl, trivial⟩⟩⟩⟩⟩) (st_X8_needs_79 hk25 a0 x1 v1 x3 x4 V3 ha0 h)
      · refine r_iload (pc := 70) dX8_needs_70 rfl ?_
        refine r_istore_n (ln := [some (sj_r (some a0)), some (sj_i x1), some (sj_i x2), some (sj_i v1), some (sj_i x4), some (sj_i v1)]) (pc := 72) dX8_needs_72 rfl (Nat.le_of_ble_eq_true rfl) rfl ?_
        refine r_goto (pc := 73) (tgt := 79) dX8_needs_73 (by decide) ?_
        exact sj_weak (l2 := [some (sj_r (some a0)), some (sj_i x1), some (sj_i x2), some (sj_i v1), some (sj_i x4), none]) (⟨rfl, ⟨rfl, ⟨rfl, ⟨rfl, ⟨rfl, trivial⟩⟩⟩⟩⟩) (st_X8_needs_79 hk25 a0 x1 x2 v1 x4 V3 ha0 h)
set_option maxHeartbeats 4000000 in
theorem st_X8_needs_25 {X : sj_X} {g : sj_G} {s0 : sj_Mem} {N : Nat} {q : Int × sj_VV} :
    ∀ (n : Nat) (a0 : Nat) (x1 : Int) (x2 : Int) (x3 : Int) (x4 : Int) (V : sj_VV), OK8 g a0 → g_X8_needs_25 N n a0 x1 x2 x3 x4 V = some q → sj_T X m_X8_needs s0 (some (sj_i q.1), (g, q.2)) 25 [some (sj_r (some a0)), some (sj_i x1), some (sj_i x2), some (sj_i x3), some (sj_i x4), none] [] (g, V) := by
  intro n
  induction n with
  | zero => intro a0 x1 x2 x3 x4 V ha0 h; exact nomatch h
  | succ n ih => intro a0 x1 x2 x3 x4 V ha0 h; exact st_X8_needs_25_b (N := N) ih a0 x1 x2 x3 x4 V ha0 h
set_option maxHeartbeats 4000000 in
theorem st_X8_needs_0 {X : sj_X} {g : sj_G} {s0 : sj_Mem} {N : Nat} {q : Int × sj_VV} :
    ∀ (a0 : Nat) (x1 : Int) (V : sj_VV), OK8 g a0 → g_X8_needs N a0 x1 V = some q → sj_T X m_X8_needs s0 (some (sj_i q.1), (g, q.2)) 0 [some (sj_r (some a0)), some (sj_i x1), none, none, none, none] [] (g, V) := by
  intro a0 x1 V ha0 h
  unfold g_X8_needs at h
  refine r_iload_n (pc := 0) dX8_needs_0 rfl rfl ?_
  refine r_callSs (pc := 1) (fun v => some (sj_i v)) (As := [sj_i x1]) (rest := []) h dX8_needs_1 mw_X8_292 kw_879 (fun _ _ hc => cg_X8_isK  hc) rfl ⟨(Nat.le_of_ble_eq_true rfl), (Nat.le_of_ble_eq_true rfl)⟩ (Nat.le_of_ble_eq_true rfl) rfl (fun v2 V1 h => ?_)
  refine r_if_eq (pc := 4) (tgt := 14) h dX8_needs_4 (by decide) (fun h => ?_) (fun h => ?_)
  · refine r_iconst (pc := 14) dX8_needs_14 ?_
    exact r_irets (pc := 15) h rfl dX8_needs_15
  · refine r_aload_n (pc := 7) dX8_needs_7 rfl rfl ?_
    refine r_callVs (pc := 8) (fun v => some (sj_i v)) (As := []) (rest := []) (b := a0) (ok8 ha0) h dX8_needs_8 mw_X8_267 vw_X8_cutUp (fun _ _ hc => cg_X8_cutUp ha0 hc) rfl ⟨(Nat.le_of_ble_eq_true rfl), (Nat.le_of_ble_eq_true rfl)⟩ (Nat.le_of_ble_eq_true rfl) rfl (fun v4 V3 h => ?_)
    refine r_if_ne (pc := 11) (tgt := 16) h dX8_needs_11 (by decide) (fun h => ?_) (fun h => ?_)
    · refine r_iconst (pc := 14) dX8_needs_14 ?_
      exact r_irets (pc := 15) h rfl dX8_needs_15
    · refine r_iconst (pc := 16) dX8_needs_16 ?_
      refine r_istore_n (ln := [some (sj_r (some a0)), some (sj_i x1), some (sj_i ((-1))), none, none, none]) (pc := 17) dX8_needs_17 rfl (Nat.le_of_ble_eq_true rfl) rfl ?_
      refine r_sipush (pc := 18) dX8_needs_18 ⟨by decide, by decide⟩ ?_
      refine r_istore_n (ln := [some (sj_r (some a0)), some (sj_i x1), some (sj_i ((-1))), some (sj_i 501), none, none]) (pc := 21) dX8_needs_21 rfl (Nat.le_of_ble_eq_true rfl) rfl ?_
      refine r_iconst (pc := 22) dX8_needs_22 ?_
      refine r_istore (ln := [some (sj_r (some a0)), some (sj_i x1), some (sj_i ((-1))), some (sj_i 501), some (sj_i 0), none]) (pc := 23) dX8_needs_23 (Nat.le_of_ble_eq_true rfl) rfl ?_
      exact sj_weak (l2 := [some (sj_r (some a0)), some (sj_i x1), some (sj_i ((-1))), some (sj_i 501), some (sj_i 0), none]) (⟨rfl, ⟨rfl, ⟨rfl, ⟨rfl, ⟨rfl, trivial⟩⟩⟩⟩⟩) (st_X8_needs_25 N a0 x1 ((-1)) 501 0 V3 ha0 h)
set_option maxHeartbeats 4000000 in
theorem cg_X8_needs {X : sj_X} {g : sj_G} {N : Nat} {a0 : Nat} {x1 : Int} {V : sj_VV} {q : Int × sj_VV} (ha0 : OK8 g a0) (h : g_X8_needs N a0 x1 V = some q) : sj_C X m_X8_needs [sj_r (some a0), sj_i x1] (g, V) (some (sj_i q.1), (g, q.2)) :=
  sj_C_of (by decide +kernel) (Nat.le_of_ble_eq_true rfl) (lo := [some (sj_r (some a0)), some (sj_i x1), none, none, none, none]) rfl (sj_weak (l2 := [some (sj_r (some a0)), some (sj_i x1), none, none, none, none]) (⟨rfl, ⟨rfl, trivial⟩⟩) (st_X8_needs_0 a0 x1 V ha0 h))
set_option maxHeartbeats 4000000 in
theorem c_X8_needs {X : sj_X} {N : Nat} {a0 : Nat} {x1 : Int} {s : sj_Mem} {q : Int × sj_Mem} (h : f_X8_needs N a0 x1 s = some q) : sj_C X m_X8_needs [sj_r (some a0), sj_i x1] s (some (sj_i q.1), q.2) := by
  obtain ⟨g, V⟩ := s
  unfold f_X8_needs at h
  obtain ⟨ho, h1⟩ := e_ok_some h
  obtain ⟨q2, h2, rfl⟩ := sj_map_some h1
  exact cg_X8_needs ho h2
theorem dX8_pull_0 : decode cX8_pull 0 = .ok (.iload_n 1, 1) := by decide +kernel
theorem dX8_pull_1 : decode cX8_pull 1 = .ok (.invokestatic 292, 3) := by decide +kernel
theorem dX8_pull_4 : decode cX8_pull 4 = .ok (.ifCond .eq 10, 3) := by decide +kernel
theorem dX8_pull_7 : decode cX8_pull 7 = .ok (.aload_n 0, 1) := by decide +kernel
theorem dX8_pull_8 : decode cX8_pull 8 = .ok (.invokevirtual 267, 3) := by decide +kernel
theorem dX8_pull_11 : decode cX8_pull 11 = .ok (.ifCond .ne 5, 3) := by decide +kernel
theorem dX8_pull_14 : decode cX8_pull 14 = .ok (.iconst (-1), 1) := by decide +kernel
theorem dX8_pull_15 : decode cX8_pull 15 = .ok (.ireturn, 1) := by decide +kernel
theorem dX8_pull_16 : decode cX8_pull 16 = .ok (.aload_n 0, 1) := by decide +kernel
theorem dX8_pull_17 : decode cX8_pull 17 = .ok (.getfield 53, 3) := by decide +kernel
theorem dX8_pull_20 : decode cX8_pull 20 = .ok (.iload_n 1, 1) := by decide +kernel
theorem dX8_pull_21 : decode cX8_pull 21 = .ok (.invokevirtual 329, 3) := by decide +kernel
theorem dX8_pull_24 : decode cX8_pull 24 = .ok (.lstore_n 2, 1) := by decide +kernel
theorem dX8_pull_25 : decode cX8_pull 25 = .ok (.lload_n 2, 1) := by decide +kernel
theorem dX8_pull_26 : decode cX8_pull 26 = .ok (.lconst 0, 1) := by decide +kernel
theorem dX8_pull_27 : decode cX8_pull 27 = .ok (.lcmp, 1) := by decide +kernel
theorem dX8_pull_28 : decode cX8_pull 28 = .ok (.ifCond .gt 5, 3) := by decide +kernel
theorem dX8_pull_31 : decode cX8_pull 31 = .ok (.iconst 0, 1) := by decide +kernel
theorem dX8_pull_32 : decode cX8_pull 32 = .ok (.ireturn, 1) := by decide +kernel
theorem dX8_pull_33 : decode cX8_pull 33 = .ok (.ldc2_w 333, 3) := by decide +kernel
theorem dX8_pull_36 : decode cX8_pull 36 = .ok (.aload_n 0, 1) := by decide +kernel
theorem dX8_pull_37 : decode cX8_pull 37 = .ok (.getfield 12, 3) := by decide +kernel
theorem dX8_pull_40 : decode cX8_pull 40 = .ok (.getfield 235, 3) := by decide +kernel
theorem dX8_pull_43 : decode cX8_pull 43 = .ok (.i2l, 1) := by decide +kernel
theorem dX8_pull_44 : decode cX8_pull 44 = .ok (.lmul, 1) := by decide +kernel
theorem dX8_pull_45 : decode cX8_pull 45 = .ok (.iload_n 1, 1) := by decide +kernel
theorem dX8_pull_46 : decode cX8_pull 46 = .ok (.i2l, 1) := by decide +kernel
theorem dX8_pull_47 : decode cX8_pull 47 = .ok (.lmul, 1) := by decide +kernel
theorem dX8_pull_48 : decode cX8_pull 48 = .ok (.lstore 4, 2) := by decide +kernel
theorem dX8_pull_50 : decode cX8_pull 50 = .ok (.lload 4, 2) := by decide +kernel
theorem dX8_pull_52 : decode cX8_pull 52 = .ok (.lconst 0, 1) := by decide +kernel
theorem dX8_pull_53 : decode cX8_pull 53 = .ok (.lcmp, 1) := by decide +kernel
theorem dX8_pull_54 : decode cX8_pull 54 = .ok (.ifCond .gt 5, 3) := by decide +kernel
theorem dX8_pull_57 : decode cX8_pull 57 = .ok (.iconst (-1), 1) := by decide +kernel
theorem dX8_pull_58 : decode cX8_pull 58 = .ok (.ireturn, 1) := by decide +kernel
theorem dX8_pull_59 : decode cX8_pull 59 = .ok (.lload_n 2, 1) := by decide +kernel
theorem dX8_pull_60 : decode cX8_pull 60 = .ok (.lload 4, 2) := by decide +kernel
theorem dX8_pull_62 : decode cX8_pull 62 = .ok (.ladd, 1) := by decide +kernel
theorem dX8_pull_63 : decode cX8_pull 63 = .ok (.lconst 1, 1) := by decide +kernel
theorem dX8_pull_64 : decode cX8_pull 64 = .ok (.lsub, 1) := by decide +kernel
theorem dX8_pull_65 : decode cX8_pull 65 = .ok (.lload 4, 2) := by decide +kernel
theorem dX8_pull_67 : decode cX8_pull 67 = .ok (.ldiv, 1) := by decide +kernel
theorem dX8_pull_68 : decode cX8_pull 68 = .ok (.lstore 6, 2) := by decide +kernel
theorem dX8_pull_70 : decode cX8_pull 70 = .ok (.lload 6, 2) := by decide +kernel
theorem dX8_pull_72 : decode cX8_pull 72 = .ok (.ldc2_w 335, 3) := by decide +kernel
theorem dX8_pull_75 : decode cX8_pull 75 = .ok (.lcmp, 1) := by decide +kernel
theorem dX8_pull_76 : decode cX8_pull 76 = .ok (.ifCond .le 7, 3) := by decide +kernel
theorem dX8_pull_79 : decode cX8_pull 79 = .ok (.iconst (-1), 1) := by decide +kernel
theorem dX8_pull_80 : decode cX8_pull 80 = .ok (.goto 6, 3) := by decide +kernel
theorem dX8_pull_83 : decode cX8_pull 83 = .ok (.lload 6, 2) := by decide +kernel
theorem dX8_pull_85 : decode cX8_pull 85 = .ok (.l2i, 1) := by decide +kernel
theorem dX8_pull_86 : decode cX8_pull 86 = .ok (.ireturn, 1) := by decide +kernel
set_option maxHeartbeats 4000000 in
theorem st_X8_pull_0 {X : sj_X} {g : sj_G} {s0 : sj_Mem} {N : Nat} {q : Int × sj_VV} :
    ∀ (a0 : Nat) (x1 : Int) (V : sj_VV), OK8 g a0 → g_X8_pull N a0 x1 V = some q → sj_T X m_X8_pull s0 (some (sj_i q.1), (g, q.2)) 0 [some (sj_r (some a0)), some (sj_i x1), none, none, none, none, none, none] [] (g, V) := by
  intro a0 x1 V ha0 h
  unfold g_X8_pull at h
  refine r_iload_n (pc := 0) dX8_pull_0 rfl rfl ?_
  refine r_callSs (pc := 1) (fun v => some (sj_i v)) (As := [sj_i x1]) (rest := []) h dX8_pull_1 mw_X8_292 kw_879 (fun _ _ hc => cg_X8_isK  hc) rfl ⟨(Nat.le_of_ble_eq_true rfl), (Nat.le_of_ble_eq_true rfl)⟩ (Nat.le_of_ble_eq_true rfl) rfl (fun v2 V1 h => ?_)
  refine r_if_eq (pc := 4) (tgt := 14) h dX8_pull_4 (by decide) (fun h => ?_) (fun h => ?_)
  · refine r_iconst (pc := 14) dX8_pull_14 ?_
    exact r_irets (pc := 15) h rfl dX8_pull_15
  · refine r_aload_n (pc := 7) dX8_pull_7 rfl rfl ?_
    refine r_callVs (pc := 8) (fun v => some (sj_i v)) (As := []) (rest := []) (b := a0) (ok8 ha0) h dX8_pull_8 mw_X8_267 vw_X8_cutUp (fun _ _ hc => cg_X8_cutUp ha0 hc) rfl ⟨(Nat.le_of_ble_eq_true rfl), (Nat.le_of_ble_eq_true rfl)⟩ (Nat.le_of_ble_eq_true rfl) rfl (fun v4 V3 h => ?_)
    refine r_if_ne (pc := 11) (tgt := 16) h dX8_pull_11 (by decide) (fun h => ?_) (fun h => ?_)
    · refine r_iconst (pc := 14) dX8_pull_14 ?_
      exact r_irets (pc := 15) h rfl dX8_pull_15
    · refine r_aload_n (pc := 16) dX8_pull_16 rfl rfl ?_
      refine r_gRs (b := a0 + 54) (pc := 17) dX8_pull_17 fw_X8_53 rfl (ok8 ha0) (ok8_8 ha0).1 ?_
      refine r_iload_n (pc := 20) dX8_pull_20 rfl rfl ?_
      refine r_callVs (pc := 21) (fun v => some (sj_j v)) (As := [sj_i x1]) (rest := []) (b := (a0 + 54)) (ok4 (ok8_8 ha0).2) h dX8_pull_21 mw_X8_329 vw_X4_lack (fun _ _ hc => cg_X4_lack (ok8_8 ha0).2 hc) rfl ⟨(Nat.le_of_ble_eq_true rfl), (Nat.le_of_ble_eq_true rfl)⟩ (Nat.le_of_ble_eq_true rfl) rfl (fun v6 V5 h => ?_)
      refine r_lstore_n (ln := [some (sj_r (some a0)), some (sj_i x1), some (sj_j v6), none, none, none, none, none]) (pc := 24) dX8_pull_24 rfl (Nat.le_of_ble_eq_true rfl) rfl ?_
      refine r_lload_n (pc := 25) dX8_pull_25 rfl rfl ?_
      refine r_lconst0 (pc := 26) dX8_pull_26 ?_
      refine r_lgt (pc := 27) (tgt := 33) h dX8_pull_27 rfl dX8_pull_28 (by decide) (fun h => ?_) (fun h => ?_)
      · refine r_ldc2 (n := 2000) (pc := 33) dX8_pull_33 kc_X8_333 ?_
        refine r_aload_n (pc := 36) dX8_pull_36 rfl rfl ?_
        refine r_gRs (b := a0 + 1) (pc := 37) dX8_pull_37 fw_X8_12 rfl (ok8 ha0) (ok8_0 ha0).1 ?_
        refine r_gIs (pc := 40) dX8_pull_40 fw_X8_235 rfl (ok0 (ok8_0 ha0).2) ?_
        refine r_i2l (pc := 43) h dX8_pull_43 (fun v7 h => ?_)
        refine r_lmul (pc := 44) dX8_pull_44 ?_
        refine r_iload_n (pc := 45) dX8_pull_45 rfl rfl ?_
        refine r_i2l (pc := 46) h dX8_pull_46 (fun v8 h => ?_)
        refine r_lmul (pc := 47) dX8_pull_47 ?_
        refine r_lstoreL (ln := fun w => [some (sj_r (some a0)), some (sj_i x1), some (sj_j v6), none, some (sj_j w), none, none, none]) (pc := 48) h dX8_pull_48 (Nat.le_of_ble_eq_true rfl) (fun _ => rfl) (fun v9 h => ?_)
        refine r_lload (pc := 50) dX8_pull_50 rfl ?_
        refine r_lconst0 (pc := 52) dX8_pull_52 ?_
        refine r_lgt (pc := 53) (tgt := 59) h dX8_pull_53 rfl dX8_pull_54 (by decide) (fun h => ?_) (fun h => ?_)
        · refine r_lload_n (pc := 59) dX8_pull_59 rfl rfl ?_
          refine r_lload (pc := 60) dX8_pull_60 rfl ?_
          refine r_ladd (pc := 62) dX8_pull_62 ?_
          refine r_lconst1 (pc := 63) dX8_pull_63 ?_
          refine r_lsub (pc := 64) dX8_pull_64 ?_
          refine r_lload (pc := 65) dX8_pull_65 rfl ?_
          refine r_ldiv (pc := 67) h dX8_pull_67 (fun v10 h => ?_)
          refine r_lstore (ln := [some (sj_r (some a0)), some (sj_i x1), some (sj_j v6), none, some (sj_j v9), none, some (sj_j v10), none]) (pc := 68) dX8_pull_68 (Nat.le_of_ble_eq_true rfl) rfl ?_
          refine r_lload (pc := 70) dX8_pull_70 rfl ?_
          refine r_ldc2 (n := 20000) (pc := 72) dX8_pull_72 kc_X8_335 ?_
          refine r_lle (pc := 75) (tgt := 83) h dX8_pull_75 rfl dX8_pull_76 (by decide) (fun h => ?_) (fun h => ?_)
          · refine r_lload (pc := 83) dX8_pull_83 rfl ?_
            refine r_l2i (pc := 85) dX8_pull_85 ?_
            exact r_irets (pc := 86) h rfl dX8_pull_86
          · refine r_iconst (pc := 79) dX8_pull_79 ?_
            refine r_goto (pc := 80) (tgt := 86) dX8_pull_80 (by decide) ?_
            exact r_irets (pc := 86) h rfl dX8_pull_86
        · refine r_iconst (pc := 57) dX8_pull_57 ?_
          exact r_irets (pc := 58) h rfl dX8_pull_58
      · refine r_iconst (pc := 31) dX8_pull_31 ?_
        exact r_irets (pc := 32) h rfl dX8_pull_32
set_option maxHeartbeats 4000000 in
theorem cg_X8_pull {X : sj_X} {g : sj_G} {N : Nat} {a0 : Nat} {x1 : Int} {V : sj_VV} {q : Int × sj_VV} (ha0 : OK8 g a0) (h : g_X8_pull N a0 x1 V = some q) : sj_C X m_X8_pull [sj_r (some a0), sj_i x1] (g, V) (some (sj_i q.1), (g, q.2)) :=
  sj_C_of (by decide +kernel) (Nat.le_of_ble_eq_true rfl) (lo := [some (sj_r (some a0)), some (sj_i x1), none, none, none, none, none, none]) rfl (sj_weak (l2 := [some (sj_r (some a0)), some (sj_i x1), none, none, none, none, none, none]) (⟨rfl, ⟨rfl, trivial⟩⟩) (st_X8_pull_0 a0 x1 V ha0 h))
set_option maxHeartbeats 4000000 in
theorem c_X8_pull {X : sj_X} {N : Nat} {a0 : Nat} {x1 : Int} {s : sj_Mem} {q : Int × sj_Mem} (h : f_X8_pull N a0 x1 s = some q) : sj_C X m_X8_pull [sj_r (some a0), sj_i x1] s (some (sj_i q.1), q.2) := by
  obtain ⟨g, V⟩ := s
  unfold f_X8_pull at h
  obtain ⟨ho, h1⟩ := e_ok_some h
  obtain ⟨q2, h2, rfl⟩ := sj_map_some h1
  exact cg_X8_pull ho h2
theorem dX8_berm_0 : decode cX8_berm 0 = .ok (.iload_n 3, 1) := by decide +kernel
theorem dX8_berm_1 : decode cX8_berm 1 = .ok (.invokestatic 292, 3) := by decide +kernel
theorem dX8_berm_4 : decode cX8_berm 4 = .ok (.ifCond .eq 37, 3) := by decide +kernel
theorem dX8_berm_7 : decode cX8_berm 7 = .ok (.aload_n 0, 1) := by decide +kernel
theorem dX8_berm_8 : decode cX8_berm 8 = .ok (.getfield 12, 3) := by decide +kernel
theorem dX8_berm_11 : decode cX8_berm 11 = .ok (.iload_n 1, 1) := by decide +kernel
theorem dX8_berm_12 : decode cX8_berm 12 = .ok (.invokevirtual 78, 3) := by decide +kernel
theorem dX8_berm_15 : decode cX8_berm 15 = .ok (.ifCond .eq 26, 3) := by decide +kernel
theorem dX8_berm_18 : decode cX8_berm 18 = .ok (.aload_n 0, 1) := by decide +kernel
theorem dX8_berm_19 : decode cX8_berm 19 = .ok (.getfield 12, 3) := by decide +kernel
theorem dX8_berm_22 : decode cX8_berm 22 = .ok (.iload_n 2, 1) := by decide +kernel
theorem dX8_berm_23 : decode cX8_berm 23 = .ok (.invokevirtual 78, 3) := by decide +kernel
theorem dX8_berm_26 : decode cX8_berm 26 = .ok (.ifCond .eq 15, 3) := by decide +kernel
theorem dX8_berm_29 : decode cX8_berm 29 = .ok (.iload_n 1, 1) := by decide +kernel
theorem dX8_berm_30 : decode cX8_berm 30 = .ok (.iload_n 2, 1) := by decide +kernel
theorem dX8_berm_31 : decode cX8_berm 31 = .ok (.if_icmp .gt 10, 3) := by decide +kernel
theorem dX8_berm_34 : decode cX8_berm 34 = .ok (.aload_n 0, 1) := by decide +kernel
theorem dX8_berm_35 : decode cX8_berm 35 = .ok (.invokevirtual 267, 3) := by decide +kernel
theorem dX8_berm_38 : decode cX8_berm 38 = .ok (.ifCond .ne 5, 3) := by decide +kernel
theorem dX8_berm_41 : decode cX8_berm 41 = .ok (.iconst (-1), 1) := by decide +kernel
theorem dX8_berm_42 : decode cX8_berm 42 = .ok (.ireturn, 1) := by decide +kernel
theorem dX8_berm_43 : decode cX8_berm 43 = .ok (.iconst 0, 1) := by decide +kernel
theorem dX8_berm_44 : decode cX8_berm 44 = .ok (.istore 4, 2) := by decide +kernel
theorem dX8_berm_46 : decode cX8_berm 46 = .ok (.iload 4, 2) := by decide +kernel
theorem dX8_berm_48 : decode cX8_berm 48 = .ok (.sipush 500, 3) := by decide +kernel
theorem dX8_berm_51 : decode cX8_berm 51 = .ok (.if_icmp .gt 54, 3) := by decide +kernel
theorem dX8_berm_54 : decode cX8_berm 54 = .ok (.aload_n 0, 1) := by decide +kernel
theorem dX8_berm_55 : decode cX8_berm 55 = .ok (.getfield 53, 3) := by decide +kernel
theorem dX8_berm_58 : decode cX8_berm 58 = .ok (.iload_n 3, 1) := by decide +kernel
theorem dX8_berm_59 : decode cX8_berm 59 = .ok (.invokevirtual 301, 3) := by decide +kernel
theorem dX8_berm_62 : decode cX8_berm 62 = .ok (.ifCond .eq 6, 3) := by decide +kernel
theorem dX8_berm_65 : decode cX8_berm 65 = .ok (.iload 4, 2) := by decide +kernel
theorem dX8_berm_67 : decode cX8_berm 67 = .ok (.ireturn, 1) := by decide +kernel
theorem dX8_berm_68 : decode cX8_berm 68 = .ok (.aload_n 0, 1) := by decide +kernel
theorem dX8_berm_69 : decode cX8_berm 69 = .ok (.getfield 53, 3) := by decide +kernel
theorem dX8_berm_72 : decode cX8_berm 72 = .ok (.aload_n 0, 1) := by decide +kernel
theorem dX8_berm_73 : decode cX8_berm 73 = .ok (.getfield 12, 3) := by decide +kernel
theorem dX8_berm_76 : decode cX8_berm 76 = .ok (.getfield 106, 3) := by decide +kernel
theorem dX8_berm_79 : decode cX8_berm 79 = .ok (.getfield 241, 3) := by decide +kernel
theorem dX8_berm_82 : decode cX8_berm 82 = .ok (.iload_n 1, 1) := by decide +kernel
theorem dX8_berm_83 : decode cX8_berm 83 = .ok (.iload_n 2, 1) := by decide +kernel
theorem dX8_berm_84 : decode cX8_berm 84 = .ok (.invokevirtual 337, 3) := by decide +kernel
theorem dX8_berm_87 : decode cX8_berm 87 = .ok (.aload_n 0, 1) := by decide +kernel
theorem dX8_berm_88 : decode cX8_berm 88 = .ok (.getfield 53, 3) := by decide +kernel
theorem dX8_berm_91 : decode cX8_berm 91 = .ok (.aload_n 0, 1) := by decide +kernel
theorem dX8_berm_92 : decode cX8_berm 92 = .ok (.getfield 12, 3) := by decide +kernel
theorem dX8_berm_95 : decode cX8_berm 95 = .ok (.iconst 0, 1) := by decide +kernel
theorem dX8_berm_96 : decode cX8_berm 96 = .ok (.invokevirtual 263, 3) := by decide +kernel
theorem dX8_berm_99 : decode cX8_berm 99 = .ok (.iinc 4 1, 3) := by decide +kernel
theorem dX8_berm_102 : decode cX8_berm 102 = .ok (.goto (-56), 3) := by decide +kernel
theorem dX8_berm_105 : decode cX8_berm 105 = .ok (.iconst (-1), 1) := by decide +kernel
theorem dX8_berm_106 : decode cX8_berm 106 = .ok (.ireturn, 1) := by decide +kernel
set_option maxHeartbeats 4000000 in
theorem st_X8_berm_46_b {X : sj_X} {g : sj_G} {s0 : sj_Mem} {N : Nat} {q : Int × sj_VV} {k46 : Nat → Int → Int → Int → Int → sj_VV → Option (Int × sj_VV)} (hk46 : ∀ (a0 : Nat) (x1 : Int) (x2 : Int) (x3 : Int) (x4 : Int) (V : sj_VV), OK8 g a0 → k46 a0 x1 x2 x3 x4 V = some q → sj_T X m_X8_berm s0 (some (sj_i q.1), (g, q.2)) 46 [some (sj_r (some a0)), some (sj_i x1), some (sj_i x2), some (sj_i x3), some (sj_i x4)] [] (g, V)) :
    ∀ (a0 : Nat) (x1 : Int) (x2 : Int) (x3 : Int) (x4 : Int) (V : sj_VV), OK8 g a0 → g_X8_berm_46_b N k46 a0 x1 x2 x3 x4 V = some q → sj_T X m_X8_berm s0 (some (sj_i q.1), (g, q.2)) 46 [some (sj_r (some a0)), some (sj_i x1), some (sj_i x2), some (sj_i x3), some (sj_i x4)] [] (g, V) := by
  intro a0 x1 x2 x3 x4 V ha0 h
  unfold g_X8_berm_46_b at h
  refine r_iload (pc := 46) dX8_berm_46 rfl ?_
  refine r_sipush (pc := 48) dX8_berm_48 ⟨by decide, by decide⟩ ?_
  refine r_icmp_gt (pc := 51) (tgt := 105) h dX8_berm_51 (by decide) (fun h => ?_) (fun h => ?_)
  · refine r_iconst (pc := 105) dX8_berm_105 ?_
    exact r_irets (pc := 106) h rfl dX8_berm_106
  · refine r_aload_n (pc := 54) dX8_berm_54 rfl rfl ?_
    refine r_gRs (b := a0 + 54) (pc := 55) dX8_berm_55 fw_X8_53 rfl (ok8 ha0) (ok8_8 ha0).1 ?_
    refine r_iload_n (pc := 58) dX8_berm_58 rfl rfl ?_
    refine r_callVs (pc := 59) (fun v => some (sj_i v)) (As := [sj_i x3]) (rest := []) (b := (a0 + 54)) (ok4 (ok8_8 ha0).2) h dX8_berm_59 mw_X8_301 vw_X4_hold (fun _ _ hc => cg_X4_hold (ok8_8 ha0).2 hc) rfl ⟨(Nat.le_of_ble_eq_true rfl), (Nat.le_of_ble_eq_true rfl)⟩ (Nat.le_of_ble_eq_true rfl) rfl (fun v2 V1 h => ?_)
    refine r_if_eq (pc := 62) (tgt := 68) h dX8_berm_62 (by decide) (fun h => ?_) (fun h => ?_)
    · refine r_aload_n (pc := 68) dX8_berm_68 rfl rfl ?_
      refine r_gRs (b := a0 + 54) (pc := 69) dX8_berm_69 fw_X8_53 rfl (ok8 ha0) (ok8_8 ha0).1 ?_
      refine r_aload_n (pc := 72) dX8_berm_72 rfl rfl ?_
      refine r_gRs (b := a0 + 1) (pc := 73) dX8_berm_73 fw_X8_12 rfl (ok8 ha0) (ok8_0 ha0).1 ?_
      refine r_gRs (b := (a0 + 1) + 12) (pc := 76) dX8_berm_76 fw_X8_106 rfl (ok0 (ok8_0 ha0).2) (ok0_14 (ok8_0 ha0).2).1 ?_
      refine r_gIs (pc := 79) dX8_berm_79 fw_X8_241 rfl (ok5 (ok0_14 (ok8_0 ha0).2).2) ?_
      refine r_iload_n (pc := 82) dX8_berm_82 rfl rfl ?_
      refine r_iload_n (pc := 83) dX8_berm_83 rfl rfl ?_
      refine r_callVs (pc := 84) (fun _ => none) (As := [sj_i (V1 ((a0 + 1) + 12) 1), sj_i x1, sj_i x2]) (rest := []) (b := (a0 + 54)) (ok4 (ok8_8 ha0).2) h dX8_berm_84 mw_X8_337 vw_X4_burden (fun _ _ hc => cg_X4_burden (ok8_8 ha0).2 hc) rfl ⟨(Nat.le_of_ble_eq_true rfl), (Nat.le_of_ble_eq_true rfl)⟩ (Nat.le_of_ble_eq_true rfl) rfl (fun _u V3 h => ?_)
      refine r_aload_n (pc := 87) dX8_berm_87 rfl rfl ?_
      refine r_gRs (b := a0 + 54) (pc := 88) dX8_berm_88 fw_X8_53 rfl (ok8 ha0) (ok8_8 ha0).1 ?_
      refine r_aload_n (pc := 91) dX8_berm_91 rfl rfl ?_
      refine r_gRs (b := a0 + 1) (pc := 92) dX8_berm_92 fw_X8_12 rfl (ok8 ha0) (ok8_0 ha0).1 ?_
      refine r_iconst (pc := 95) dX8_berm_95 ?_
      refine r_callVs (pc := 96) (fun _ => none) (As := [sj_r (some (a0 + 1)), sj_i 0]) (rest := []) (b := (a0 + 54)) (ok4 (ok8_8 ha0).2) h dX8_berm_96 mw_X8_263 vw_X4_settle (fun _ _ hc => cg_X4_settle (ok8_8 ha0).2 (ok8_0 ha0).2 hc) rfl ⟨(Nat.le_of_ble_eq_true rfl), (Nat.le_of_ble_eq_true rfl)⟩ (Nat.le_of_ble_eq_true rfl) rfl (fun _u V4 h => ?_)
      refine r_iinc (ln := fun w => [some (sj_r (some a0)), some (sj_i x1), some (sj_i x2), some (sj_i x3), some (sj_i w)]) (pc := 99) h dX8_berm_99 rfl (Nat.le_of_ble_eq_true rfl) (fun _ => rfl) (fun v5 h => ?_)
      refine r_goto (pc := 102) (tgt := 46) dX8_berm_102 (by decide) ?_
      exact sj_weak (l2 := [some (sj_r (some a0)), some (sj_i x1), some (sj_i x2), some (sj_i x3), some (sj_i v5)]) (⟨rfl, ⟨rfl, ⟨rfl, ⟨rfl, ⟨rfl, trivial⟩⟩⟩⟩⟩) (hk46 a0 x1 x2 x3 v5 V4 ha0 h)
    · refine r_iload (pc := 65) dX8_berm_65 rfl ?_
      exact r_irets (pc := 67) h rfl dX8_berm_67
set_option maxHeartbeats 4000000 in
theorem st_X8_berm_46 {X : sj_X} {g : sj_G} {s0 : sj_Mem} {N : Nat} {q : Int × sj_VV} :
    ∀ (n : Nat) (a0 : Nat) (x1 : Int) (x2 : Int) (x3 : Int) (x4 : Int) (V : sj_VV), OK8 g a0 → g_X8_berm_46 N n a0 x1 x2 x3 x4 V = some q → sj_T X m_X8_berm s0 (some (sj_i q.1), (g, q.2)) 46 [some (sj_r (some a0)), some (sj_i x1), some (sj_i x2), some (sj_i x3), some (sj_i x4)] [] (g, V) := by
  intro n
  induction n with
  | zero => intro a0 x1 x2 x3 x4 V ha0 h; exact nomatch h
  | succ n ih => intro a0 x1 x2 x3 x4 V ha0 h; exact st_X8_berm_46_b (N := N) ih a0 x1 x2 x3 x4 V ha0 h
set_option maxHeartbeats 4000000 in
theorem st_X8_berm_0 {X : sj_X} {g : sj_G} {s0 : sj_Mem} {N : Nat} {q : Int × sj_VV} :
    ∀ (a0 : Nat) (x1 : Int) (x2 : Int) (x3 : Int) (V : sj_VV), OK8 g a0 → g_X8_berm N a0 x1 x2 x3 V = some q → sj_T X m_X8_berm s0 (some (sj_i q.1), (g, q.2)) 0 [some (sj_r (some a0)), some (sj_i x1), some (sj_i x2), some (sj_i x3), none] [] (g, V) := by
  intro a0 x1 x2 x3 V ha0 h
  unfold g_X8_berm at h
  refine r_iload_n (pc := 0) dX8_berm_0 rfl rfl ?_
  refine r_callSs (pc := 1) (fun v => some (sj_i v)) (As := [sj_i x3]) (rest := []) h dX8_berm_1 mw_X8_292 kw_879 (fun _ _ hc => cg_X8_isK  hc) rfl ⟨(Nat.le_of_ble_eq_true rfl), (Nat.le_of_ble_eq_true rfl)⟩ (Nat.le_of_ble_eq_true rfl) rfl (fun v2 V1 h => ?_)
  refine r_if_eq (pc := 4) (tgt := 41) h dX8_berm_4 (by decide) (fun h => ?_) (fun h => ?_)
  · refine r_iconst (pc := 41) dX8_berm_41 ?_
    exact r_irets (pc := 42) h rfl dX8_berm_42
  · refine r_aload_n (pc := 7) dX8_berm_7 rfl rfl ?_
    refine r_gRs (b := a0 + 1) (pc := 8) dX8_berm_8 fw_X8_12 rfl (ok8 ha0) (ok8_0 ha0).1 ?_
    refine r_iload_n (pc := 11) dX8_berm_11 rfl rfl ?_
    refine r_callVs (pc := 12) (fun v => some (sj_i v)) (As := [sj_i x1]) (rest := []) (b := (a0 + 1)) (ok0 (ok8_0 ha0).2) h dX8_berm_12 mw_X8_78 vw_X0_hasColumn (fun _ _ hc => cg_X0_hasColumn (ok8_0 ha0).2 hc) rfl ⟨(Nat.le_of_ble_eq_true rfl), (Nat.le_of_ble_eq_true rfl)⟩ (Nat.le_of_ble_eq_true rfl) rfl (fun v4 V3 h => ?_)
    refine r_if_eq (pc := 15) (tgt := 41) h dX8_berm_15 (by decide) (fun h => ?_) (fun h => ?_)
    · refine r_iconst (pc := 41) dX8_berm_41 ?_
      exact r_irets (pc := 42) h rfl dX8_berm_42
    · refine r_aload_n (pc := 18) dX8_berm_18 rfl rfl ?_
      refine r_gRs (b := a0 + 1) (pc := 19) dX8_berm_19 fw_X8_12 rfl (ok8 ha0) (ok8_0 ha0).1 ?_
      refine r_iload_n (pc := 22) dX8_berm_22 rfl rfl ?_
      refine r_callVs (pc := 23) (fun v => some (sj_i v)) (As := [sj_i x2]) (rest := []) (b := (a0 + 1)) (ok0 (ok8_0 ha0).2) h dX8_berm_23 mw_X8_78 vw_X0_hasColumn (fun _ _ hc => cg_X0_hasColumn (ok8_0 ha0).2 hc) rfl ⟨(Nat.le_of_ble_eq_true rfl), (Nat.le_of_ble_eq_true rfl)⟩ (Nat.le_of_ble_eq_true rfl) rfl (fun v6 V5 h => ?_)
      refine r_if_eq (pc := 26) (tgt := 41) h dX8_berm_26 (by decide) (fun h => ?_) (fun h => ?_)
      · refine r_iconst (pc := 41) dX8_berm_41 ?_
        exact r_irets (pc := 42) h rfl dX8_berm_42
      · refine r_iload_n (pc := 29) dX8_berm_29 rfl rfl ?_
        refine r_iload_n (pc := 30) dX8_berm_30 rfl rfl ?_
        refine r_icmp_gt (pc := 31) (tgt := 41) h dX8_berm_31 (by decide) (fun h => ?_) (fun h => ?_)
        · refine r_iconst (pc := 41) dX8_berm_41 ?_
          exact r_irets (pc := 42) h rfl dX8_berm_42
        · refine r_aload_n (pc := 34) dX8_berm_34 rfl rfl ?_
          refine r_callVs (pc := 35) (fun v => some (sj_i v)) (As := []) (rest := []) (b := a0) (ok8 ha0) h dX8_berm_35 mw_X8_267 vw_X8_cutUp (fun _ _ hc => cg_X8_cutUp ha0 hc) rfl ⟨(Nat.le_of_ble_eq_true rfl), (Nat.le_of_ble_eq_true rfl)⟩ (Nat.le_of_ble_eq_true rfl) rfl (fun v8 V7 h => ?_)
          refine r_if_ne (pc := 38) (tgt := 43) h dX8_berm_38 (by decide) (fun h => ?_) (fun h => ?_)
          · refine r_iconst (pc := 41) dX8_berm_41 ?_
            exact r_irets (pc := 42) h rfl dX8_berm_42
          · refine r_iconst (pc := 43) dX8_berm_43 ?_
            refine r_istore (ln := [some (sj_r (some a0)), some (sj_i x1), some (sj_i x2), some (sj_i x3), some (sj_i 0)]) (pc := 44) dX8_berm_44 (Nat.le_of_ble_eq_true rfl) rfl ?_
            exact sj_weak (l2 := [some (sj_r (some a0)), some (sj_i x1), some (sj_i x2), some (sj_i x3), some (sj_i 0)]) (⟨rfl, ⟨rfl, ⟨rfl, ⟨rfl, ⟨rfl, trivial⟩⟩⟩⟩⟩) (st_X8_berm_46 N a0 x1 x2 x3 0 V7 ha0 h)
set_option maxHeartbeats 4000000 in
theorem cg_X8_berm {X : sj_X} {g : sj_G} {N : Nat} {a0 : Nat} {x1 : Int} {x2 : Int} {x3 : Int} {V : sj_VV} {q : Int × sj_VV} (ha0 : OK8 g a0) (h : g_X8_berm N a0 x1 x2 x3 V = some q) : sj_C X m_X8_berm [sj_r (some a0), sj_i x1, sj_i x2, sj_i x3] (g, V) (some (sj_i q.1), (g, q.2)) :=
  sj_C_of (by decide +kernel) (Nat.le_of_ble_eq_true rfl) (lo := [some (sj_r (some a0)), some (sj_i x1), some (sj_i x2), some (sj_i x3), none]) rfl (sj_weak (l2 := [some (sj_r (some a0)), some (sj_i x1), some (sj_i x2), some (sj_i x3), none]) (⟨rfl, ⟨rfl, ⟨rfl, ⟨rfl, trivial⟩⟩⟩⟩) (st_X8_berm_0 a0 x1 x2 x3 V ha0 h))
set_option maxHeartbeats 4000000 in
theorem c_X8_berm {X : sj_X} {N : Nat} {a0 : Nat} {x1 : Int} {x2 : Int} {x3 : Int} {s : sj_Mem} {q : Int × sj_Mem} (h : f_X8_berm N a0 x1 x2 x3 s = some q) : sj_C X m_X8_berm [sj_r (some a0), sj_i x1, sj_i x2, sj_i x3] s (some (sj_i q.1), q.2) := by
  obtain ⟨g, V⟩ := s
  unfold f_X8_berm at h
  obtain ⟨ho, h1⟩ := e_ok_some h
  obtain ⟨q2, h2, rfl⟩ := sj_map_some h1
  exact cg_X8_berm ho h2
theorem dX8_shape_0 : decode cX8_shape 0 = .ok (.aload_n 0, 1) := by decide +kernel
theorem dX8_shape_1 : decode cX8_shape 1 = .ok (.invokevirtual 267, 3) := by decide +kernel
theorem dX8_shape_4 : decode cX8_shape 4 = .ok (.ifCond .ne 5, 3) := by decide +kernel
theorem dX8_shape_7 : decode cX8_shape 7 = .ok (.iconst (-1), 1) := by decide +kernel
theorem dX8_shape_8 : decode cX8_shape 8 = .ok (.ireturn, 1) := by decide +kernel
theorem dX8_shape_9 : decode cX8_shape 9 = .ok (.iload_n 1, 1) := by decide +kernel
theorem dX8_shape_10 : decode cX8_shape 10 = .ok (.tableswitch 96 0 5 #[38, 46, 61, 69, 80, 88], 38) := by decide +kernel
theorem dX8_shape_48 : decode cX8_shape 48 = .ok (.aload_n 0, 1) := by decide +kernel
theorem dX8_shape_49 : decode cX8_shape 49 = .ok (.getfield 12, 3) := by decide +kernel
theorem dX8_shape_52 : decode cX8_shape 52 = .ok (.invokevirtual 341, 3) := by decide +kernel
theorem dX8_shape_55 : decode cX8_shape 55 = .ok (.ireturn, 1) := by decide +kernel
theorem dX8_shape_56 : decode cX8_shape 56 = .ok (.aload_n 0, 1) := by decide +kernel
theorem dX8_shape_57 : decode cX8_shape 57 = .ok (.getfield 12, 3) := by decide +kernel
theorem dX8_shape_60 : decode cX8_shape 60 = .ok (.aload_n 0, 1) := by decide +kernel
theorem dX8_shape_61 : decode cX8_shape 61 = .ok (.getfield 12, 3) := by decide +kernel
theorem dX8_shape_64 : decode cX8_shape 64 = .ok (.invokevirtual 344, 3) := by decide +kernel
theorem dX8_shape_67 : decode cX8_shape 67 = .ok (.invokevirtual 347, 3) := by decide +kernel
theorem dX8_shape_70 : decode cX8_shape 70 = .ok (.ireturn, 1) := by decide +kernel
theorem dX8_shape_71 : decode cX8_shape 71 = .ok (.aload_n 0, 1) := by decide +kernel
theorem dX8_shape_72 : decode cX8_shape 72 = .ok (.getfield 12, 3) := by decide +kernel
theorem dX8_shape_75 : decode cX8_shape 75 = .ok (.invokevirtual 344, 3) := by decide +kernel
theorem dX8_shape_78 : decode cX8_shape 78 = .ok (.ireturn, 1) := by decide +kernel
theorem dX8_shape_79 : decode cX8_shape 79 = .ok (.aload_n 0, 1) := by decide +kernel
theorem dX8_shape_80 : decode cX8_shape 80 = .ok (.getfield 12, 3) := by decide +kernel
theorem dX8_shape_83 : decode cX8_shape 83 = .ok (.getfield 106, 3) := by decide +kernel
theorem dX8_shape_86 : decode cX8_shape 86 = .ok (.invokevirtual 350, 3) := by decide +kernel
theorem dX8_shape_89 : decode cX8_shape 89 = .ok (.ireturn, 1) := by decide +kernel
theorem dX8_shape_90 : decode cX8_shape 90 = .ok (.aload_n 0, 1) := by decide +kernel
theorem dX8_shape_91 : decode cX8_shape 91 = .ok (.getfield 53, 3) := by decide +kernel
theorem dX8_shape_94 : decode cX8_shape 94 = .ok (.invokevirtual 353, 3) := by decide +kernel
theorem dX8_shape_97 : decode cX8_shape 97 = .ok (.ireturn, 1) := by decide +kernel
theorem dX8_shape_98 : decode cX8_shape 98 = .ok (.aload_n 0, 1) := by decide +kernel
theorem dX8_shape_99 : decode cX8_shape 99 = .ok (.getfield 53, 3) := by decide +kernel
theorem dX8_shape_102 : decode cX8_shape 102 = .ok (.invokevirtual 356, 3) := by decide +kernel
theorem dX8_shape_105 : decode cX8_shape 105 = .ok (.ireturn, 1) := by decide +kernel
theorem dX8_shape_106 : decode cX8_shape 106 = .ok (.iconst (-1), 1) := by decide +kernel
theorem dX8_shape_107 : decode cX8_shape 107 = .ok (.ireturn, 1) := by decide +kernel
set_option maxHeartbeats 4000000 in
theorem st_X8_shape_0 {X : sj_X} {g : sj_G} {s0 : sj_Mem} {N : Nat} {q : Int × sj_VV} :
    ∀ (a0 : Nat) (x1 : Int) (V : sj_VV), OK8 g a0 → g_X8_shape N a0 x1 V = some q → sj_T X m_X8_shape s0 (some (sj_i q.1), (g, q.2)) 0 [some (sj_r (some a0)), some (sj_i x1)] [] (g, V) := by
  intro a0 x1 V ha0 h
  unfold g_X8_shape at h
  refine r_aload_n (pc := 0) dX8_shape_0 rfl rfl ?_
  refine r_callVs (pc := 1) (fun v => some (sj_i v)) (As := []) (rest := []) (b := a0) (ok8 ha0) h dX8_shape_1 mw_X8_267 vw_X8_cutUp (fun _ _ hc => cg_X8_cutUp ha0 hc) rfl ⟨(Nat.le_of_ble_eq_true rfl), (Nat.le_of_ble_eq_true rfl)⟩ (Nat.le_of_ble_eq_true rfl) rfl (fun v2 V1 h => ?_)
  refine r_if_ne (pc := 4) (tgt := 9) h dX8_shape_4 (by decide) (fun h => ?_) (fun h => ?_)
  · refine r_iconst (pc := 7) dX8_shape_7 ?_
    exact r_irets (pc := 8) h rfl dX8_shape_8
  · refine r_iload_n (pc := 9) dX8_shape_9 rfl rfl ?_
    obtain ⟨hr, h⟩ := e_sw_some h
    refine sj_if h (fun c0 h => ?_) (fun c0 h => ?_)
    · refine r_tcase (pc := 10) (tgt := 48) (j := 0) hr c0 dX8_shape_10 (by decide) (by decide) rfl (by decide) ?_
      refine r_aload_n (pc := 48) dX8_shape_48 rfl rfl ?_
      refine r_gRs (b := a0 + 1) (pc := 49) dX8_shape_49 fw_X8_12 rfl (ok8 ha0) (ok8_0 ha0).1 ?_
      refine r_callVs (pc := 52) (fun v => some (sj_i v)) (As := []) (rest := []) (b := (a0 + 1)) (ok0 (ok8_0 ha0).2) h dX8_shape_52 mw_X8_341 vw_X0_slipArea (fun _ _ hc => cg_X0_slipArea (ok8_0 ha0).2 hc) rfl ⟨(Nat.le_of_ble_eq_true rfl), (Nat.le_of_ble_eq_true rfl)⟩ (Nat.le_of_ble_eq_true rfl) rfl (fun v4 V3 h => ?_)
      exact r_irets (pc := 55) h rfl dX8_shape_55
    refine sj_if h (fun c1 h => ?_) (fun c1 h => ?_)
    · refine r_tcase (pc := 10) (tgt := 56) (j := 1) hr c1 dX8_shape_10 (by decide) (by decide) rfl (by decide) ?_
      refine r_aload_n (pc := 56) dX8_shape_56 rfl rfl ?_
      refine r_gRs (b := a0 + 1) (pc := 57) dX8_shape_57 fw_X8_12 rfl (ok8 ha0) (ok8_0 ha0).1 ?_
      refine r_aload_n (pc := 60) dX8_shape_60 rfl rfl ?_
      refine r_gRs (b := a0 + 1) (pc := 61) dX8_shape_61 fw_X8_12 rfl (ok8 ha0) (ok8_0 ha0).1 ?_
      refine r_callVs (pc := 64) (fun v => some (sj_i v)) (As := []) (rest := [(sj_r (some (a0 + 1)))]) (b := (a0 + 1)) (ok0 (ok8_0 ha0).2) h dX8_shape_64 mw_X8_344 vw_X0_thickest (fun _ _ hc => cg_X0_thickest (ok8_0 ha0).2 hc) rfl ⟨(Nat.le_of_ble_eq_true rfl), (Nat.le_of_ble_eq_true rfl)⟩ (Nat.le_of_ble_eq_true rfl) rfl (fun v6 V5 h => ?_)
      refine r_callVs (pc := 67) (fun v => some (sj_i v)) (As := [sj_i v6]) (rest := []) (b := (a0 + 1)) (ok0 (ok8_0 ha0).2) h dX8_shape_67 mw_X8_347 vw_X0_thickAt (fun _ _ hc => cg_X0_thickAt (ok8_0 ha0).2 hc) rfl ⟨(Nat.le_of_ble_eq_true rfl), (Nat.le_of_ble_eq_true rfl)⟩ (Nat.le_of_ble_eq_true rfl) rfl (fun v8 V7 h => ?_)
      exact r_irets (pc := 70) h rfl dX8_shape_70
    refine sj_if h (fun c2 h => ?_) (fun c2 h => ?_)
    · refine r_tcase (pc := 10) (tgt := 71) (j := 2) hr c2 dX8_shape_10 (by decide) (by decide) rfl (by decide) ?_
      refine r_aload_n (pc := 71) dX8_shape_71 rfl rfl ?_
      refine r_gRs (b := a0 + 1) (pc := 72) dX8_shape_72 fw_X8_12 rfl (ok8 ha0) (ok8_0 ha0).1 ?_
      refine r_callVs (pc := 75) (fun v => some (sj_i v)) (As := []) (rest := []) (b := (a0 + 1)) (ok0 (ok8_0 ha0).2) h dX8_shape_75 mw_X8_344 vw_X0_thickest (fun _ _ hc => cg_X0_thickest (ok8_0 ha0).2 hc) rfl ⟨(Nat.le_of_ble_eq_true rfl), (Nat.le_of_ble_eq_true rfl)⟩ (Nat.le_of_ble_eq_true rfl) rfl (fun v10 V9 h => ?_)
      exact r_irets (pc := 78) h rfl dX8_shape_78
    refine sj_if h (fun c3 h => ?_) (fun c3 h => ?_)
    · refine r_tcase (pc := 10) (tgt := 79) (j := 3) hr c3 dX8_shape_10 (by decide) (by decide) rfl (by decide) ?_
      refine r_aload_n (pc := 79) dX8_shape_79 rfl rfl ?_
      refine r_gRs (b := a0 + 1) (pc := 80) dX8_shape_80 fw_X8_12 rfl (ok8 ha0) (ok8_0 ha0).1 ?_
      refine r_gRs (b := (a0 + 1) + 12) (pc := 83) dX8_shape_83 fw_X8_106 rfl (ok0 (ok8_0 ha0).2) (ok0_14 (ok8_0 ha0).2).1 ?_
      refine r_callVs (pc := 86) (fun v => some (sj_i v)) (As := []) (rest := []) (b := ((a0 + 1) + 12)) (ok5 (ok0_14 (ok8_0 ha0).2).2) h dX8_shape_86 mw_X8_350 vw_X5_leastBase (fun _ _ hc => cg_X5_leastBase (ok0_14 (ok8_0 ha0).2).2 hc) rfl ⟨(Nat.le_of_ble_eq_true rfl), (Nat.le_of_ble_eq_true rfl)⟩ (Nat.le_of_ble_eq_true rfl) rfl (fun v12 V11 h => ?_)
      exact r_irets (pc := 89) h rfl dX8_shape_89
    refine sj_if h (fun c4 h => ?_) (fun c4 h => ?_)
    · refine r_tcase (pc := 10) (tgt := 90) (j := 4) hr c4 dX8_shape_10 (by decide) (by decide) rfl (by decide) ?_
      refine r_aload_n (pc := 90) dX8_shape_90 rfl rfl ?_
      refine r_gRs (b := a0 + 54) (pc := 91) dX8_shape_91 fw_X8_53 rfl (ok8 ha0) (ok8_8 ha0).1 ?_
      refine r_callVs (pc := 94) (fun v => some (sj_i v)) (As := []) (rest := []) (b := (a0 + 54)) (ok4 (ok8_8 ha0).2) h dX8_shape_94 mw_X8_353 vw_X4_countFalling (fun _ _ hc => cg_X4_countFalling (ok8_8 ha0).2 hc) rfl ⟨(Nat.le_of_ble_eq_true rfl), (Nat.le_of_ble_eq_true rfl)⟩ (Nat.le_of_ble_eq_true rfl) rfl (fun v14 V13 h => ?_)
      exact r_irets (pc := 97) h rfl dX8_shape_97
    refine sj_if h (fun c5 h => ?_) (fun c5 h => ?_)
    · refine r_tcase (pc := 10) (tgt := 98) (j := 5) hr c5 dX8_shape_10 (by decide) (by decide) rfl (by decide) ?_
      refine r_aload_n (pc := 98) dX8_shape_98 rfl rfl ?_
      refine r_gRs (b := a0 + 54) (pc := 99) dX8_shape_99 fw_X8_53 rfl (ok8 ha0) (ok8_8 ha0).1 ?_
      refine r_callVs (pc := 102) (fun v => some (sj_i v)) (As := []) (rest := []) (b := (a0 + 54)) (ok4 (ok8_8 ha0).2) h dX8_shape_102 mw_X8_356 vw_X4_countAfloat (fun _ _ hc => cg_X4_countAfloat (ok8_8 ha0).2 hc) rfl ⟨(Nat.le_of_ble_eq_true rfl), (Nat.le_of_ble_eq_true rfl)⟩ (Nat.le_of_ble_eq_true rfl) rfl (fun v16 V15 h => ?_)
      exact r_irets (pc := 105) h rfl dX8_shape_105
    refine r_tdflt (pc := 10) (tgt := 106) hr dX8_shape_10 (by omega) (by decide) ?_
    refine r_iconst (pc := 106) dX8_shape_106 ?_
    exact r_irets (pc := 107) h rfl dX8_shape_107
set_option maxHeartbeats 4000000 in
theorem cg_X8_shape {X : sj_X} {g : sj_G} {N : Nat} {a0 : Nat} {x1 : Int} {V : sj_VV} {q : Int × sj_VV} (ha0 : OK8 g a0) (h : g_X8_shape N a0 x1 V = some q) : sj_C X m_X8_shape [sj_r (some a0), sj_i x1] (g, V) (some (sj_i q.1), (g, q.2)) :=
  sj_C_of (by decide +kernel) (Nat.le_of_ble_eq_true rfl) (lo := [some (sj_r (some a0)), some (sj_i x1)]) rfl (sj_weak (l2 := [some (sj_r (some a0)), some (sj_i x1)]) (⟨rfl, ⟨rfl, trivial⟩⟩) (st_X8_shape_0 a0 x1 V ha0 h))
set_option maxHeartbeats 4000000 in
theorem c_X8_shape {X : sj_X} {N : Nat} {a0 : Nat} {x1 : Int} {s : sj_Mem} {q : Int × sj_Mem} (h : f_X8_shape N a0 x1 s = some q) : sj_C X m_X8_shape [sj_r (some a0), sj_i x1] s (some (sj_i q.1), q.2) := by
  obtain ⟨g, V⟩ := s
  unfold f_X8_shape at h
  obtain ⟨ho, h1⟩ := e_ok_some h
  obtain ⟨q2, h2, rfl⟩ := sj_map_some h1
  exact cg_X8_shape ho h2
theorem dX8_thrust_0 : decode cX8_thrust 0 = .ok (.iload_n 1, 1) := by decide +kernel
theorem dX8_thrust_1 : decode cX8_thrust 1 = .ok (.ifCond .lt 31, 3) := by decide +kernel
theorem dX8_thrust_4 : decode cX8_thrust 4 = .ok (.iload_n 1, 1) := by decide +kernel
theorem dX8_thrust_5 : decode cX8_thrust 5 = .ok (.aload_n 0, 1) := by decide +kernel
theorem dX8_thrust_6 : decode cX8_thrust 6 = .ok (.getfield 12, 3) := by decide +kernel
theorem dX8_thrust_9 : decode cX8_thrust 9 = .ok (.getfield 106, 3) := by decide +kernel
theorem dX8_thrust_12 : decode cX8_thrust 12 = .ok (.invokevirtual 199, 3) := by decide +kernel
theorem dX8_thrust_15 : decode cX8_thrust 15 = .ok (.if_icmp .ge 17, 3) := by decide +kernel
theorem dX8_thrust_18 : decode cX8_thrust 18 = .ok (.iload_n 2, 1) := by decide +kernel
theorem dX8_thrust_19 : decode cX8_thrust 19 = .ok (.invokestatic 292, 3) := by decide +kernel
theorem dX8_thrust_22 : decode cX8_thrust 22 = .ok (.ifCond .eq 10, 3) := by decide +kernel
theorem dX8_thrust_25 : decode cX8_thrust 25 = .ok (.aload_n 0, 1) := by decide +kernel
theorem dX8_thrust_26 : decode cX8_thrust 26 = .ok (.invokevirtual 267, 3) := by decide +kernel
theorem dX8_thrust_29 : decode cX8_thrust 29 = .ok (.ifCond .ne 7, 3) := by decide +kernel
theorem dX8_thrust_32 : decode cX8_thrust 32 = .ok (.ldc2_w 359, 3) := by decide +kernel
theorem dX8_thrust_35 : decode cX8_thrust 35 = .ok (.lreturn, 1) := by decide +kernel
theorem dX8_thrust_36 : decode cX8_thrust 36 = .ok (.lconst 0, 1) := by decide +kernel
theorem dX8_thrust_37 : decode cX8_thrust 37 = .ok (.lstore_n 3, 1) := by decide +kernel
theorem dX8_thrust_38 : decode cX8_thrust 38 = .ok (.iconst 0, 1) := by decide +kernel
theorem dX8_thrust_39 : decode cX8_thrust 39 = .ok (.istore 5, 2) := by decide +kernel
theorem dX8_thrust_41 : decode cX8_thrust 41 = .ok (.iload 5, 2) := by decide +kernel
theorem dX8_thrust_43 : decode cX8_thrust 43 = .ok (.iload_n 1, 1) := by decide +kernel
theorem dX8_thrust_44 : decode cX8_thrust 44 = .ok (.if_icmp .gt 39, 3) := by decide +kernel
theorem dX8_thrust_47 : decode cX8_thrust 47 = .ok (.aload_n 0, 1) := by decide +kernel
theorem dX8_thrust_48 : decode cX8_thrust 48 = .ok (.getfield 53, 3) := by decide +kernel
theorem dX8_thrust_51 : decode cX8_thrust 51 = .ok (.iload 5, 2) := by decide +kernel
theorem dX8_thrust_53 : decode cX8_thrust 53 = .ok (.iload_n 2, 1) := by decide +kernel
theorem dX8_thrust_54 : decode cX8_thrust 54 = .ok (.invokevirtual 361, 3) := by decide +kernel
theorem dX8_thrust_57 : decode cX8_thrust 57 = .ok (.ifCond .eq 7, 3) := by decide +kernel
theorem dX8_thrust_60 : decode cX8_thrust 60 = .ok (.ldc2_w 359, 3) := by decide +kernel
theorem dX8_thrust_63 : decode cX8_thrust 63 = .ok (.lreturn, 1) := by decide +kernel
theorem dX8_thrust_64 : decode cX8_thrust 64 = .ok (.lload_n 3, 1) := by decide +kernel
theorem dX8_thrust_65 : decode cX8_thrust 65 = .ok (.aload_n 0, 1) := by decide +kernel
theorem dX8_thrust_66 : decode cX8_thrust 66 = .ok (.getfield 53, 3) := by decide +kernel
theorem dX8_thrust_69 : decode cX8_thrust 69 = .ok (.iload 5, 2) := by decide +kernel
theorem dX8_thrust_71 : decode cX8_thrust 71 = .ok (.iload_n 2, 1) := by decide +kernel
theorem dX8_thrust_72 : decode cX8_thrust 72 = .ok (.invokevirtual 364, 3) := by decide +kernel
theorem dX8_thrust_75 : decode cX8_thrust 75 = .ok (.ladd, 1) := by decide +kernel
theorem dX8_thrust_76 : decode cX8_thrust 76 = .ok (.lstore_n 3, 1) := by decide +kernel
theorem dX8_thrust_77 : decode cX8_thrust 77 = .ok (.iinc 5 1, 3) := by decide +kernel
theorem dX8_thrust_80 : decode cX8_thrust 80 = .ok (.goto (-39), 3) := by decide +kernel
theorem dX8_thrust_83 : decode cX8_thrust 83 = .ok (.lload_n 3, 1) := by decide +kernel
theorem dX8_thrust_84 : decode cX8_thrust 84 = .ok (.lreturn, 1) := by decide +kernel
set_option maxHeartbeats 4000000 in
theorem st_X8_thrust_41_b {X : sj_X} {g : sj_G} {s0 : sj_Mem} {N : Nat} {q : Int × sj_VV} {k41 : Nat → Int → Int → Int → Int → sj_VV → Option (Int × sj_VV)} (hk41 : ∀ (a0 : Nat) (x1 : Int) (x2 : Int) (x3 : Int) (x5 : Int) (V : sj_VV), OK8 g a0 → k41 a0 x1 x2 x3 x5 V = some q → sj_T X m_X8_thrust s0 (some (sj_j q.1), (g, q.2)) 41 [some (sj_r (some a0)), some (sj_i x1), some (sj_i x2), some (sj_j x3), none, some (sj_i x5)] [] (g, V)) :
    ∀ (a0 : Nat) (x1 : Int) (x2 : Int) (x3 : Int) (x5 : Int) (V : sj_VV), OK8 g a0 → g_X8_thrust_41_b N k41 a0 x1 x2 x3 x5 V = some q → sj_T X m_X8_thrust s0 (some (sj_j q.1), (g, q.2)) 41 [some (sj_r (some a0)), some (sj_i x1), some (sj_i x2), some (sj_j x3), none, some (sj_i x5)] [] (g, V) := by
  intro a0 x1 x2 x3 x5 V ha0 h
  unfold g_X8_thrust_41_b at h
  refine r_iload (pc := 41) dX8_thrust_41 rfl ?_
  refine r_iload_n (pc := 43) dX8_thrust_43 rfl rfl ?_
  refine r_icmp_gt (pc := 44) (tgt := 83) h dX8_thrust_44 (by decide) (fun h => ?_) (fun h => ?_)
  · refine r_lload_n (pc := 83) dX8_thrust_83 rfl rfl ?_
    exact r_lrets (pc := 84) h rfl dX8_thrust_84
  · refine r_aload_n (pc := 47) dX8_thrust_47 rfl rfl ?_
    refine r_gRs (b := a0 + 54) (pc := 48) dX8_thrust_48 fw_X8_53 rfl (ok8 ha0) (ok8_8 ha0).1 ?_
    refine r_iload (pc := 51) dX8_thrust_51 rfl ?_
    refine r_iload_n (pc := 53) dX8_thrust_53 rfl rfl ?_
    refine r_callVs (pc := 54) (fun v => some (sj_i v)) (As := [sj_i x5, sj_i x2]) (rest := []) (b := (a0 + 54)) (ok4 (ok8_8 ha0).2) h dX8_thrust_54 mw_X8_361 vw_X4_isFast (fun _ _ hc => cg_X4_isFast (ok8_8 ha0).2 hc) rfl ⟨(Nat.le_of_ble_eq_true rfl), (Nat.le_of_ble_eq_true rfl)⟩ (Nat.le_of_ble_eq_true rfl) rfl (fun v2 V1 h => ?_)
    refine r_if_eq (pc := 57) (tgt := 64) h dX8_thrust_57 (by decide) (fun h => ?_) (fun h => ?_)
    · refine r_lload_n (pc := 64) dX8_thrust_64 rfl rfl ?_
      refine r_aload_n (pc := 65) dX8_thrust_65 rfl rfl ?_
      refine r_gRs (b := a0 + 54) (pc := 66) dX8_thrust_66 fw_X8_53 rfl (ok8 ha0) (ok8_8 ha0).1 ?_
      refine r_iload (pc := 69) dX8_thrust_69 rfl ?_
      refine r_iload_n (pc := 71) dX8_thrust_71 rfl rfl ?_
      refine r_callVs (pc := 72) (fun v => some (sj_j v)) (As := [sj_i x5, sj_i x2]) (rest := [(sj_j x3)]) (b := (a0 + 54)) (ok4 (ok8_8 ha0).2) h dX8_thrust_72 mw_X8_364 vw_X4_thrustOf (fun _ _ hc => cg_X4_thrustOf (ok8_8 ha0).2 hc) rfl ⟨(Nat.le_of_ble_eq_true rfl), (Nat.le_of_ble_eq_true rfl)⟩ (Nat.le_of_ble_eq_true rfl) rfl (fun v4 V3 h => ?_)
      refine r_ladd (pc := 75) dX8_thrust_75 ?_
      refine r_lstore_nL (ln := fun w => [some (sj_r (some a0)), some (sj_i x1), some (sj_i x2), some (sj_j w), none, some (sj_i x5)]) (pc := 76) h dX8_thrust_76 rfl (Nat.le_of_ble_eq_true rfl) (fun _ => rfl) (fun v5 h => ?_)
      refine r_iinc (ln := fun w => [some (sj_r (some a0)), some (sj_i x1), some (sj_i x2), some (sj_j v5), none, some (sj_i w)]) (pc := 77) h dX8_thrust_77 rfl (Nat.le_of_ble_eq_true rfl) (fun _ => rfl) (fun v6 h => ?_)
      refine r_goto (pc := 80) (tgt := 41) dX8_thrust_80 (by decide) ?_
      exact sj_weak (l2 := [some (sj_r (some a0)), some (sj_i x1), some (sj_i x2), some (sj_j v5), none, some (sj_i v6)]) (⟨rfl, ⟨rfl, ⟨rfl, ⟨rfl, ⟨rfl, trivial⟩⟩⟩⟩⟩) (hk41 a0 x1 x2 v5 v6 V3 ha0 h)
    · refine r_ldc2 (n := -10000000000000000) (pc := 60) dX8_thrust_60 kc_X8_359 ?_
      exact r_lrets (pc := 63) h rfl dX8_thrust_63
set_option maxHeartbeats 4000000 in
theorem st_X8_thrust_41 {X : sj_X} {g : sj_G} {s0 : sj_Mem} {N : Nat} {q : Int × sj_VV} :
    ∀ (n : Nat) (a0 : Nat) (x1 : Int) (x2 : Int) (x3 : Int) (x5 : Int) (V : sj_VV), OK8 g a0 → g_X8_thrust_41 N n a0 x1 x2 x3 x5 V = some q → sj_T X m_X8_thrust s0 (some (sj_j q.1), (g, q.2)) 41 [some (sj_r (some a0)), some (sj_i x1), some (sj_i x2), some (sj_j x3), none, some (sj_i x5)] [] (g, V) := by
  intro n
  induction n with
  | zero => intro a0 x1 x2 x3 x5 V ha0 h; exact nomatch h
  | succ n ih => intro a0 x1 x2 x3 x5 V ha0 h; exact st_X8_thrust_41_b (N := N) ih a0 x1 x2 x3 x5 V ha0 h
set_option maxHeartbeats 4000000 in
theorem st_X8_thrust_0 {X : sj_X} {g : sj_G} {s0 : sj_Mem} {N : Nat} {q : Int × sj_VV} :
    ∀ (a0 : Nat) (x1 : Int) (x2 : Int) (V : sj_VV), OK8 g a0 → g_X8_thrust N a0 x1 x2 V = some q → sj_T X m_X8_thrust s0 (some (sj_j q.1), (g, q.2)) 0 [some (sj_r (some a0)), some (sj_i x1), some (sj_i x2), none, none, none] [] (g, V) := by
  intro a0 x1 x2 V ha0 h
  unfold g_X8_thrust at h
  refine r_iload_n (pc := 0) dX8_thrust_0 rfl rfl ?_
  refine r_if_lt (pc := 1) (tgt := 32) h dX8_thrust_1 (by decide) (fun h => ?_) (fun h => ?_)
  · refine r_ldc2 (n := -10000000000000000) (pc := 32) dX8_thrust_32 kc_X8_359 ?_
    exact r_lrets (pc := 35) h rfl dX8_thrust_35
  · refine r_iload_n (pc := 4) dX8_thrust_4 rfl rfl ?_
    refine r_aload_n (pc := 5) dX8_thrust_5 rfl rfl ?_
    refine r_gRs (b := a0 + 1) (pc := 6) dX8_thrust_6 fw_X8_12 rfl (ok8 ha0) (ok8_0 ha0).1 ?_
    refine r_gRs (b := (a0 + 1) + 12) (pc := 9) dX8_thrust_9 fw_X8_106 rfl (ok0 (ok8_0 ha0).2) (ok0_14 (ok8_0 ha0).2).1 ?_
    refine r_callVs (pc := 12) (fun v => some (sj_i v)) (As := []) (rest := [(sj_i x1)]) (b := ((a0 + 1) + 12)) (ok5 (ok0_14 (ok8_0 ha0).2).2) h dX8_thrust_12 mw_X8_199 vw_X5_count (fun _ _ hc => cg_X5_count (ok0_14 (ok8_0 ha0).2).2 hc) rfl ⟨(Nat.le_of_ble_eq_true rfl), (Nat.le_of_ble_eq_true rfl)⟩ (Nat.le_of_ble_eq_true rfl) rfl (fun v2 V1 h => ?_)
    refine r_icmp_ge (pc := 15) (tgt := 32) h dX8_thrust_15 (by decide) (fun h => ?_) (fun h => ?_)
    · refine r_ldc2 (n := -10000000000000000) (pc := 32) dX8_thrust_32 kc_X8_359 ?_
      exact r_lrets (pc := 35) h rfl dX8_thrust_35
    · refine r_iload_n (pc := 18) dX8_thrust_18 rfl rfl ?_
      refine r_callSs (pc := 19) (fun v => some (sj_i v)) (As := [sj_i x2]) (rest := []) h dX8_thrust_19 mw_X8_292 kw_879 (fun _ _ hc => cg_X8_isK  hc) rfl ⟨(Nat.le_of_ble_eq_true rfl), (Nat.le_of_ble_eq_true rfl)⟩ (Nat.le_of_ble_eq_true rfl) rfl (fun v4 V3 h => ?_)
      refine r_if_eq (pc := 22) (tgt := 32) h dX8_thrust_22 (by decide) (fun h => ?_) (fun h => ?_)
      · refine r_ldc2 (n := -10000000000000000) (pc := 32) dX8_thrust_32 kc_X8_359 ?_
        exact r_lrets (pc := 35) h rfl dX8_thrust_35
      · refine r_aload_n (pc := 25) dX8_thrust_25 rfl rfl ?_
        refine r_callVs (pc := 26) (fun v => some (sj_i v)) (As := []) (rest := []) (b := a0) (ok8 ha0) h dX8_thrust_26 mw_X8_267 vw_X8_cutUp (fun _ _ hc => cg_X8_cutUp ha0 hc) rfl ⟨(Nat.le_of_ble_eq_true rfl), (Nat.le_of_ble_eq_true rfl)⟩ (Nat.le_of_ble_eq_true rfl) rfl (fun v6 V5 h => ?_)
        refine r_if_ne (pc := 29) (tgt := 36) h dX8_thrust_29 (by decide) (fun h => ?_) (fun h => ?_)
        · refine r_ldc2 (n := -10000000000000000) (pc := 32) dX8_thrust_32 kc_X8_359 ?_
          exact r_lrets (pc := 35) h rfl dX8_thrust_35
        · refine r_lconst0 (pc := 36) dX8_thrust_36 ?_
          refine r_lstore_n (ln := [some (sj_r (some a0)), some (sj_i x1), some (sj_i x2), some (sj_j 0), none, none]) (pc := 37) dX8_thrust_37 rfl (Nat.le_of_ble_eq_true rfl) rfl ?_
          refine r_iconst (pc := 38) dX8_thrust_38 ?_
          refine r_istore (ln := [some (sj_r (some a0)), some (sj_i x1), some (sj_i x2), some (sj_j 0), none, some (sj_i 0)]) (pc := 39) dX8_thrust_39 (Nat.le_of_ble_eq_true rfl) rfl ?_
          exact sj_weak (l2 := [some (sj_r (some a0)), some (sj_i x1), some (sj_i x2), some (sj_j 0), none, some (sj_i 0)]) (⟨rfl, ⟨rfl, ⟨rfl, ⟨rfl, ⟨rfl, trivial⟩⟩⟩⟩⟩) (st_X8_thrust_41 N a0 x1 x2 0 0 V5 ha0 h)
set_option maxHeartbeats 4000000 in
theorem cg_X8_thrust {X : sj_X} {g : sj_G} {N : Nat} {a0 : Nat} {x1 : Int} {x2 : Int} {V : sj_VV} {q : Int × sj_VV} (ha0 : OK8 g a0) (h : g_X8_thrust N a0 x1 x2 V = some q) : sj_C X m_X8_thrust [sj_r (some a0), sj_i x1, sj_i x2] (g, V) (some (sj_j q.1), (g, q.2)) :=
  sj_C_of (by decide +kernel) (Nat.le_of_ble_eq_true rfl) (lo := [some (sj_r (some a0)), some (sj_i x1), some (sj_i x2), none, none, none]) rfl (sj_weak (l2 := [some (sj_r (some a0)), some (sj_i x1), some (sj_i x2), none, none, none]) (⟨rfl, ⟨rfl, ⟨rfl, trivial⟩⟩⟩) (st_X8_thrust_0 a0 x1 x2 V ha0 h))
set_option maxHeartbeats 4000000 in
theorem c_X8_thrust {X : sj_X} {N : Nat} {a0 : Nat} {x1 : Int} {x2 : Int} {s : sj_Mem} {q : Int × sj_Mem} (h : f_X8_thrust N a0 x1 x2 s = some q) : sj_C X m_X8_thrust [sj_r (some a0), sj_i x1, sj_i x2] s (some (sj_j q.1), q.2) := by
  obtain ⟨g, V⟩ := s
  unfold f_X8_thrust at h
  obtain ⟨ho, h1⟩ := e_ok_some h
  obtain ⟨q2, h2, rfl⟩ := sj_map_some h1
  exact cg_X8_thrust ho h2
theorem dX8_crest_0 : decode cX8_crest 0 = .ok (.iload_n 1, 1) := by decide +kernel
theorem dX8_crest_1 : decode cX8_crest 1 = .ok (.invokestatic 292, 3) := by decide +kernel
theorem dX8_crest_4 : decode cX8_crest 4 = .ok (.ifCond .eq 10, 3) := by decide +kernel
theorem dX8_crest_7 : decode cX8_crest 7 = .ok (.aload_n 0, 1) := by decide +kernel
theorem dX8_crest_8 : decode cX8_crest 8 = .ok (.invokevirtual 267, 3) := by decide +kernel
theorem dX8_crest_11 : decode cX8_crest 11 = .ok (.ifCond .ne 5, 3) := by decide +kernel
theorem dX8_crest_14 : decode cX8_crest 14 = .ok (.iconst (-1), 1) := by decide +kernel
theorem dX8_crest_15 : decode cX8_crest 15 = .ok (.ireturn, 1) := by decide +kernel
theorem dX8_crest_16 : decode cX8_crest 16 = .ok (.lconst 0, 1) := by decide +kernel
theorem dX8_crest_17 : decode cX8_crest 17 = .ok (.lstore_n 2, 1) := by decide +kernel
theorem dX8_crest_18 : decode cX8_crest 18 = .ok (.lconst 0, 1) := by decide +kernel
theorem dX8_crest_19 : decode cX8_crest 19 = .ok (.lstore 4, 2) := by decide +kernel
theorem dX8_crest_21 : decode cX8_crest 21 = .ok (.iconst (-1), 1) := by decide +kernel
theorem dX8_crest_22 : decode cX8_crest 22 = .ok (.istore 6, 2) := by decide +kernel
theorem dX8_crest_24 : decode cX8_crest 24 = .ok (.iconst 0, 1) := by decide +kernel
theorem dX8_crest_25 : decode cX8_crest 25 = .ok (.istore 7, 2) := by decide +kernel
theorem dX8_crest_27 : decode cX8_crest 27 = .ok (.iload 7, 2) := by decide +kernel
theorem dX8_crest_29 : decode cX8_crest 29 = .ok (.aload_n 0, 1) := by decide +kernel
theorem dX8_crest_30 : decode cX8_crest 30 = .ok (.getfield 53, 3) := by decide +kernel
theorem dX8_crest_33 : decode cX8_crest 33 = .ok (.getfield 367, 3) := by decide +kernel
theorem dX8_crest_36 : decode cX8_crest 36 = .ok (.if_icmp .ge 57, 3) := by decide +kernel
theorem dX8_crest_39 : decode cX8_crest 39 = .ok (.aload_n 0, 1) := by decide +kernel
theorem dX8_crest_40 : decode cX8_crest 40 = .ok (.getfield 53, 3) := by decide +kernel
theorem dX8_crest_43 : decode cX8_crest 43 = .ok (.iload 7, 2) := by decide +kernel
theorem dX8_crest_45 : decode cX8_crest 45 = .ok (.iload_n 1, 1) := by decide +kernel
theorem dX8_crest_46 : decode cX8_crest 46 = .ok (.invokevirtual 361, 3) := by decide +kernel
theorem dX8_crest_49 : decode cX8_crest 49 = .ok (.ifCond .eq 5, 3) := by decide +kernel
theorem dX8_crest_52 : decode cX8_crest 52 = .ok (.iconst (-1), 1) := by decide +kernel
theorem dX8_crest_53 : decode cX8_crest 53 = .ok (.ireturn, 1) := by decide +kernel
theorem dX8_crest_54 : decode cX8_crest 54 = .ok (.lload_n 2, 1) := by decide +kernel
theorem dX8_crest_55 : decode cX8_crest 55 = .ok (.aload_n 0, 1) := by decide +kernel
theorem dX8_crest_56 : decode cX8_crest 56 = .ok (.getfield 53, 3) := by decide +kernel
theorem dX8_crest_59 : decode cX8_crest 59 = .ok (.iload 7, 2) := by decide +kernel
theorem dX8_crest_61 : decode cX8_crest 61 = .ok (.iload_n 1, 1) := by decide +kernel
theorem dX8_crest_62 : decode cX8_crest 62 = .ok (.invokevirtual 364, 3) := by decide +kernel
theorem dX8_crest_65 : decode cX8_crest 65 = .ok (.ladd, 1) := by decide +kernel
theorem dX8_crest_66 : decode cX8_crest 66 = .ok (.lstore_n 2, 1) := by decide +kernel
theorem dX8_crest_67 : decode cX8_crest 67 = .ok (.iload 6, 2) := by decide +kernel
theorem dX8_crest_69 : decode cX8_crest 69 = .ok (.iconst (-1), 1) := by decide +kernel
theorem dX8_crest_70 : decode cX8_crest 70 = .ok (.if_icmp .eq 10, 3) := by decide +kernel
theorem dX8_crest_73 : decode cX8_crest 73 = .ok (.lload_n 2, 1) := by decide +kernel
theorem dX8_crest_74 : decode cX8_crest 74 = .ok (.lload 4, 2) := by decide +kernel
theorem dX8_crest_76 : decode cX8_crest 76 = .ok (.lcmp, 1) := by decide +kernel
theorem dX8_crest_77 : decode cX8_crest 77 = .ok (.ifCond .le 10, 3) := by decide +kernel
theorem dX8_crest_80 : decode cX8_crest 80 = .ok (.lload_n 2, 1) := by decide +kernel
theorem dX8_crest_81 : decode cX8_crest 81 = .ok (.lstore 4, 2) := by decide +kernel
theorem dX8_crest_83 : decode cX8_crest 83 = .ok (.iload 7, 2) := by decide +kernel
theorem dX8_crest_85 : decode cX8_crest 85 = .ok (.istore 6, 2) := by decide +kernel
theorem dX8_crest_87 : decode cX8_crest 87 = .ok (.iinc 7 1, 3) := by decide +kernel
theorem dX8_crest_90 : decode cX8_crest 90 = .ok (.goto (-63), 3) := by decide +kernel
theorem dX8_crest_93 : decode cX8_crest 93 = .ok (.iload 6, 2) := by decide +kernel
theorem dX8_crest_95 : decode cX8_crest 95 = .ok (.ireturn, 1) := by decide +kernel
set_option maxHeartbeats 4000000 in
theorem st_X8_crest_87 {X : sj_X} {g : sj_G} {s0 : sj_Mem} {N : Nat} {q : Int × sj_VV} {k27 : Nat → Int → Int → Int → Int → Int → sj_VV → Option (Int × sj_VV)} (hk27 : ∀ (a0 : Nat) (x1 : Int) (x2 : Int) (x4 : Int) (x6 : Int) (x7 : Int) (V : sj_VV), OK8 g a0 → k27 a0 x1 x2 x4 x6 x7 V = some q → sj_T X m_X8_crest s0 (some (sj_i q.1), (g, q.2)) 27 [some (sj_r (some a0)), some (sj_i x1), some (sj_j x2), none, some (sj_j x4), none, some (sj_i x6), some (sj_i x7)] [] (g, V)) :
    ∀ (a0 : Nat) (x1 : Int) (x2 : Int) (x4 : Int) (x6 : Int) (x7 : Int) (V : sj_VV), OK8 g a0 → g_X8_crest_87 N k27 a0 x1 x2 x4 x6 x7 V = some q → sj_T X m_X8_crest s0 (some (sj_i q.1), (g, q.2)) 87 [some (sj_r (some a0)), some (sj_i x1), some (sj_j x2), none, some (sj_j x4), none, some (sj_i x6), some (sj_i x7)] [] (g, V) := by
  intro a0 x1 x2 x4 x6 x7 V ha0 h
  unfold g_X8_crest_87 at h
  refine r_iinc (ln := fun w => [some (sj_r (some a0)), some (sj_i x1), some (sj_j x2), none, some (sj_j x4), none, some (sj_i x6), some (sj_i w)]) (pc := 87) h dX8_crest_87 rfl (Nat.le_of_ble_eq_true rfl) (fun _ => rfl) (fun v1 h => ?_)
  refine r_goto (pc := 90) (tgt := 27) dX8_crest_90 (by decide) ?_
  exact sj_weak (l2 := [some (sj_r (some a0)), some (sj_i x1), some (sj_j x2), none, some (sj_j x4), none, some (sj_i x6), some (sj_i v1)]) (⟨rfl, ⟨rfl, ⟨rfl, ⟨rfl, ⟨rfl, ⟨rfl, trivial⟩⟩⟩⟩⟩⟩) (hk27 a0 x1 x2 x4 x6 v1 V ha0 h)
set_option maxHeartbeats 4000000 in
theorem st_X8_crest_80 {X : sj_X} {g : sj_G} {s0 : sj_Mem} {N : Nat} {q : Int × sj_VV} {k27 : Nat → Int → Int → Int → Int → Int → sj_VV → Option (Int × sj_VV)} (hk27 : ∀ (a0 : Nat) (x1 : Int) (x2 : Int) (x4 : Int) (x6 : Int) (x7 : Int) (V : sj_VV), OK8 g a0 → k27 a0 x1 x2 x4 x6 x7 V = some q → sj_T X m_X8_crest s0 (some (sj_i q.1), (g, q.2)) 27 [some (sj_r (some a0)), some (sj_i x1), some (sj_j x2), none, some (sj_j x4), none, some (sj_i x6), some (sj_i x7)] [] (g, V)) :
    ∀ (a0 : Nat) (x1 : Int) (x2 : Int) (x7 : Int) (V : sj_VV), OK8 g a0 → g_X8_crest_80 N k27 a0 x1 x2 x7 V = some q → sj_T X m_X8_crest s0 (some (sj_i q.1), (g, q.2)) 80 [some (sj_r (some a0)), some (sj_i x1), some (sj_j x2), none, none, none, none, some (sj_i x7)] [] (g, V) := by
  intro a0 x1 x2 x7 V ha0 h
  unfold g_X8_crest_80 at h
  refine r_lload_n (pc := 80) dX8_crest_80 rfl rfl ?_
  refine r_lstore (ln := [some (sj_r (some a0)), some (sj_i x1), some (sj_j x2), none, some (sj_j x2), none, none, some (sj_i x7)]) (pc := 81) dX8_crest_81 (Nat.le_of_ble_eq_true rfl) rfl ?_
  refine r_iload (pc := 83) dX8_crest_83 rfl ?_
  refine r_istore (ln := [some (sj_r (some a0)), some (sj_i x1), some (sj_j x2), none, some (sj_j x2), none, some (sj_i x7), some (sj_i x7)]) (pc := 85) dX8_crest_85 (Nat.le_of_ble_eq_true rfl) rfl ?_
  exact sj_weak (l2 := [some (sj_r (some a0)), some (sj_i x1), some (sj_j x2), none, some (sj_j x2), none, some (sj_i x7), some (sj_i x7)]) (⟨rfl, ⟨rfl, ⟨rfl, ⟨rfl, ⟨rfl, ⟨rfl, trivial⟩⟩⟩⟩⟩⟩) (st_X8_crest_87 hk27 a0 x1 x2 x2 x7 x7 V ha0 h)
set_option maxHeartbeats 4000000 in
theorem st_X8_crest_27_b {X : sj_X} {g : sj_G} {s0 : sj_Mem} {N : Nat} {q : Int × sj_VV} {k27 : Nat → Int → Int → Int → Int → Int → sj_VV → Option (Int × sj_VV)} (hk27 : ∀ (a0 : Nat) (x1 : Int) (x2 : Int) (x4 : Int) (x6 : Int) (x7 : Int) (V : sj_VV), OK8 g a0 → k27 a0 x1 x2 x4 x6 x7 V = some q → sj_T X m_X8_crest s0 (some (sj_i q.1), (g, q.2)) 27 [some (sj_r (some a0)), some (sj_i x1), some (sj_j x2), none, some (sj_j x4), none, some (sj_i x6), some (sj_i x7)] [] (g, V)) :
    ∀ (a0 : Nat) (x1 : Int) (x2 : Int) (x4 : Int) (x6 : Int) (x7 : Int) (V : sj_VV), OK8 g a0 → g_X8_crest_27_b N k27 a0 x1 x2 x4 x6 x7 V = some q → sj_T X m_X8_crest s0 (some (sj_i q.1), (g, q.2)) 27 [some (sj_r (some a0)), some (sj_i x1), some (sj_j x2), none, some (sj_j x4), none, some (sj_i x6), some (sj_i x7)] [] (g, V) := by
  intro a0 x1 x2 x4 x6 x7 V ha0 h
  unfold g_X8_crest_27_b at h
  refine r_iload (pc := 27) dX8_crest_27 rfl ?_
  refine r_aload_n (pc := 29) dX8_crest_29 rfl rfl ?_
  refine r_gRs (b := a0 + 54) (pc := 30) dX8_crest_30 fw_X8_53 rfl (ok8 ha0) (ok8_8 ha0).1 ?_
  refine r_gIs (pc := 33) dX8_crest_33 fw_X8_367 rfl (ok4 (ok8_8 ha0).2) ?_
  refine r_icmp_ge (pc := 36) (tgt := 93) h dX8_crest_36 (by decide) (fun h => ?_) (fun h => ?_)
  · refine r_iload (pc := 93) dX8_crest_93 rfl ?_
    exact r_irets (pc := 95) h rfl dX8_crest_95
  · refine r_aload_n (pc := 39) dX8_crest_39 rfl rfl ?_
    refine r_gRs (b := a0 + 54) (pc := 40) dX8_crest_40 fw_X8_53 rfl (ok8 ha0) (ok8_8 ha0).1 ?_
    refine r_iload (pc := 43) dX8_crest_43 rfl ?_
    refine r_iload_n (pc := 45) dX8_crest_45 rfl rfl ?_
    refine r_callVs (pc := 46) (fun v => some (sj_i v)) (As := [sj_i x7, sj_i x1]) (rest := []) (b := (a0 + 54)) (ok4 (ok8_8 ha0).2) h dX8_crest_46 mw_X8_361 vw_X4_isFast (fun _ _ hc => cg_X4_isFast (ok8_8 ha0).2 hc) rfl ⟨(Nat.le_of_ble_eq_true rfl), (Nat.le_of_ble_eq_true rfl)⟩ (Nat.le_of_ble_eq_true rfl) rfl (fun v2 V1 h => ?_)
    refine r_if_eq (pc := 49) (tgt := 54) h dX8_crest_49 (by decide) (fun h => ?_) (fun h => ?_)
    · refine r_lload_n (pc := 54) dX8_crest_54 rfl rfl ?_
      refine r_aload_n (pc := 55) dX8_crest_55 rfl rfl ?_
      refine r_gRs (b := a0 + 54) (pc := 56) dX8_crest_56 fw_X8_53 rfl (ok8 ha0) (ok8_8 ha0).1 ?_
      refine r_iload (pc := 59) dX8_crest_59 rfl ?_
      refine r_iload_n (pc := 61) dX8_crest_61 rfl rfl ?_
      refine r_callVs (pc := 62) (fun v => some (sj_j v)) (As := [sj_i x7, sj_i x1]) (rest := [(sj_j x2)]) (b := (a0 + 54)) (ok4 (ok8_8 ha0).2) h dX8_crest_62 mw_X8_364 vw_X4_thrustOf (fun _ _ hc => cg_X4_thrustOf (ok8_8 ha0).2 hc) rfl ⟨(Nat.le_of_ble_eq_true rfl), (Nat.le_of_ble_eq_true rfl)⟩ (Nat.le_of_ble_eq_true rfl) rfl (fun v4 V3 h => ?_)
      refine r_ladd (pc := 65) dX8_crest_65 ?_
      refine r_lstore_nL (ln := fun w => [some (sj_r (some a0)), some (sj_i x1), some (sj_j w), none, some (sj_j x4), none, some (sj_i x6), some (sj_i x7)]) (pc := 66) h dX8_crest_66 rfl (Nat.le_of_ble_eq_true rfl) (fun _ => rfl) (fun v5 h => ?_)
      refine r_iload (pc := 67) dX8_crest_67 rfl ?_
      refine r_iconst (pc := 69) dX8_crest_69 ?_
      refine r_icmp_eq (pc := 70) (tgt := 80) h dX8_crest_70 (by decide) (fun h => ?_) (fun h => ?_)
      · exact sj_weak (l2 := [some (sj_r (some a0)), some (sj_i x1), some (sj_j v5), none, none, none, none, some (sj_i x7)]) (⟨rfl, ⟨rfl, ⟨rfl, ⟨rfl, trivial⟩⟩⟩⟩) (st_X8_crest_80 hk27 a0 x1 v5 x7 V3 ha0 h)
      · refine r_lload_n (pc := 73) dX8_crest_73 rfl rfl ?_
        refine r_lload (pc := 74) dX8_crest_74 rfl ?_
        refine r_lle (pc := 76) (tgt := 87) h dX8_crest_76 rfl dX8_crest_77 (by decide) (fun h => ?_) (fun h => ?_)
        · exact sj_weak (l2 := [some (sj_r (some a0)), some (sj_i x1), some (sj_j v5), none, some (sj_j x4), none, some (sj_i x6), some (sj_i x7)]) (⟨rfl, ⟨rfl, ⟨rfl, ⟨rfl, ⟨rfl, ⟨rfl, trivial⟩⟩⟩⟩⟩⟩) (st_X8_crest_87 hk27 a0 x1 v5 x4 x6 x7 V3 ha0 h)
        · exact sj_weak (l2 := [some (sj_r (some a0)), some (sj_i x1), some (sj_j v5), none, none, none, none, some (sj_i x7)]) (⟨rfl, ⟨rfl, ⟨rfl, ⟨rfl, trivial⟩⟩⟩⟩) (st_X8_crest_80 hk27 a0 x1 v5 x7 V3 ha0 h)
    · refine r_iconst (pc := 52) dX8_crest_52 ?_
      exact r_irets (pc := 53) h rfl dX8_crest_53
set_option maxHeartbeats 4000000 in
theorem st_X8_crest_27 {X : sj_X} {g : sj_G} {s0 : sj_Mem} {N : Nat} {q : Int × sj_VV} :
    ∀ (n : Nat) (a0 : Nat) (x1 : Int) (x2 : Int) (x4 : Int) (x6 : Int) (x7 : Int) (V : sj_VV), OK8 g a0 → g_X8_crest_27 N n a0 x1 x2 x4 x6 x7 V = some q → sj_T X m_X8_crest s0 (some (sj_i q.1), (g, q.2)) 27 [some (sj_r (some a0)), some (sj_i x1), some (sj_j x2), none, some (sj_j x4), none, some (sj_i x6), some (sj_i x7)] [] (g, V) := by
  intro n
  induction n with
  | zero => intro a0 x1 x2 x4 x6 x7 V ha0 h; exact nomatch h
  | succ n ih => intro a0 x1 x2 x4 x6 x7 V ha0 h; exact st_X8_crest_27_b (N := N) ih a0 x1 x2 x4 x6 x7 V ha0 h
set_option maxHeartbeats 4000000 in
theorem st_X8_crest_0 {X : sj_X} {g : sj_G} {s0 : sj_Mem} {N : Nat} {q : Int × sj_VV} :
    ∀ (a0 : Nat) (x1 : Int) (V : sj_VV), OK8 g a0 → g_X8_crest N a0 x1 V = some q → sj_T X m_X8_crest s0 (some (sj_i q.1), (g, q.2)) 0 [some (sj_r (some a0)), some (sj_i x1), none, none, none, none, none, none] [] (g, V) := by
  intro a0 x1 V ha0 h
  unfold g_X8_crest at h
  refine r_iload_n (pc := 0) dX8_crest_0 rfl rfl ?_
  refine r_callSs (pc := 1) (fun v => some (sj_i v)) (As := [sj_i x1]) (rest := []) h dX8_crest_1 mw_X8_292 kw_879 (fun _ _ hc => cg_X8_isK  hc) rfl ⟨(Nat.le_of_ble_eq_true rfl), (Nat.le_of_ble_eq_true rfl)⟩ (Nat.le_of_ble_eq_true rfl) rfl (fun v2 V1 h => ?_)
  refine r_if_eq (pc := 4) (tgt := 14) h dX8_crest_4 (by decide) (fun h => ?_) (fun h => ?_)
  · refine r_iconst (pc := 14) dX8_crest_14 ?_
    exact r_irets (pc := 15) h rfl dX8_crest_15
  · refine r_aload_n (pc := 7) dX8_crest_7 rfl rfl ?_
    refine r_callVs (pc := 8) (fun v => some (sj_i v)) (As := []) (rest := []) (b := a0) (ok8 ha0) h dX8_crest_8 mw_X8_267 vw_X8_cutUp (fun _ _ hc => cg_X8_cutUp ha0 hc) rfl ⟨(Nat.le_of_ble_eq_true rfl), (Nat.le_of_ble_eq_true rfl)⟩ (Nat.le_of_ble_eq_true rfl) rfl (fun v4 V3 h => ?_)
    refine r_if_ne (pc := 11) (tgt := 16) h dX8_crest_11 (by decide) (fun h => ?_) (fun h => ?_)
    · refine r_iconst (pc := 14) dX8_crest_14 ?_
      exact r_irets (pc := 15) h rfl dX8_crest_15
    · refine r_lconst0 (pc := 16) dX8_crest_16 ?_
      refine r_lstore_n (ln := [some (sj_r (some a0)), some (sj_i x1), some (sj_j 0), none, none, none, none, none]) (pc := 17) dX8_crest_17 rfl (Nat.le_of_ble_eq_true rfl) rfl ?_
      refine r_lconst0 (pc := 18) dX8_crest_18 ?_
      refine r_lstore (ln := [some (sj_r (some a0)), some (sj_i x1), some (sj_j 0), none, some (sj_j 0), none, none, none]) (pc := 19) dX8_crest_19 (Nat.le_of_ble_eq_true rfl) rfl ?_
      refine r_iconst (pc := 21) dX8_crest_21 ?_
      refine r_istore (ln := [some (sj_r (some a0)), some (sj_i x1), some (sj_j 0), none, some (sj_j 0), none, some (sj_i ((-1))), none]) (pc := 22) dX8_crest_22 (Nat.le_of_ble_eq_true rfl) rfl ?_
      refine r_iconst (pc := 24) dX8_crest_24 ?_
      refine r_istore (ln := [some (sj_r (some a0)), some (sj_i x1), some (sj_j 0), none, some (sj_j 0), none, some (sj_i ((-1))), some (sj_i 0)]) (pc := 25) dX8_crest_25 (Nat.le_of_ble_eq_true rfl) rfl ?_
      exact sj_weak (l2 := [some (sj_r (some a0)), some (sj_i x1), some (sj_j 0), none, some (sj_j 0), none, some (sj_i ((-1))), some (sj_i 0)]) (⟨rfl, ⟨rfl, ⟨rfl, ⟨rfl, ⟨rfl, ⟨rfl, trivial⟩⟩⟩⟩⟩⟩) (st_X8_crest_27 N a0 x1 0 0 ((-1)) 0 V3 ha0 h)
set_option maxHeartbeats 4000000 in
theorem cg_X8_crest {X : sj_X} {g : sj_G} {N : Nat} {a0 : Nat} {x1 : Int} {V : sj_VV} {q : Int × sj_VV} (ha0 : OK8 g a0) (h : g_X8_crest N a0 x1 V = some q) : sj_C X m_X8_crest [sj_r (some a0), sj_i x1] (g, V) (some (sj_i q.1), (g, q.2)) :=
  sj_C_of (by decide +kernel) (Nat.le_of_ble_eq_true rfl) (lo := [some (sj_r (some a0)), some (sj_i x1), none, none, none, none, none, none]) rfl (sj_weak (l2 := [some (sj_r (some a0)), some (sj_i x1), none, none, none, none, none, none]) (⟨rfl, ⟨rfl, trivial⟩⟩) (st_X8_crest_0 a0 x1 V ha0 h))
set_option maxHeartbeats 4000000 in
theorem c_X8_crest {X : sj_X} {N : Nat} {a0 : Nat} {x1 : Int} {s : sj_Mem} {q : Int × sj_Mem} (h : f_X8_crest N a0 x1 s = some q) : sj_C X m_X8_crest [sj_r (some a0), sj_i x1] s (some (sj_i q.1), q.2) := by
  obtain ⟨g, V⟩ := s
  unfold f_X8_crest at h
  obtain ⟨ho, h1⟩ := e_ok_some h
  obtain ⟨q2, h2, rfl⟩ := sj_map_some h1
  exact cg_X8_crest ho h2
theorem dX8_tried_0 : decode cX8_tried 0 = .ok (.aload_n 0, 1) := by decide +kernel
theorem dX8_tried_1 : decode cX8_tried 1 = .ok (.getfield 60, 3) := by decide +kernel
theorem dX8_tried_4 : decode cX8_tried 4 = .ok (.aload_n 0, 1) := by decide +kernel
theorem dX8_tried_5 : decode cX8_tried 5 = .ok (.getfield 12, 3) := by decide +kernel
theorem dX8_tried_8 : decode cX8_tried 8 = .ok (.iload_n 1, 1) := by decide +kernel
theorem dX8_tried_9 : decode cX8_tried 9 = .ok (.iload_n 2, 1) := by decide +kernel
theorem dX8_tried_10 : decode cX8_tried 10 = .ok (.iload_n 3, 1) := by decide +kernel
theorem dX8_tried_11 : decode cX8_tried 11 = .ok (.iload 4, 2) := by decide +kernel
theorem dX8_tried_13 : decode cX8_tried 13 = .ok (.sipush 20001, 3) := by decide +kernel
theorem dX8_tried_16 : decode cX8_tried 16 = .ok (.invokevirtual 369, 3) := by decide +kernel
theorem dX8_tried_19 : decode cX8_tried 19 = .ok (.ireturn, 1) := by decide +kernel
set_option maxHeartbeats 4000000 in
theorem st_X8_tried_0 {X : sj_X} {g : sj_G} {s0 : sj_Mem} {N : Nat} {q : Int × sj_VV} :
    ∀ (a0 : Nat) (x1 : Int) (x2 : Int) (x3 : Int) (x4 : Int) (V : sj_VV), OK8 g a0 → g_X8_tried N a0 x1 x2 x3 x4 V = some q → sj_T X m_X8_tried s0 (some (sj_i q.1), (g, q.2)) 0 [some (sj_r (some a0)), some (sj_i x1), some (sj_i x2), some (sj_i x3), some (sj_i x4)] [] (g, V) := by
  intro a0 x1 x2 x3 x4 V ha0 h
  unfold g_X8_tried at h
  refine r_aload_n (pc := 0) dX8_tried_0 rfl rfl ?_
  refine r_gRs (b := a0 + 63) (pc := 1) dX8_tried_1 fw_X8_60 rfl (ok8 ha0) (ok8_9 ha0).1 ?_
  refine r_aload_n (pc := 4) dX8_tried_4 rfl rfl ?_
  refine r_gRs (b := a0 + 1) (pc := 5) dX8_tried_5 fw_X8_12 rfl (ok8 ha0) (ok8_0 ha0).1 ?_
  refine r_iload_n (pc := 8) dX8_tried_8 rfl rfl ?_
  refine r_iload_n (pc := 9) dX8_tried_9 rfl rfl ?_
  refine r_iload_n (pc := 10) dX8_tried_10 rfl rfl ?_
  refine r_iload (pc := 11) dX8_tried_11 rfl ?_
  refine r_sipush (pc := 13) dX8_tried_13 ⟨by decide, by decide⟩ ?_
  refine r_callVs (pc := 16) (fun v => some (sj_i v)) (As := [sj_r (some (a0 + 1)), sj_i x1, sj_i x2, sj_i x3, sj_i x4, sj_i 20001]) (rest := []) (b := (a0 + 63)) (ok3 (ok8_9 ha0).2) h dX8_tried_16 mw_X8_369 vw_X3_ask (fun _ _ hc => cg_X3_ask (ok8_9 ha0).2 (ok8_0 ha0).2 hc) rfl ⟨(Nat.le_of_ble_eq_true rfl), (Nat.le_of_ble_eq_true rfl)⟩ (Nat.le_of_ble_eq_true rfl) rfl (fun v2 V1 h => ?_)
  exact r_irets (pc := 19) h rfl dX8_tried_19
set_option maxHeartbeats 4000000 in
theorem cg_X8_tried {X : sj_X} {g : sj_G} {N : Nat} {a0 : Nat} {x1 : Int} {x2 : Int} {x3 : Int} {x4 : Int} {V : sj_VV} {q : Int × sj_VV} (ha0 : OK8 g a0) (h : g_X8_tried N a0 x1 x2 x3 x4 V = some q) : sj_C X m_X8_tried [sj_r (some a0), sj_i x1, sj_i x2, sj_i x3, sj_i x4] (g, V) (some (sj_i q.1), (g, q.2)) :=
  sj_C_of (by decide +kernel) (Nat.le_of_ble_eq_true rfl) (lo := [some (sj_r (some a0)), some (sj_i x1), some (sj_i x2), some (sj_i x3), some (sj_i x4)]) rfl (sj_weak (l2 := [some (sj_r (some a0)), some (sj_i x1), some (sj_i x2), some (sj_i x3), some (sj_i x4)]) (⟨rfl, ⟨rfl, ⟨rfl, ⟨rfl, ⟨rfl, trivial⟩⟩⟩⟩⟩) (st_X8_tried_0 a0 x1 x2 x3 x4 V ha0 h))
set_option maxHeartbeats 4000000 in
theorem c_X8_tried {X : sj_X} {N : Nat} {a0 : Nat} {x1 : Int} {x2 : Int} {x3 : Int} {x4 : Int} {s : sj_Mem} {q : Int × sj_Mem} (h : f_X8_tried N a0 x1 x2 x3 x4 s = some q) : sj_C X m_X8_tried [sj_r (some a0), sj_i x1, sj_i x2, sj_i x3, sj_i x4] s (some (sj_i q.1), q.2) := by
  obtain ⟨g, V⟩ := s
  unfold f_X8_tried at h
  obtain ⟨ho, h1⟩ := e_ok_some h
  obtain ⟨q2, h2, rfl⟩ := sj_map_some h1
  exact cg_X8_tried ho h2
theorem dX8_boxes_0 : decode cX8_boxes 0 = .ok (.iload_n 1, 1) := by decide +kernel
theorem dX8_boxes_1 : decode cX8_boxes 1 = .ok (.iload_n 2, 1) := by decide +kernel
theorem dX8_boxes_2 : decode cX8_boxes 2 = .ok (.iload_n 3, 1) := by decide +kernel
theorem dX8_boxes_3 : decode cX8_boxes 3 = .ok (.invokestatic 158, 3) := by decide +kernel
theorem dX8_boxes_6 : decode cX8_boxes 6 = .ok (.ifCond .eq 27, 3) := by decide +kernel
theorem dX8_boxes_9 : decode cX8_boxes 9 = .ok (.iload 4, 2) := by decide +kernel
theorem dX8_boxes_11 : decode cX8_boxes 11 = .ok (.iconst 1, 1) := by decide +kernel
theorem dX8_boxes_12 : decode cX8_boxes 12 = .ok (.if_icmp .lt 21, 3) := by decide +kernel
theorem dX8_boxes_15 : decode cX8_boxes 15 = .ok (.iload 4, 2) := by decide +kernel
theorem dX8_boxes_17 : decode cX8_boxes 17 = .ok (.bipush 64, 2) := by decide +kernel
theorem dX8_boxes_19 : decode cX8_boxes 19 = .ok (.if_icmp .gt 14, 3) := by decide +kernel
theorem dX8_boxes_22 : decode cX8_boxes 22 = .ok (.iload 6, 2) := by decide +kernel
theorem dX8_boxes_24 : decode cX8_boxes 24 = .ok (.ifCond .lt 9, 3) := by decide +kernel
theorem dX8_boxes_27 : decode cX8_boxes 27 = .ok (.iload 6, 2) := by decide +kernel
theorem dX8_boxes_29 : decode cX8_boxes 29 = .ok (.iconst 4, 1) := by decide +kernel
theorem dX8_boxes_30 : decode cX8_boxes 30 = .ok (.if_icmp .le 6, 3) := by decide +kernel
theorem dX8_boxes_33 : decode cX8_boxes 33 = .ok (.bipush (-100), 2) := by decide +kernel
theorem dX8_boxes_35 : decode cX8_boxes 35 = .ok (.ireturn, 1) := by decide +kernel
theorem dX8_boxes_36 : decode cX8_boxes 36 = .ok (.aload_n 0, 1) := by decide +kernel
theorem dX8_boxes_37 : decode cX8_boxes 37 = .ok (.getfield 60, 3) := by decide +kernel
theorem dX8_boxes_40 : decode cX8_boxes 40 = .ok (.aload_n 0, 1) := by decide +kernel
theorem dX8_boxes_41 : decode cX8_boxes 41 = .ok (.getfield 12, 3) := by decide +kernel
theorem dX8_boxes_44 : decode cX8_boxes 44 = .ok (.iload_n 1, 1) := by decide +kernel
theorem dX8_boxes_45 : decode cX8_boxes 45 = .ok (.iload_n 2, 1) := by decide +kernel
theorem dX8_boxes_46 : decode cX8_boxes 46 = .ok (.iload_n 3, 1) := by decide +kernel
theorem dX8_boxes_47 : decode cX8_boxes 47 = .ok (.iload 4, 2) := by decide +kernel
theorem dX8_boxes_49 : decode cX8_boxes 49 = .ok (.iload 5, 2) := by decide +kernel
theorem dX8_boxes_51 : decode cX8_boxes 51 = .ok (.invokevirtual 373, 3) := by decide +kernel
theorem dX8_boxes_54 : decode cX8_boxes 54 = .ok (.ifCond .ne 6, 3) := by decide +kernel
theorem dX8_boxes_57 : decode cX8_boxes 57 = .ok (.bipush (-100), 2) := by decide +kernel
theorem dX8_boxes_59 : decode cX8_boxes 59 = .ok (.ireturn, 1) := by decide +kernel
theorem dX8_boxes_60 : decode cX8_boxes 60 = .ok (.iload 6, 2) := by decide +kernel
theorem dX8_boxes_62 : decode cX8_boxes 62 = .ok (.tableswitch 62 0 3 #[30, 38, 46, 54], 30) := by decide +kernel
theorem dX8_boxes_92 : decode cX8_boxes 92 = .ok (.aload_n 0, 1) := by decide +kernel
theorem dX8_boxes_93 : decode cX8_boxes 93 = .ok (.getfield 60, 3) := by decide +kernel
theorem dX8_boxes_96 : decode cX8_boxes 96 = .ok (.getfield 377, 3) := by decide +kernel
theorem dX8_boxes_99 : decode cX8_boxes 99 = .ok (.ireturn, 1) := by decide +kernel
theorem dX8_boxes_100 : decode cX8_boxes 100 = .ok (.aload_n 0, 1) := by decide +kernel
theorem dX8_boxes_101 : decode cX8_boxes 101 = .ok (.getfield 60, 3) := by decide +kernel
theorem dX8_boxes_104 : decode cX8_boxes 104 = .ok (.getfield 380, 3) := by decide +kernel
theorem dX8_boxes_107 : decode cX8_boxes 107 = .ok (.ireturn, 1) := by decide +kernel
theorem dX8_boxes_108 : decode cX8_boxes 108 = .ok (.aload_n 0, 1) := by decide +kernel
theorem dX8_boxes_109 : decode cX8_boxes 109 = .ok (.getfield 60, 3) := by decide +kernel
theorem dX8_boxes_112 : decode cX8_boxes 112 = .ok (.getfield 383, 3) := by decide +kernel
theorem dX8_boxes_115 : decode cX8_boxes 115 = .ok (.ireturn, 1) := by decide +kernel
theorem dX8_boxes_116 : decode cX8_boxes 116 = .ok (.aload_n 0, 1) := by decide +kernel
theorem dX8_boxes_117 : decode cX8_boxes 117 = .ok (.getfield 60, 3) := by decide +kernel
theorem dX8_boxes_120 : decode cX8_boxes 120 = .ok (.getfield 386, 3) := by decide +kernel
theorem dX8_boxes_123 : decode cX8_boxes 123 = .ok (.ireturn, 1) := by decide +kernel
theorem dX8_boxes_124 : decode cX8_boxes 124 = .ok (.aload_n 0, 1) := by decide +kernel
theorem dX8_boxes_125 : decode cX8_boxes 125 = .ok (.getfield 60, 3) := by decide +kernel
theorem dX8_boxes_128 : decode cX8_boxes 128 = .ok (.getfield 389, 3) := by decide +kernel
theorem dX8_boxes_131 : decode cX8_boxes 131 = .ok (.ireturn, 1) := by decide +kernel
set_option maxHeartbeats 4000000 in
theorem st_X8_boxes_0 {X : sj_X} {g : sj_G} {s0 : sj_Mem} {N : Nat} {q : Int × sj_VV} :
    ∀ (a0 : Nat) (x1 : Int) (x2 : Int) (x3 : Int) (x4 : Int) (x5 : Int) (x6 : Int) (V : sj_VV), OK8 g a0 → g_X8_boxes N a0 x1 x2 x3 x4 x5 x6 V = some q → sj_T X m_X8_boxes s0 (some (sj_i q.1), (g, q.2)) 0 [some (sj_r (some a0)), some (sj_i x1), some (sj_i x2), some (sj_i x3), some (sj_i x4), some (sj_i x5), some (sj_i x6)] [] (g, V) := by
  intro a0 x1 x2 x3 x4 x5 x6 V ha0 h
  unfold g_X8_boxes at h
  refine r_iload_n (pc := 0) dX8_boxes_0 rfl rfl ?_
  refine r_iload_n (pc := 1) dX8_boxes_1 rfl rfl ?_
  refine r_iload_n (pc := 2) dX8_boxes_2 rfl rfl ?_
  refine r_callSs (pc := 3) (fun v => some (sj_i v)) (As := [sj_i x1, sj_i x2, sj_i x3]) (rest := []) h dX8_boxes_3 mw_X8_158 kw_600 (fun _ _ hc => cg_X8_isCircle  hc) rfl ⟨(Nat.le_of_ble_eq_true rfl), (Nat.le_of_ble_eq_true rfl)⟩ (Nat.le_of_ble_eq_true rfl) rfl (fun v2 V1 h => ?_)
  refine r_if_eq (pc := 6) (tgt := 33) h dX8_boxes_6 (by decide) (fun h => ?_) (fun h => ?_)
  · refine r_bipush (pc := 33) dX8_boxes_33 ⟨by decide, by decide⟩ ?_
    exact r_irets (pc := 35) h rfl dX8_boxes_35
  · refine r_iload (pc := 9) dX8_boxes_9 rfl ?_
    refine r_iconst (pc := 11) dX8_boxes_11 ?_
    refine r_icmp_lt (pc := 12) (tgt := 33) h dX8_boxes_12 (by decide) (fun h => ?_) (fun h => ?_)
    · refine r_bipush (pc := 33) dX8_boxes_33 ⟨by decide, by decide⟩ ?_
      exact r_irets (pc := 35) h rfl dX8_boxes_35
    · refine r_iload (pc := 15) dX8_boxes_15 rfl ?_
      refine r_bipush (pc := 17) dX8_boxes_17 ⟨by decide, by decide⟩ ?_
      refine r_icmp_gt (pc := 19) (tgt := 33) h dX8_boxes_19 (by decide) (fun h => ?_) (fun h => ?_)
      · refine r_bipush (pc := 33) dX8_boxes_33 ⟨by decide, by decide⟩ ?_
        exact r_irets (pc := 35) h rfl dX8_boxes_35
      · refine r_iload (pc := 22) dX8_boxes_22 rfl ?_
        refine r_if_lt (pc := 24) (tgt := 33) h dX8_boxes_24 (by decide) (fun h => ?_) (fun h => ?_)
        · refine r_bipush (pc := 33) dX8_boxes_33 ⟨by decide, by decide⟩ ?_
          exact r_irets (pc := 35) h rfl dX8_boxes_35
        · refine r_iload (pc := 27) dX8_boxes_27 rfl ?_
          refine r_iconst (pc := 29) dX8_boxes_29 ?_
          refine r_icmp_le (pc := 30) (tgt := 36) h dX8_boxes_30 (by decide) (fun h => ?_) (fun h => ?_)
          · refine r_aload_n (pc := 36) dX8_boxes_36 rfl rfl ?_
            refine r_gRs (b := a0 + 63) (pc := 37) dX8_boxes_37 fw_X8_60 rfl (ok8 ha0) (ok8_9 ha0).1 ?_
            refine r_aload_n (pc := 40) dX8_boxes_40 rfl rfl ?_
            refine r_gRs (b := a0 + 1) (pc := 41) dX8_boxes_41 fw_X8_12 rfl (ok8 ha0) (ok8_0 ha0).1 ?_
            refine r_iload_n (pc := 44) dX8_boxes_44 rfl rfl ?_
            refine r_iload_n (pc := 45) dX8_boxes_45 rfl rfl ?_
            refine r_iload_n (pc := 46) dX8_boxes_46 rfl rfl ?_
            refine r_iload (pc := 47) dX8_boxes_47 rfl ?_
            refine r_iload (pc := 49) dX8_boxes_49 rfl ?_
            refine r_callVs (pc := 51) (fun v => some (sj_i v)) (As := [sj_r (some (a0 + 1)), sj_i x1, sj_i x2, sj_i x3, sj_i x4, sj_i x5]) (rest := []) (b := (a0 + 63)) (ok3 (ok8_9 ha0).2) h dX8_boxes_51 mw_X8_373 vw_X3_seek (fun _ _ hc => cg_X3_seek (ok8_9 ha0).2 (ok8_0 ha0).2 hc) rfl ⟨(Nat.le_of_ble_eq_true rfl), (Nat.le_of_ble_eq_true rfl)⟩ (Nat.le_of_ble_eq_true rfl) rfl (fun v4 V3 h => ?_)
            refine r_if_ne (pc := 54) (tgt := 60) h dX8_boxes_54 (by decide) (fun h => ?_) (fun h => ?_)
            · refine r_bipush (pc := 57) dX8_boxes_57 ⟨by decide, by decide⟩ ?_
              exact r_irets (pc := 59) h rfl dX8_boxes_59
            · refine r_iload (pc := 60) dX8_boxes_60 rfl ?_
              obtain ⟨hr, h⟩ := e_sw_some h
              refine sj_if h (fun c0 h => ?_) (fun c0 h => ?_)
              · refine r_tcase (pc := 62) (tgt := 92) (j := 0) hr c0 dX8_boxes_62 (by decide) (by decide) rfl (by decide) ?_
                refine r_aload_n (pc := 92) dX8_boxes_92 rfl rfl ?_
                refine r_gRs (b := a0 + 63) (pc := 93) dX8_boxes_93 fw_X8_60 rfl (ok8 ha0) (ok8_9 ha0).1 ?_
                refine r_gIs (pc := 96) dX8_boxes_96 fw_X8_377 rfl (ok3 (ok8_9 ha0).2) ?_
                exact r_irets (pc := 99) h rfl dX8_boxes_99
              refine sj_if h (fun c1 h => ?_) (fun c1 h => ?_)
              · refine r_tcase (pc := 62) (tgt := 100) (j := 1) hr c1 dX8_boxes_62 (by decide) (by decide) rfl (by decide) ?_
                refine r_aload_n (pc := 100) dX8_boxes_100 rfl rfl ?_
                refine r_gRs (b := a0 + 63) (pc := 101) dX8_boxes_101 fw_X8_60 rfl (ok8 ha0) (ok8_9 ha0).1 ?_
                refine r_gIs (pc := 104) dX8_boxes_104 fw_X8_380 rfl (ok3 (ok8_9 ha0).2) ?_
                exact r_irets (pc := 107) h rfl dX8_boxes_107
              refine sj_if h (fun c2 h => ?_) (fun c2 h => ?_)
              · refine r_tcase (pc := 62) (tgt := 108) (j := 2) hr c2 dX8_boxes_62 (by decide) (by decide) rfl (by decide) ?_
                refine r_aload_n (pc := 108) dX8_boxes_108 rfl rfl ?_
                refine r_gRs (b := a0 + 63) (pc := 109) dX8_boxes_109 fw_X8_60 rfl (ok8 ha0) (ok8_9 ha0).1 ?_
                refine r_gIs (pc := 112) dX8_boxes_112 fw_X8_383 rfl (ok3 (ok8_9 ha0).2) ?_
                exact r_irets (pc := 115) h rfl dX8_boxes_115
              refine sj_if h (fun c3 h => ?_) (fun c3 h => ?_)
              · refine r_tcase (pc := 62) (tgt := 116) (j := 3) hr c3 dX8_boxes_62 (by decide) (by decide) rfl (by decide) ?_
                refine r_aload_n (pc := 116) dX8_boxes_116 rfl rfl ?_
                refine r_gRs (b := a0 + 63) (pc := 117) dX8_boxes_117 fw_X8_60 rfl (ok8 ha0) (ok8_9 ha0).1 ?_
                refine r_gIs (pc := 120) dX8_boxes_120 fw_X8_386 rfl (ok3 (ok8_9 ha0).2) ?_
                exact r_irets (pc := 123) h rfl dX8_boxes_123
              refine r_tdflt (pc := 62) (tgt := 124) hr dX8_boxes_62 (by omega) (by decide) ?_
              refine r_aload_n (pc := 124) dX8_boxes_124 rfl rfl ?_
              refine r_gRs (b := a0 + 63) (pc := 125) dX8_boxes_125 fw_X8_60 rfl (ok8 ha0) (ok8_9 ha0).1 ?_
              refine r_gIs (pc := 128) dX8_boxes_128 fw_X8_389 rfl (ok3 (ok8_9 ha0).2) ?_
              exact r_irets (pc := 131) h rfl dX8_boxes_131
          · refine r_bipush (pc := 33) dX8_boxes_33 ⟨by decide, by decide⟩ ?_
            exact r_irets (pc := 35) h rfl dX8_boxes_35
set_option maxHeartbeats 4000000 in
theorem cg_X8_boxes {X : sj_X} {g : sj_G} {N : Nat} {a0 : Nat} {x1 : Int} {x2 : Int} {x3 : Int} {x4 : Int} {x5 : Int} {x6 : Int} {V : sj_VV} {q : Int × sj_VV} (ha0 : OK8 g a0) (h : g_X8_boxes N a0 x1 x2 x3 x4 x5 x6 V = some q) : sj_C X m_X8_boxes [sj_r (some a0), sj_i x1, sj_i x2, sj_i x3, sj_i x4, sj_i x5, sj_i x6] (g, V) (some (sj_i q.1), (g, q.2)) :=
  sj_C_of (by decide +kernel) (Nat.le_of_ble_eq_true rfl) (lo := [some (sj_r (some a0)), some (sj_i x1), some (sj_i x2), some (sj_i x3), some (sj_i x4), some (sj_i x5), some (sj_i x6)]) rfl (sj_weak (l2 := [some (sj_r (some a0)), some (sj_i x1), some (sj_i x2), some (sj_i x3), some (sj_i x4), some (sj_i x5), some (sj_i x6)]) (⟨rfl, ⟨rfl, ⟨rfl, ⟨rfl, ⟨rfl, ⟨rfl, ⟨rfl, trivial⟩⟩⟩⟩⟩⟩⟩) (st_X8_boxes_0 a0 x1 x2 x3 x4 x5 x6 V ha0 h))
set_option maxHeartbeats 4000000 in
theorem c_X8_boxes {X : sj_X} {N : Nat} {a0 : Nat} {x1 : Int} {x2 : Int} {x3 : Int} {x4 : Int} {x5 : Int} {x6 : Int} {s : sj_Mem} {q : Int × sj_Mem} (h : f_X8_boxes N a0 x1 x2 x3 x4 x5 x6 s = some q) : sj_C X m_X8_boxes [sj_r (some a0), sj_i x1, sj_i x2, sj_i x3, sj_i x4, sj_i x5, sj_i x6] s (some (sj_i q.1), q.2) := by
  obtain ⟨g, V⟩ := s
  unfold f_X8_boxes at h
  obtain ⟨ho, h1⟩ := e_ok_some h
  obtain ⟨q2, h2, rfl⟩ := sj_map_some h1
  exact cg_X8_boxes ho h2
theorem dX8_dug_0 : decode cX8_dug 0 = .ok (.iload_n 3, 1) := by decide +kernel
theorem dX8_dug_1 : decode cX8_dug 1 = .ok (.iload 4, 2) := by decide +kernel
theorem dX8_dug_3 : decode cX8_dug 3 = .ok (.iload 5, 2) := by decide +kernel
theorem dX8_dug_5 : decode cX8_dug 5 = .ok (.invokestatic 158, 3) := by decide +kernel
theorem dX8_dug_8 : decode cX8_dug 8 = .ok (.ifCond .eq 15, 3) := by decide +kernel
theorem dX8_dug_11 : decode cX8_dug 11 = .ok (.aload_n 0, 1) := by decide +kernel
theorem dX8_dug_12 : decode cX8_dug 12 = .ok (.getfield 12, 3) := by decide +kernel
theorem dX8_dug_15 : decode cX8_dug 15 = .ok (.iload_n 1, 1) := by decide +kernel
theorem dX8_dug_16 : decode cX8_dug 16 = .ok (.iload_n 2, 1) := by decide +kernel
theorem dX8_dug_17 : decode cX8_dug 17 = .ok (.invokevirtual 112, 3) := by decide +kernel
theorem dX8_dug_20 : decode cX8_dug 20 = .ok (.ifCond .ne 5, 3) := by decide +kernel
theorem dX8_dug_23 : decode cX8_dug 23 = .ok (.iconst (-1), 1) := by decide +kernel
theorem dX8_dug_24 : decode cX8_dug 24 = .ok (.ireturn, 1) := by decide +kernel
theorem dX8_dug_25 : decode cX8_dug 25 = .ok (.aload_n 0, 1) := by decide +kernel
theorem dX8_dug_26 : decode cX8_dug 26 = .ok (.getfield 16, 3) := by decide +kernel
theorem dX8_dug_29 : decode cX8_dug 29 = .ok (.aload_n 0, 1) := by decide +kernel
theorem dX8_dug_30 : decode cX8_dug 30 = .ok (.getfield 12, 3) := by decide +kernel
theorem dX8_dug_33 : decode cX8_dug 33 = .ok (.invokevirtual 148, 3) := by decide +kernel
theorem dX8_dug_36 : decode cX8_dug 36 = .ok (.aload_n 0, 1) := by decide +kernel
theorem dX8_dug_37 : decode cX8_dug 37 = .ok (.getfield 16, 3) := by decide +kernel
theorem dX8_dug_40 : decode cX8_dug 40 = .ok (.getfield 100, 3) := by decide +kernel
theorem dX8_dug_43 : decode cX8_dug 43 = .ok (.iload_n 1, 1) := by decide +kernel
theorem dX8_dug_44 : decode cX8_dug 44 = .ok (.dup2, 1) := by decide +kernel
theorem dX8_dug_45 : decode cX8_dug 45 = .ok (.iaload, 1) := by decide +kernel
theorem dX8_dug_46 : decode cX8_dug 46 = .ok (.iload_n 2, 1) := by decide +kernel
theorem dX8_dug_47 : decode cX8_dug 47 = .ok (.isub, 1) := by decide +kernel
theorem dX8_dug_48 : decode cX8_dug 48 = .ok (.iastore, 1) := by decide +kernel
theorem dX8_dug_49 : decode cX8_dug 49 = .ok (.aload_n 0, 1) := by decide +kernel
theorem dX8_dug_50 : decode cX8_dug 50 = .ok (.getfield 60, 3) := by decide +kernel
theorem dX8_dug_53 : decode cX8_dug 53 = .ok (.aload_n 0, 1) := by decide +kernel
theorem dX8_dug_54 : decode cX8_dug 54 = .ok (.getfield 16, 3) := by decide +kernel
theorem dX8_dug_57 : decode cX8_dug 57 = .ok (.iload_n 3, 1) := by decide +kernel
theorem dX8_dug_58 : decode cX8_dug 58 = .ok (.iload 4, 2) := by decide +kernel
theorem dX8_dug_60 : decode cX8_dug 60 = .ok (.iload 5, 2) := by decide +kernel
theorem dX8_dug_62 : decode cX8_dug 62 = .ok (.bipush 8, 2) := by decide +kernel
theorem dX8_dug_64 : decode cX8_dug 64 = .ok (.iload 6, 2) := by decide +kernel
theorem dX8_dug_66 : decode cX8_dug 66 = .ok (.invokevirtual 373, 3) := by decide +kernel
theorem dX8_dug_69 : decode cX8_dug 69 = .ok (.ifCond .eq 13, 3) := by decide +kernel
theorem dX8_dug_72 : decode cX8_dug 72 = .ok (.aload_n 0, 1) := by decide +kernel
theorem dX8_dug_73 : decode cX8_dug 73 = .ok (.getfield 60, 3) := by decide +kernel
theorem dX8_dug_76 : decode cX8_dug 76 = .ok (.getfield 377, 3) := by decide +kernel
theorem dX8_dug_79 : decode cX8_dug 79 = .ok (.goto 4, 3) := by decide +kernel
theorem dX8_dug_82 : decode cX8_dug 82 = .ok (.iconst (-1), 1) := by decide +kernel
theorem dX8_dug_83 : decode cX8_dug 83 = .ok (.ireturn, 1) := by decide +kernel
set_option maxHeartbeats 4000000 in
theorem st_X8_dug_0 {X : sj_X} {g : sj_G} {s0 : sj_Mem} {N : Nat} {q : Int × sj_VV} :
    ∀ (a0 : Nat) (x1 : Int) (x2 : Int) (x3 : Int) (x4 : Int) (x5 : Int) (x6 : Int) (V : sj_VV), OK8 g a0 → g_X8_dug N a0 x1 x2 x3 x4 x5 x6 V = some q → sj_T X m_X8_dug s0 (some (sj_i q.1), (g, q.2)) 0 [some (sj_r (some a0)), some (sj_i x1), some (sj_i x2), some (sj_i x3), some (sj_i x4), some (sj_i x5), some (sj_i x6)] [] (g, V) := by
  intro a0 x1 x2 x3 x4 x5 x6 V ha0 h
  unfold g_X8_dug at h
  refine r_iload_n (pc := 0) dX8_dug_0 rfl rfl ?_
  refine r_iload (pc := 1) dX8_dug_1 rfl ?_
  refine r_iload (pc := 3) dX8_dug_3 rfl ?_
  refine r_callSs (pc := 5) (fun v => some (sj_i v)) (As := [sj_i x3, sj_i x4, sj_i x5]) (rest := []) h dX8_dug_5 mw_X8_158 kw_600 (fun _ _ hc => cg_X8_isCircle  hc) rfl ⟨(Nat.le_of_ble_eq_true rfl), (Nat.le_of_ble_eq_true rfl)⟩ (Nat.le_of_ble_eq_true rfl) rfl (fun v2 V1 h => ?_)
  refine r_if_eq (pc := 8) (tgt := 23) h dX8_dug_8 (by decide) (fun h => ?_) (fun h => ?_)
  · refine r_iconst (pc := 23) dX8_dug_23 ?_
    exact r_irets (pc := 24) h rfl dX8_dug_24
  · refine r_aload_n (pc := 11) dX8_dug_11 rfl rfl ?_
    refine r_gRs (b := a0 + 1) (pc := 12) dX8_dug_12 fw_X8_12 rfl (ok8 ha0) (ok8_0 ha0).1 ?_
    refine r_iload_n (pc := 15) dX8_dug_15 rfl rfl ?_
    refine r_iload_n (pc := 16) dX8_dug_16 rfl rfl ?_
    refine r_callVs (pc := 17) (fun v => some (sj_i v)) (As := [sj_i x1, sj_i x2]) (rest := []) (b := (a0 + 1)) (ok0 (ok8_0 ha0).2) h dX8_dug_17 mw_X8_112 vw_X0_canLower (fun _ _ hc => cg_X0_canLower (ok8_0 ha0).2 hc) rfl ⟨(Nat.le_of_ble_eq_true rfl), (Nat.le_of_ble_eq_true rfl)⟩ (Nat.le_of_ble_eq_true rfl) rfl (fun v4 V3 h => ?_)
    refine r_if_ne (pc := 20) (tgt := 25) h dX8_dug_20 (by decide) (fun h => ?_) (fun h => ?_)
    · refine r_iconst (pc := 23) dX8_dug_23 ?_
      exact r_irets (pc := 24) h rfl dX8_dug_24
    · refine r_aload_n (pc := 25) dX8_dug_25 rfl rfl ?_
      refine r_gRs (b := a0 + 15) (pc := 26) dX8_dug_26 fw_X8_16 rfl (ok8 ha0) (ok8_1 ha0).1 ?_
      refine r_aload_n (pc := 29) dX8_dug_29 rfl rfl ?_
      refine r_gRs (b := a0 + 1) (pc := 30) dX8_dug_30 fw_X8_12 rfl (ok8 ha0) (ok8_0 ha0).1 ?_
      refine r_callVs (pc := 33) (fun _ => none) (As := [sj_r (some (a0 + 1))]) (rest := []) (b := (a0 + 15)) (ok0 (ok8_1 ha0).2) h dX8_dug_33 mw_X8_148 vw_X0_copy (fun _ _ hc => cg_X0_copy (ok8_1 ha0).2 (ok8_0 ha0).2 hc) rfl ⟨(Nat.le_of_ble_eq_true rfl), (Nat.le_of_ble_eq_true rfl)⟩ (Nat.le_of_ble_eq_true rfl) rfl (fun _u V5 h => ?_)
      refine r_aload_n (pc := 36) dX8_dug_36 rfl rfl ?_
      refine r_gRs (b := a0 + 15) (pc := 37) dX8_dug_37 fw_X8_16 rfl (ok8 ha0) (ok8_1 ha0).1 ?_
      refine r_gRs (b := (a0 + 15) + 1) (pc := 40) dX8_dug_40 fw_X8_100 rfl (ok0 (ok8_1 ha0).2) (ok0_3 (ok8_1 ha0).2).1 ?_
      refine r_iload_n (pc := 43) dX8_dug_43 rfl rfl ?_
      refine r_dup2_11 (pc := 44) dX8_dug_44 rfl rfl ?_
      refine r_ialoads (pc := 45) h dX8_dug_45 (ok0_3 (ok8_1 ha0).2).2 (fun h => ?_)
      refine r_iload_n (pc := 46) dX8_dug_46 rfl rfl ?_
      refine r_isub (pc := 47) dX8_dug_47 ?_
      refine r_iastores (pc := 48) h dX8_dug_48 (ok0_3 (ok8_1 ha0).2).2 (fun V6 h => ?_)
      refine r_aload_n (pc := 49) dX8_dug_49 rfl rfl ?_
      refine r_gRs (b := a0 + 63) (pc := 50) dX8_dug_50 fw_X8_60 rfl (ok8 ha0) (ok8_9 ha0).1 ?_
      refine r_aload_n (pc := 53) dX8_dug_53 rfl rfl ?_
      refine r_gRs (b := a0 + 15) (pc := 54) dX8_dug_54 fw_X8_16 rfl (ok8 ha0) (ok8_1 ha0).1 ?_
      refine r_iload_n (pc := 57) dX8_dug_57 rfl rfl ?_
      refine r_iload (pc := 58) dX8_dug_58 rfl ?_
      refine r_iload (pc := 60) dX8_dug_60 rfl ?_
      refine r_bipush (pc := 62) dX8_dug_62 ⟨by decide, by decide⟩ ?_
      refine r_iload (pc := 64) dX8_dug_64 rfl ?_
      refine r_callVs (pc := 66) (fun v => some (sj_i v)) (As := [sj_r (some (a0 + 15)), sj_i x3, sj_i x4, sj_i x5, sj_i 8, sj_i x6]) (rest := []) (b := (a0 + 63)) (ok3 (ok8_9 ha0).2) h dX8_dug_66 mw_X8_373 vw_X3_seek (fun _ _ hc => cg_X3_seek (ok8_9 ha0).2 (ok8_1 ha0).2 hc) rfl ⟨(Nat.le_of_ble_eq_true rfl), (Nat.le_of_ble_eq_true rfl)⟩ (Nat.le_of_ble_eq_true rfl) rfl (fun v8 V7 h => ?_)
      refine r_if_eq (pc := 69) (tgt := 82) h dX8_dug_69 (by decide) (fun h => ?_) (fun h => ?_)
      · refine r_iconst (pc := 82) dX8_dug_82 ?_
        exact r_irets (pc := 83) h rfl dX8_dug_83
      · refine r_aload_n (pc := 72) dX8_dug_72 rfl rfl ?_
        refine r_gRs (b := a0 + 63) (pc := 73) dX8_dug_73 fw_X8_60 rfl (ok8 ha0) (ok8_9 ha0).1 ?_
        refine r_gIs (pc := 76) dX8_dug_76 fw_X8_377 rfl (ok3 (ok8_9 ha0).2) ?_
        refine r_goto (pc := 79) (tgt := 83) dX8_dug_79 (by decide) ?_
        exact r_irets (pc := 83) h rfl dX8_dug_83
set_option maxHeartbeats 4000000 in
theorem cg_X8_dug {X : sj_X} {g : sj_G} {N : Nat} {a0 : Nat} {x1 : Int} {x2 : Int} {x3 : Int} {x4 : Int} {x5 : Int} {x6 : Int} {V : sj_VV} {q : Int × sj_VV} (ha0 : OK8 g a0) (h : g_X8_dug N a0 x1 x2 x3 x4 x5 x6 V = some q) : sj_C X m_X8_dug [sj_r (some a0), sj_i x1, sj_i x2, sj_i x3, sj_i x4, sj_i x5, sj_i x6] (g, V) (some (sj_i q.1), (g, q.2)) :=
  sj_C_of (by decide +kernel) (Nat.le_of_ble_eq_true rfl) (lo := [some (sj_r (some a0)), some (sj_i x1), some (sj_i x2), some (sj_i x3), some (sj_i x4), some (sj_i x5), some (sj_i x6)]) rfl (sj_weak (l2 := [some (sj_r (some a0)), some (sj_i x1), some (sj_i x2), some (sj_i x3), some (sj_i x4), some (sj_i x5), some (sj_i x6)]) (⟨rfl, ⟨rfl, ⟨rfl, ⟨rfl, ⟨rfl, ⟨rfl, ⟨rfl, trivial⟩⟩⟩⟩⟩⟩⟩) (st_X8_dug_0 a0 x1 x2 x3 x4 x5 x6 V ha0 h))
set_option maxHeartbeats 4000000 in
theorem c_X8_dug {X : sj_X} {N : Nat} {a0 : Nat} {x1 : Int} {x2 : Int} {x3 : Int} {x4 : Int} {x5 : Int} {x6 : Int} {s : sj_Mem} {q : Int × sj_Mem} (h : f_X8_dug N a0 x1 x2 x3 x4 x5 x6 s = some q) : sj_C X m_X8_dug [sj_r (some a0), sj_i x1, sj_i x2, sj_i x3, sj_i x4, sj_i x5, sj_i x6] s (some (sj_i q.1), q.2) := by
  obtain ⟨g, V⟩ := s
  unfold f_X8_dug at h
  obtain ⟨ho, h1⟩ := e_ok_some h
  obtain ⟨q2, h2, rfl⟩ := sj_map_some h1
  exact cg_X8_dug ho h2
theorem dX8_deep_0 : decode cX8_deep 0 = .ok (.iload_n 3, 1) := by decide +kernel
theorem dX8_deep_1 : decode cX8_deep 1 = .ok (.iload 4, 2) := by decide +kernel
theorem dX8_deep_3 : decode cX8_deep 3 = .ok (.iload 5, 2) := by decide +kernel
theorem dX8_deep_5 : decode cX8_deep 5 = .ok (.invokestatic 158, 3) := by decide +kernel
theorem dX8_deep_8 : decode cX8_deep 8 = .ok (.ifCond .eq 21, 3) := by decide +kernel
theorem dX8_deep_11 : decode cX8_deep 11 = .ok (.iload_n 2, 1) := by decide +kernel
theorem dX8_deep_12 : decode cX8_deep 12 = .ok (.invokestatic 292, 3) := by decide +kernel
theorem dX8_deep_15 : decode cX8_deep 15 = .ok (.ifCond .eq 14, 3) := by decide +kernel
theorem dX8_deep_18 : decode cX8_deep 18 = .ok (.aload_n 0, 1) := by decide +kernel
theorem dX8_deep_19 : decode cX8_deep 19 = .ok (.getfield 12, 3) := by decide +kernel
theorem dX8_deep_22 : decode cX8_deep 22 = .ok (.iload_n 1, 1) := by decide +kernel
theorem dX8_deep_23 : decode cX8_deep 23 = .ok (.invokevirtual 78, 3) := by decide +kernel
theorem dX8_deep_26 : decode cX8_deep 26 = .ok (.ifCond .ne 5, 3) := by decide +kernel
theorem dX8_deep_29 : decode cX8_deep 29 = .ok (.iconst (-1), 1) := by decide +kernel
theorem dX8_deep_30 : decode cX8_deep 30 = .ok (.ireturn, 1) := by decide +kernel
theorem dX8_deep_31 : decode cX8_deep 31 = .ok (.iconst 5, 1) := by decide +kernel
theorem dX8_deep_32 : decode cX8_deep 32 = .ok (.aload_n 0, 1) := by decide +kernel
theorem dX8_deep_33 : decode cX8_deep 33 = .ok (.getfield 12, 3) := by decide +kernel
theorem dX8_deep_36 : decode cX8_deep 36 = .ok (.getfield 100, 3) := by decide +kernel
theorem dX8_deep_39 : decode cX8_deep 39 = .ok (.iload_n 1, 1) := by decide +kernel
theorem dX8_deep_40 : decode cX8_deep 40 = .ok (.iaload, 1) := by decide +kernel
theorem dX8_deep_41 : decode cX8_deep 41 = .ok (.aload_n 0, 1) := by decide +kernel
theorem dX8_deep_42 : decode cX8_deep 42 = .ok (.getfield 12, 3) := by decide +kernel
theorem dX8_deep_45 : decode cX8_deep 45 = .ok (.getfield 103, 3) := by decide +kernel
theorem dX8_deep_48 : decode cX8_deep 48 = .ok (.iload_n 1, 1) := by decide +kernel
theorem dX8_deep_49 : decode cX8_deep 49 = .ok (.iaload, 1) := by decide +kernel
theorem dX8_deep_50 : decode cX8_deep 50 = .ok (.isub, 1) := by decide +kernel
theorem dX8_deep_51 : decode cX8_deep 51 = .ok (.invokestatic 392, 3) := by decide +kernel
theorem dX8_deep_54 : decode cX8_deep 54 = .ok (.istore 7, 2) := by decide +kernel
theorem dX8_deep_56 : decode cX8_deep 56 = .ok (.aload_n 0, 1) := by decide +kernel
theorem dX8_deep_57 : decode cX8_deep 57 = .ok (.getfield 16, 3) := by decide +kernel
theorem dX8_deep_60 : decode cX8_deep 60 = .ok (.aload_n 0, 1) := by decide +kernel
theorem dX8_deep_61 : decode cX8_deep 61 = .ok (.getfield 12, 3) := by decide +kernel
theorem dX8_deep_64 : decode cX8_deep 64 = .ok (.invokevirtual 148, 3) := by decide +kernel
theorem dX8_deep_67 : decode cX8_deep 67 = .ok (.iconst (-1), 1) := by decide +kernel
theorem dX8_deep_68 : decode cX8_deep 68 = .ok (.istore 8, 2) := by decide +kernel
theorem dX8_deep_70 : decode cX8_deep 70 = .ok (.iconst 0, 1) := by decide +kernel
theorem dX8_deep_71 : decode cX8_deep 71 = .ok (.istore 9, 2) := by decide +kernel
theorem dX8_deep_73 : decode cX8_deep 73 = .ok (.iload 9, 2) := by decide +kernel
theorem dX8_deep_75 : decode cX8_deep 75 = .ok (.iload 7, 2) := by decide +kernel
theorem dX8_deep_77 : decode cX8_deep 77 = .ok (.if_icmp .gt 71, 3) := by decide +kernel
theorem dX8_deep_80 : decode cX8_deep 80 = .ok (.aload_n 0, 1) := by decide +kernel
theorem dX8_deep_81 : decode cX8_deep 81 = .ok (.getfield 16, 3) := by decide +kernel
theorem dX8_deep_84 : decode cX8_deep 84 = .ok (.getfield 100, 3) := by decide +kernel
theorem dX8_deep_87 : decode cX8_deep 87 = .ok (.iload_n 1, 1) := by decide +kernel
theorem dX8_deep_88 : decode cX8_deep 88 = .ok (.aload_n 0, 1) := by decide +kernel
theorem dX8_deep_89 : decode cX8_deep 89 = .ok (.getfield 12, 3) := by decide +kernel
theorem dX8_deep_92 : decode cX8_deep 92 = .ok (.getfield 100, 3) := by decide +kernel
theorem dX8_deep_95 : decode cX8_deep 95 = .ok (.iload_n 1, 1) := by decide +kernel
theorem dX8_deep_96 : decode cX8_deep 96 = .ok (.iaload, 1) := by decide +kernel
theorem dX8_deep_97 : decode cX8_deep 97 = .ok (.iload 9, 2) := by decide +kernel
theorem dX8_deep_99 : decode cX8_deep 99 = .ok (.isub, 1) := by decide +kernel
theorem dX8_deep_100 : decode cX8_deep 100 = .ok (.iastore, 1) := by decide +kernel
theorem dX8_deep_101 : decode cX8_deep 101 = .ok (.aload_n 0, 1) := by decide +kernel
theorem dX8_deep_102 : decode cX8_deep 102 = .ok (.getfield 60, 3) := by decide +kernel
theorem dX8_deep_105 : decode cX8_deep 105 = .ok (.aload_n 0, 1) := by decide +kernel
theorem dX8_deep_106 : decode cX8_deep 106 = .ok (.getfield 16, 3) := by decide +kernel
theorem dX8_deep_109 : decode cX8_deep 109 = .ok (.iload_n 3, 1) := by decide +kernel
theorem dX8_deep_110 : decode cX8_deep 110 = .ok (.iload 4, 2) := by decide +kernel
theorem dX8_deep_112 : decode cX8_deep 112 = .ok (.iload 5, 2) := by decide +kernel
theorem dX8_deep_114 : decode cX8_deep 114 = .ok (.bipush 8, 2) := by decide +kernel
theorem dX8_deep_116 : decode cX8_deep 116 = .ok (.iload 6, 2) := by decide +kernel
theorem dX8_deep_118 : decode cX8_deep 118 = .ok (.invokevirtual 373, 3) := by decide +kernel
theorem dX8_deep_121 : decode cX8_deep 121 = .ok (.ifCond .eq 17, 3) := by decide +kernel
theorem dX8_deep_124 : decode cX8_deep 124 = .ok (.aload_n 0, 1) := by decide +kernel
theorem dX8_deep_125 : decode cX8_deep 125 = .ok (.getfield 60, 3) := by decide +kernel
theorem dX8_deep_128 : decode cX8_deep 128 = .ok (.getfield 377, 3) := by decide +kernel
theorem dX8_deep_131 : decode cX8_deep 131 = .ok (.iload_n 2, 1) := by decide +kernel
theorem dX8_deep_132 : decode cX8_deep 132 = .ok (.if_icmp .ge 6, 3) := by decide +kernel
theorem dX8_deep_135 : decode cX8_deep 135 = .ok (.iload 8, 2) := by decide +kernel
theorem dX8_deep_137 : decode cX8_deep 137 = .ok (.ireturn, 1) := by decide +kernel
theorem dX8_deep_138 : decode cX8_deep 138 = .ok (.iload 9, 2) := by decide +kernel
theorem dX8_deep_140 : decode cX8_deep 140 = .ok (.istore 8, 2) := by decide +kernel
theorem dX8_deep_142 : decode cX8_deep 142 = .ok (.iinc 9 1, 3) := by decide +kernel
theorem dX8_deep_145 : decode cX8_deep 145 = .ok (.goto (-72), 3) := by decide +kernel
theorem dX8_deep_148 : decode cX8_deep 148 = .ok (.iload 8, 2) := by decide +kernel
theorem dX8_deep_150 : decode cX8_deep 150 = .ok (.ireturn, 1) := by decide +kernel
set_option maxHeartbeats 4000000 in
theorem st_X8_deep_138 {X : sj_X} {g : sj_G} {s0 : sj_Mem} {N : Nat} {q : Int × sj_VV} {k73 : Nat → Int → Int → Int → Int → Int → Int → Int → Int → Int → sj_VV → Option (Int × sj_VV)} (hk73 : ∀ (a0 : Nat) (x1 : Int) (x2 : Int) (x3 : Int) (x4 : Int) (x5 : Int) (x6 : Int) (x7 : Int) (x8 : Int) (x9 : Int) (V : sj_VV), OK8 g a0 → k73 a0 x1 x2 x3 x4 x5 x6 x7 x8 x9 V = some q → sj_T X m_X8_deep s0 (some (sj_i q.1), (g, q.2)) 73 [some (sj_r (some a0)), some (sj_i x1), some (sj_i x2), some (sj_i x3), some (sj_i x4), some (sj_i x5), some (sj_i x6), some (sj_i x7), some (sj_i x8), some (sj_i x9)] [] (g, V)) :
    ∀ (a0 : Nat) (x1 : Int) (x2 : Int) (x3 : Int) (x4 : Int) (x5 : Int) (x6 : Int) (x7 : Int) (x9 : Int) (V : sj_VV), OK8 g a0 → g_X8_deep_138 N k73 a0 x1 x2 x3 x4 x5 x6 x7 x9 V = some q → sj_T X m_X8_deep s0 (some (sj_i q.1), (g, q.2)) 138 [some (sj_r (some a0)), some (sj_i x1), some (sj_i x2), some (sj_i x3), some (sj_i x4), some (sj_i x5), some (sj_i x6), some (sj_i x7), none, some (sj_i x9)] [] (g, V) := by
  intro a0 x1 x2 x3 x4 x5 x6 x7 x9 V ha0 h
  unfold g_X8_deep_138 at h
  refine r_iload (pc := 138) dX8_deep_138 rfl ?_
  refine r_istore (ln := [some (sj_r (some a0)), some (sj_i x1), some (sj_i x2), some (sj_i x3), some (sj_i x4), some (sj_i x5), some (sj_i x6), some (sj_i x7), some (sj_i x9), some (sj_i x9)]) (pc := 140) dX8_deep_140 (Nat.le_of_ble_eq_true rfl) rfl ?_
  refine r_iinc (ln := fun w => [some (sj_r (some a0)), some (sj_i x1), some (sj_i x2), some (sj_i x3), some (sj_i x4), some (sj_i x5), some (sj_i x6), some (sj_i x7), some (sj_i x9), some (sj_i w)]) (pc := 142) h dX8_deep_142 rfl (Nat.le_of_ble_eq_true rfl) (fun _ => rfl) (fun v1 h => ?_)
  refine r_goto (pc := 145) (tgt := 73) dX8_deep_145 (by decide) ?_
  exact sj_weak (l2 := [some (sj_r (some a0)), some (sj_i x1), some (sj_i x2), some (sj_i x3), some (sj_i x4), some (sj_i x5), some (sj_i x6), some (sj_i x7), some (sj_i x9), some (sj_i v1)]) (⟨rfl, ⟨rfl, ⟨rfl, ⟨rfl, ⟨rfl, ⟨rfl, ⟨rfl, ⟨rfl, ⟨rfl, ⟨rfl, trivial⟩⟩⟩⟩⟩⟩⟩⟩⟩⟩) (hk73 a0 x1 x2 x3 x4 x5 x6 x7 x9 v1 V ha0 h)
set_option maxHeartbeats 4000000 in
theorem st_X8_deep_73_b {X : sj_X} {g : sj_G} {s0 : sj_Mem} {N : Nat} {q : Int × sj_VV} {k73 : Nat → Int → Int → Int → Int → Int → Int → Int → Int → Int → sj_VV → Option (Int × sj_VV)} (hk73 : ∀ (a0 : Nat) (x1 : Int) (x2 : Int) (x3 : Int) (x4 : Int) (x5 : Int) (x6 : Int) (x7 : Int) (x8 : Int) (x9 : Int) (V : sj_VV), OK8 g a0 → k73 a0 x1 x2 x3 x4 x5 x6 x7 x8 x9 V = some q → sj_T X m_X8_deep s0 (some (sj_i q.1), (g, q.2)) 73 [some (sj_r (some a0)), some (sj_i x1), some (sj_i x2), some (sj_i x3), some (sj_i x4), some (sj_i x5), some (sj_i x6), some (sj_i x7), some (sj_i x8), some (sj_i x9)] [] (g, V)) :
    ∀ (a0 : Nat) (x1 : Int) (x2 : Int) (x3 : Int) (x4 : Int) (x5 : Int) (x6 : Int) (x7 : Int) (x8 : Int) (x9 : Int) (V : sj_VV), OK8 g a0 → g_X8_deep_73_b N k73 a0 x1 x2 x3 x4 x5 x6 x7 x8 x9 V = some q → sj_T X m_X8_deep s0 (some (sj_i q.1), (g, q.2)) 73 [some (sj_r (some a0)), some (sj_i x1), some (sj_i x2), some (sj_i x3), some (sj_i x4), some (sj_i x5), some (sj_i x6), some (sj_i x7), some (sj_i x8), some (sj_i x9)] [] (g, V) := by
  intro a0 x1 x2 x3 x4 x5 x6 x7 x8 x9 V ha0 h
  unfold g_X8_deep_73_b at h
  refine r_iload (pc := 73) dX8_deep_73 rfl ?_
  refine r_iload (pc := 75) dX8_deep_75 rfl ?_
  refine r_icmp_gt (pc := 77) (tgt := 148) h dX8_deep_77 (by decide) (fun h => ?_) (fun h => ?_)
  · refine r_iload (pc := 148) dX8_deep_148 rfl ?_
    exact r_irets (pc := 150) h rfl dX8_deep_150
  · refine r_aload_n (pc := 80) dX8_deep_80 rfl rfl ?_
    refine r_gRs (b := a0 + 15) (pc := 81) dX8_deep_81 fw_X8_16 rfl (ok8 ha0) (ok8_1 ha0).1 ?_
    refine r_gRs (b := (a0 + 15) + 1) (pc := 84) dX8_deep_84 fw_X8_100 rfl (ok0 (ok8_1 ha0).2) (ok0_3 (ok8_1 ha0).2).1 ?_
    refine r_iload_n (pc := 87) dX8_deep_87 rfl rfl ?_
    refine r_aload_n (pc := 88) dX8_deep_88 rfl rfl ?_
    refine r_gRs (b := a0 + 1) (pc := 89) dX8_deep_89 fw_X8_12 rfl (ok8 ha0) (ok8_0 ha0).1 ?_
    refine r_gRs (b := (a0 + 1) + 1) (pc := 92) dX8_deep_92 fw_X8_100 rfl (ok0 (ok8_0 ha0).2) (ok0_3 (ok8_0 ha0).2).1 ?_
    refine r_iload_n (pc := 95) dX8_deep_95 rfl rfl ?_
    refine r_ialoads (pc := 96) h dX8_deep_96 (ok0_3 (ok8_0 ha0).2).2 (fun h => ?_)
    refine r_iload (pc := 97) dX8_deep_97 rfl ?_
    refine r_isub (pc := 99) dX8_deep_99 ?_
    refine r_iastores (pc := 100) h dX8_deep_100 (ok0_3 (ok8_1 ha0).2).2 (fun V1 h => ?_)
    refine r_aload_n (pc := 101) dX8_deep_101 rfl rfl ?_
    refine r_gRs (b := a0 + 63) (pc := 102) dX8_deep_102 fw_X8_60 rfl (ok8 ha0) (ok8_9 ha0).1 ?_
    refine r_aload_n (pc := 105) dX8_deep_105 rfl rfl ?_
    refine r_gRs (b := a0 + 15) (pc := 106) dX8_deep_106 fw_X8_16 rfl (ok8 ha0) (ok8_1 ha0).1 ?_
    refine r_iload_n (pc := 109) dX8_deep_109 rfl rfl ?_
    refine r_iload (pc := 110) dX8_deep_110 rfl ?_
    refine r_iload (pc := 112) dX8_deep_112 rfl ?_
    refine r_bipush (pc := 114) dX8_deep_114 ⟨by decide, by decide⟩ ?_
    refine r_iload (pc := 116) dX8_deep_116 rfl ?_
    refine r_callVs (pc := 118) (fun v => some (sj_i v)) (As := [sj_r (some (a0 + 15)), sj_i x3, sj_i x4, sj_i x5, sj_i 8, sj_i x6]) (rest := []) (b := (a0 + 63)) (ok3 (ok8_9 ha0).2) h dX8_deep_118 mw_X8_373 vw_X3_seek (fun _ _ hc => cg_X3_seek (ok8_9 ha0).2 (ok8_1 ha0).2 hc) rfl ⟨(Nat.le_of_ble_eq_true rfl), (Nat.le_of_ble_eq_true rfl)⟩ (Nat.le_of_ble_eq_true rfl) rfl (fun v3 V2 h => ?_)
    refine r_if_eq (pc := 121) (tgt := 138) h dX8_deep_121 (by decide) (fun h => ?_) (fun h => ?_)
    · exact sj_weak (l2 := [some (sj_r (some a0)), some (sj_i x1), some (sj_i x2), some (sj_i x3), some (sj_i x4), some (sj_i x5), some (sj_i x6), some (sj_i x7), none, some (sj_i x9)]) (⟨rfl, ⟨rfl, ⟨rfl, ⟨rfl, ⟨rfl, ⟨rfl, ⟨rfl, ⟨rfl, ⟨rfl, trivial⟩⟩⟩⟩⟩⟩⟩⟩⟩) (st_X8_deep_138 hk73 a0 x1 x2 x3 x4 x5 x6 x7 x9 V2 ha0 h)
    · refine r_aload_n (pc := 124) dX8_deep_124 rfl rfl ?_
      refine r_gRs (b := a0 + 63) (pc := 125) dX8_deep_125 fw_X8_60 rfl (ok8 ha0) (ok8_9 ha0).1 ?_
      refine r_gIs (pc := 128) dX8_deep_128 fw_X8_377 rfl (ok3 (ok8_9 ha0).2) ?_
      refine r_iload_n (pc := 131) dX8_deep_131 rfl rfl ?_
      refine r_icmp_ge (pc := 132) (tgt := 138) h dX8_deep_132 (by decide) (fun h => ?_) (fun h => ?_)
      · exact sj_weak (l2 := [some (sj_r (some a0)), some (sj_i x1), some (sj_i x2), some (sj_i x3), some (sj_i x4), some (sj_i x5), some (sj_i x6), some (sj_i x7), none, some (sj_i x9)]) (⟨rfl, ⟨rfl, ⟨rfl, ⟨rfl, ⟨rfl, ⟨rfl, ⟨rfl, ⟨rfl, ⟨rfl, trivial⟩⟩⟩⟩⟩⟩⟩⟩⟩) (st_X8_deep_138 hk73 a0 x1 x2 x3 x4 x5 x6 x7 x9 V2 ha0 h)
      · refine r_iload (pc := 135) dX8_deep_135 rfl ?_
        exact r_irets (pc := 137) h rfl dX8_deep_137
set_option maxHeartbeats 4000000 in
theorem st_X8_deep_73 {X : sj_X} {g : sj_G} {s0 : sj_Mem} {N : Nat} {q : Int × sj_VV} :
    ∀ (n : Nat) (a0 : Nat) (x1 : Int) (x2 : Int) (x3 : Int) (x4 : Int) (x5 : Int) (x6 : Int) (x7 : Int) (x8 : Int) (x9 : Int) (V : sj_VV), OK8 g a0 → g_X8_deep_73 N n a0 x1 x2 x3 x4 x5 x6 x7 x8 x9 V = some q → sj_T X m_X8_deep s0 (some (sj_i q.1), (g, q.2)) 73 [some (sj_r (some a0)), some (sj_i x1), some (sj_i x2), some (sj_i x3), some (sj_i x4), some (sj_i x5), some (sj_i x6), some (sj_i x7), some (sj_i x8), some (sj_i x9)] [] (g, V) := by
  intro n
  induction n with
  | zero => intro a0 x1 x2 x3 x4 x5 x6 x7 x8 x9 V ha0 h; exact nomatch h
  | succ n ih => intro a0 x1 x2 x3 x4 x5 x6 x7 x8 x9 V ha0 h; exact st_X8_deep_73_b (N := N) ih a0 x1 x2 x3 x4 x5 x6 x7 x8 x9 V ha0 h
set_option maxHeartbeats 4000000 in
theorem st_X8_deep_0 {X : sj_X} {g : sj_G} {s0 : sj_Mem} {N : Nat} {q : Int × sj_VV} :
    ∀ (a0 : Nat) (x1 : Int) (x2 : Int) (x3 : Int) (x4 : Int) (x5 : Int) (x6 : Int) (V : sj_VV), OK8 g a0 → g_X8_deep N a0 x1 x2 x3 x4 x5 x6 V = some q → sj_T X m_X8_deep s0 (some (sj_i q.1), (g, q.2)) 0 [some (sj_r (some a0)), some (sj_i x1), some (sj_i x2), some (sj_i x3), some (sj_i x4), some (sj_i x5), some (sj_i x6), none, none, none] [] (g, V) := by
  intro a0 x1 x2 x3 x4 x5 x6 V ha0 h
  unfold g_X8_deep at h
  refine r_iload_n (pc := 0) dX8_deep_0 rfl rfl ?_
  refine r_iload (pc := 1) dX8_deep_1 rfl ?_
  refine r_iload (pc := 3) dX8_deep_3 rfl ?_
  refine r_callSs (pc := 5) (fun v => some (sj_i v)) (As := [sj_i x3, sj_i x4, sj_i x5]) (rest := []) h dX8_deep_5 mw_X8_158 kw_600 (fun _ _ hc => cg_X8_isCircle  hc) rfl ⟨(Nat.le_of_ble_eq_true rfl), (Nat.le_of_ble_eq_true rfl)⟩ (Nat.le_of_ble_eq_true rfl) rfl (fun v2 V1 h => ?_)
  refine r_if_eq (pc := 8) (tgt := 29) h dX8_deep_8 (by decide) (fun h => ?_) (fun h => ?_)
  · refine r_iconst (pc := 29) dX8_deep_29 ?_
    exact r_irets (pc := 30) h rfl dX8_deep_30
  · refine r_iload_n (pc := 11) dX8_deep_11 rfl rfl ?_
    refine r_callSs (pc := 12) (fun v => some (sj_i v)) (As := [sj_i x2]) (rest := []) h dX8_deep_12 mw_X8_292 kw_879 (fun _ _ hc => cg_X8_isK  hc) rfl ⟨(Nat.le_of_ble_eq_true rfl), (Nat.le_of_ble_eq_true rfl)⟩ (Nat.le_of_ble_eq_true rfl) rfl (fun v4 V3 h => ?_)
    refine r_if_eq (pc := 15) (tgt := 29) h dX8_deep_15 (by decide) (fun h => ?_) (fun h => ?_)
    · refine r_iconst (pc := 29) dX8_deep_29 ?_
      exact r_irets (pc := 30) h rfl dX8_deep_30
    · refine r_aload_n (pc := 18) dX8_deep_18 rfl rfl ?_
      refine r_gRs (b := a0 + 1) (pc := 19) dX8_deep_19 fw_X8_12 rfl (ok8 ha0) (ok8_0 ha0).1 ?_
      refine r_iload_n (pc := 22) dX8_deep_22 rfl rfl ?_
      refine r_callVs (pc := 23) (fun v => some (sj_i v)) (As := [sj_i x1]) (rest := []) (b := (a0 + 1)) (ok0 (ok8_0 ha0).2) h dX8_deep_23 mw_X8_78 vw_X0_hasColumn (fun _ _ hc => cg_X0_hasColumn (ok8_0 ha0).2 hc) rfl ⟨(Nat.le_of_ble_eq_true rfl), (Nat.le_of_ble_eq_true rfl)⟩ (Nat.le_of_ble_eq_true rfl) rfl (fun v6 V5 h => ?_)
      refine r_if_ne (pc := 26) (tgt := 31) h dX8_deep_26 (by decide) (fun h => ?_) (fun h => ?_)
      · refine r_iconst (pc := 29) dX8_deep_29 ?_
        exact r_irets (pc := 30) h rfl dX8_deep_30
      · refine r_iconst (pc := 31) dX8_deep_31 ?_
        refine r_aload_n (pc := 32) dX8_deep_32 rfl rfl ?_
        refine r_gRs (b := a0 + 1) (pc := 33) dX8_deep_33 fw_X8_12 rfl (ok8 ha0) (ok8_0 ha0).1 ?_
        refine r_gRs (b := (a0 + 1) + 1) (pc := 36) dX8_deep_36 fw_X8_100 rfl (ok0 (ok8_0 ha0).2) (ok0_3 (ok8_0 ha0).2).1 ?_
        refine r_iload_n (pc := 39) dX8_deep_39 rfl rfl ?_
        refine r_ialoads (pc := 40) h dX8_deep_40 (ok0_3 (ok8_0 ha0).2).2 (fun h => ?_)
        refine r_aload_n (pc := 41) dX8_deep_41 rfl rfl ?_
        refine r_gRs (b := a0 + 1) (pc := 42) dX8_deep_42 fw_X8_12 rfl (ok8 ha0) (ok8_0 ha0).1 ?_
        refine r_gRs (b := (a0 + 1) + 2) (pc := 45) dX8_deep_45 fw_X8_103 rfl (ok0 (ok8_0 ha0).2) (ok0_4 (ok8_0 ha0).2).1 ?_
        refine r_iload_n (pc := 48) dX8_deep_48 rfl rfl ?_
        refine r_ialoads (pc := 49) h dX8_deep_49 (ok0_4 (ok8_0 ha0).2).2 (fun h => ?_)
        refine r_isub (pc := 50) dX8_deep_50 ?_
        refine r_mmin (pc := 51) h dX8_deep_51 mx_X8_392 (Nat.le_of_ble_eq_true rfl) (Nat.le_of_ble_eq_true rfl) (fun v7 h => ?_)
        refine r_istore (ln := [some (sj_r (some a0)), some (sj_i x1), some (sj_i x2), some (sj_i x3), some (sj_i x4), some (sj_i x5), some (sj_i x6), some (sj_i v7), none, none]) (pc := 54) dX8_deep_54 (Nat.le_of_ble_eq_true rfl) rfl ?_
        refine r_aload_n (pc := 56) dX8_deep_56 rfl rfl ?_
        refine r_gRs (b := a0 + 15) (pc := 57) dX8_deep_57 fw_X8_16 rfl (ok8 ha0) (ok8_1 ha0).1 ?_
        refine r_aload_n (pc := 60) dX8_deep_60 rfl rfl ?_
        refine r_gRs (b := a0 + 1) (pc := 61) dX8_deep_61 fw_X8_12 rfl (ok8 ha0) (ok8_0 ha0).1 ?_
        refine r_callVs (pc := 64) (fun _ => none) (As := [sj_r (some (a0 + 1))]) (rest := []) (b := (a0 + 15)) (ok0 (ok8_1 ha0).2) h dX8_deep_64 mw_X8_148 vw_X0_copy (fun _ _ hc => cg_X0_copy (ok8_1 ha0).2 (ok8_0 ha0).2 hc) rfl ⟨(Nat.le_of_ble_eq_true rfl), (Nat.le_of_ble_eq_true rfl)⟩ (Nat.le_of_ble_eq_true rfl) rfl (fun _u V8 h => ?_)
        refine r_iconst (pc := 67) dX8_deep_67 ?_
        refine r_istore (ln := [some (sj_r (some a0)), some (sj_i x1), some (sj_i x2), some (sj_i x3), some (sj_i x4), some (sj_i x5), some (sj_i x6), some (sj_i v7), some (sj_i ((-1))), none]) (pc := 68) dX8_deep_68 (Nat.le_of_ble_eq_true rfl) rfl ?_
        refine r_iconst (pc := 70) dX8_deep_70 ?_
        refine r_istore (ln := [some (sj_r (some a0)), some (sj_i x1), some (sj_i x2), some (sj_i x3), some (sj_i x4), some (sj_i x5), some (sj_i x6), some (sj_i v7), some (sj_i ((-1))), some (sj_i 0)]) (pc := 71) dX8_deep_71 (Nat.le_of_ble_eq_true rfl) rfl ?_
        exact sj_weak (l2 := [some (sj_r (some a0)), some (sj_i x1), some (sj_i x2), some (sj_i x3), some (sj_i x4), some (sj_i x5), some (sj_i x6), some (sj_i v7), some (sj_i ((-1))), some (sj_i 0)]) (⟨rfl, ⟨rfl, ⟨rfl, ⟨rfl, ⟨rfl, ⟨rfl, ⟨rfl, ⟨rfl, ⟨rfl, ⟨rfl, trivial⟩⟩⟩⟩⟩⟩⟩⟩⟩⟩) (st_X8_deep_73 N a0 x1 x2 x3 x4 x5 x6 v7 ((-1)) 0 V8 ha0 h)
set_option maxHeartbeats 4000000 in
theorem cg_X8_deep {X : sj_X} {g : sj_G} {N : Nat} {a0 : Nat} {x1 : Int} {x2 : Int} {x3 : Int} {x4 : Int} {x5 : Int} {x6 : Int} {V : sj_VV} {q : Int × sj_VV} (ha0 : OK8 g a0) (h : g_X8_deep N a0 x1 x2 x3 x4 x5 x6 V = some q) : sj_C X m_X8_deep [sj_r (some a0), sj_i x1, sj_i x2, sj_i x3, sj_i x4, sj_i x5, sj_i x6] (g, V) (some (sj_i q.1), (g, q.2)) :=
  sj_C_of (by decide +kernel) (Nat.le_of_ble_eq_true rfl) (lo := [some (sj_r (some a0)), some (sj_i x1), some (sj_i x2), some (sj_i x3), some (sj_i x4), some (sj_i x5), some (sj_i x6), none, none, none]) rfl (sj_weak (l2 := [some (sj_r (some a0)), some (sj_i x1), some (sj_i x2), some (sj_i x3), some (sj_i x4), some (sj_i x5), some (sj_i x6), none, none, none]) (⟨rfl, ⟨rfl, ⟨rfl, ⟨rfl, ⟨rfl, ⟨rfl, ⟨rfl, trivial⟩⟩⟩⟩⟩⟩⟩) (st_X8_deep_0 a0 x1 x2 x3 x4 x5 x6 V ha0 h))
set_option maxHeartbeats 4000000 in
theorem c_X8_deep {X : sj_X} {N : Nat} {a0 : Nat} {x1 : Int} {x2 : Int} {x3 : Int} {x4 : Int} {x5 : Int} {x6 : Int} {s : sj_Mem} {q : Int × sj_Mem} (h : f_X8_deep N a0 x1 x2 x3 x4 x5 x6 s = some q) : sj_C X m_X8_deep [sj_r (some a0), sj_i x1, sj_i x2, sj_i x3, sj_i x4, sj_i x5, sj_i x6] s (some (sj_i q.1), q.2) := by
  obtain ⟨g, V⟩ := s
  unfold f_X8_deep at h
  obtain ⟨ho, h1⟩ := e_ok_some h
  obtain ⟨q2, h2, rfl⟩ := sj_map_some h1
  exact cg_X8_deep ho h2
theorem dX8_scan_0 : decode cX8_scan 0 = .ok (.iload_n 1, 1) := by decide +kernel
theorem dX8_scan_1 : decode cX8_scan 1 = .ok (.iload_n 2, 1) := by decide +kernel
theorem dX8_scan_2 : decode cX8_scan 2 = .ok (.iload_n 3, 1) := by decide +kernel
theorem dX8_scan_3 : decode cX8_scan 3 = .ok (.invokestatic 158, 3) := by decide +kernel
theorem dX8_scan_6 : decode cX8_scan 6 = .ok (.ifCond .eq 35, 3) := by decide +kernel
theorem dX8_scan_9 : decode cX8_scan 9 = .ok (.iload 4, 2) := by decide +kernel
theorem dX8_scan_11 : decode cX8_scan 11 = .ok (.iconst 1, 1) := by decide +kernel
theorem dX8_scan_12 : decode cX8_scan 12 = .ok (.if_icmp .lt 29, 3) := by decide +kernel
theorem dX8_scan_15 : decode cX8_scan 15 = .ok (.iload 4, 2) := by decide +kernel
theorem dX8_scan_17 : decode cX8_scan 17 = .ok (.bipush 64, 2) := by decide +kernel
theorem dX8_scan_19 : decode cX8_scan 19 = .ok (.if_icmp .gt 22, 3) := by decide +kernel
theorem dX8_scan_22 : decode cX8_scan 22 = .ok (.iload 6, 2) := by decide +kernel
theorem dX8_scan_24 : decode cX8_scan 24 = .ok (.invokestatic 292, 3) := by decide +kernel
theorem dX8_scan_27 : decode cX8_scan 27 = .ok (.ifCond .eq 14, 3) := by decide +kernel
theorem dX8_scan_30 : decode cX8_scan 30 = .ok (.iload 7, 2) := by decide +kernel
theorem dX8_scan_32 : decode cX8_scan 32 = .ok (.ifCond .lt 9, 3) := by decide +kernel
theorem dX8_scan_35 : decode cX8_scan 35 = .ok (.iload 7, 2) := by decide +kernel
theorem dX8_scan_37 : decode cX8_scan 37 = .ok (.iconst 1, 1) := by decide +kernel
theorem dX8_scan_38 : decode cX8_scan 38 = .ok (.if_icmp .le 5, 3) := by decide +kernel
theorem dX8_scan_41 : decode cX8_scan 41 = .ok (.iconst (-1), 1) := by decide +kernel
theorem dX8_scan_42 : decode cX8_scan 42 = .ok (.ireturn, 1) := by decide +kernel
theorem dX8_scan_43 : decode cX8_scan 43 = .ok (.iconst 0, 1) := by decide +kernel
theorem dX8_scan_44 : decode cX8_scan 44 = .ok (.istore 8, 2) := by decide +kernel
theorem dX8_scan_46 : decode cX8_scan 46 = .ok (.iconst 0, 1) := by decide +kernel
theorem dX8_scan_47 : decode cX8_scan 47 = .ok (.istore 9, 2) := by decide +kernel
theorem dX8_scan_49 : decode cX8_scan 49 = .ok (.iconst 0, 1) := by decide +kernel
theorem dX8_scan_50 : decode cX8_scan 50 = .ok (.istore 10, 2) := by decide +kernel
theorem dX8_scan_52 : decode cX8_scan 52 = .ok (.iload 10, 2) := by decide +kernel
theorem dX8_scan_54 : decode cX8_scan 54 = .ok (.bipush 125, 2) := by decide +kernel
theorem dX8_scan_56 : decode cX8_scan 56 = .ok (.if_icmp .ge 90, 3) := by decide +kernel
theorem dX8_scan_59 : decode cX8_scan 59 = .ok (.aload_n 0, 1) := by decide +kernel
theorem dX8_scan_60 : decode cX8_scan 60 = .ok (.getfield 60, 3) := by decide +kernel
theorem dX8_scan_63 : decode cX8_scan 63 = .ok (.aload_n 0, 1) := by decide +kernel
theorem dX8_scan_64 : decode cX8_scan 64 = .ok (.getfield 12, 3) := by decide +kernel
theorem dX8_scan_67 : decode cX8_scan 67 = .ok (.iload_n 1, 1) := by decide +kernel
theorem dX8_scan_68 : decode cX8_scan 68 = .ok (.iload 10, 2) := by decide +kernel
theorem dX8_scan_70 : decode cX8_scan 70 = .ok (.bipush 25, 2) := by decide +kernel
theorem dX8_scan_72 : decode cX8_scan 72 = .ok (.idiv, 1) := by decide +kernel
theorem dX8_scan_73 : decode cX8_scan 73 = .ok (.iconst 2, 1) := by decide +kernel
theorem dX8_scan_74 : decode cX8_scan 74 = .ok (.isub, 1) := by decide +kernel
theorem dX8_scan_75 : decode cX8_scan 75 = .ok (.iload 4, 2) := by decide +kernel
theorem dX8_scan_77 : decode cX8_scan 77 = .ok (.imul, 1) := by decide +kernel
theorem dX8_scan_78 : decode cX8_scan 78 = .ok (.iadd, 1) := by decide +kernel
theorem dX8_scan_79 : decode cX8_scan 79 = .ok (.iload_n 2, 1) := by decide +kernel
theorem dX8_scan_80 : decode cX8_scan 80 = .ok (.iload 10, 2) := by decide +kernel
theorem dX8_scan_82 : decode cX8_scan 82 = .ok (.iconst 5, 1) := by decide +kernel
theorem dX8_scan_83 : decode cX8_scan 83 = .ok (.idiv, 1) := by decide +kernel
theorem dX8_scan_84 : decode cX8_scan 84 = .ok (.iconst 5, 1) := by decide +kernel
theorem dX8_scan_85 : decode cX8_scan 85 = .ok (.irem, 1) := by decide +kernel
theorem dX8_scan_86 : decode cX8_scan 86 = .ok (.iconst 2, 1) := by decide +kernel
theorem dX8_scan_87 : decode cX8_scan 87 = .ok (.isub, 1) := by decide +kernel
theorem dX8_scan_88 : decode cX8_scan 88 = .ok (.iload 4, 2) := by decide +kernel
theorem dX8_scan_90 : decode cX8_scan 90 = .ok (.imul, 1) := by decide +kernel
theorem dX8_scan_91 : decode cX8_scan 91 = .ok (.iadd, 1) := by decide +kernel
theorem dX8_scan_92 : decode cX8_scan 92 = .ok (.iload_n 3, 1) := by decide +kernel
theorem dX8_scan_93 : decode cX8_scan 93 = .ok (.iload 10, 2) := by decide +kernel
theorem dX8_scan_95 : decode cX8_scan 95 = .ok (.iconst 5, 1) := by decide +kernel
theorem dX8_scan_96 : decode cX8_scan 96 = .ok (.irem, 1) := by decide +kernel
theorem dX8_scan_97 : decode cX8_scan 97 = .ok (.iconst 2, 1) := by decide +kernel
theorem dX8_scan_98 : decode cX8_scan 98 = .ok (.isub, 1) := by decide +kernel
theorem dX8_scan_99 : decode cX8_scan 99 = .ok (.iload 4, 2) := by decide +kernel
theorem dX8_scan_101 : decode cX8_scan 101 = .ok (.imul, 1) := by decide +kernel
theorem dX8_scan_102 : decode cX8_scan 102 = .ok (.iadd, 1) := by decide +kernel
theorem dX8_scan_103 : decode cX8_scan 103 = .ok (.iload 5, 2) := by decide +kernel
theorem dX8_scan_105 : decode cX8_scan 105 = .ok (.iload 7, 2) := by decide +kernel
theorem dX8_scan_107 : decode cX8_scan 107 = .ok (.ifCond .ne 7, 3) := by decide +kernel
theorem dX8_scan_110 : decode cX8_scan 110 = .ok (.iconst 0, 1) := by decide +kernel
theorem dX8_scan_111 : decode cX8_scan 111 = .ok (.goto 5, 3) := by decide +kernel
theorem dX8_scan_114 : decode cX8_scan 114 = .ok (.iload 6, 2) := by decide +kernel
theorem dX8_scan_116 : decode cX8_scan 116 = .ok (.invokevirtual 369, 3) := by decide +kernel
theorem dX8_scan_119 : decode cX8_scan 119 = .ok (.istore 11, 2) := by decide +kernel
theorem dX8_scan_121 : decode cX8_scan 121 = .ok (.iload 11, 2) := by decide +kernel
theorem dX8_scan_123 : decode cX8_scan 123 = .ok (.iconst (-1), 1) := by decide +kernel
theorem dX8_scan_124 : decode cX8_scan 124 = .ok (.if_icmp .eq 16, 3) := by decide +kernel
theorem dX8_scan_127 : decode cX8_scan 127 = .ok (.iinc 8 1, 3) := by decide +kernel
theorem dX8_scan_130 : decode cX8_scan 130 = .ok (.iload 11, 2) := by decide +kernel
theorem dX8_scan_132 : decode cX8_scan 132 = .ok (.iload 6, 2) := by decide +kernel
theorem dX8_scan_134 : decode cX8_scan 134 = .ok (.if_icmp .ge 6, 3) := by decide +kernel
theorem dX8_scan_137 : decode cX8_scan 137 = .ok (.iinc 9 1, 3) := by decide +kernel
theorem dX8_scan_140 : decode cX8_scan 140 = .ok (.iinc 10 1, 3) := by decide +kernel
theorem dX8_scan_143 : decode cX8_scan 143 = .ok (.goto (-91), 3) := by decide +kernel
theorem dX8_scan_146 : decode cX8_scan 146 = .ok (.iload 7, 2) := by decide +kernel
theorem dX8_scan_148 : decode cX8_scan 148 = .ok (.ifCond .ne 8, 3) := by decide +kernel
theorem dX8_scan_151 : decode cX8_scan 151 = .ok (.iload 8, 2) := by decide +kernel
theorem dX8_scan_153 : decode cX8_scan 153 = .ok (.goto 5, 3) := by decide +kernel
theorem dX8_scan_156 : decode cX8_scan 156 = .ok (.iload 9, 2) := by decide +kernel
theorem dX8_scan_158 : decode cX8_scan 158 = .ok (.ireturn, 1) := by decide +kernel
set_option maxHeartbeats 4000000 in
theorem st_X8_scan_140 {X : sj_X} {g : sj_G} {s0 : sj_Mem} {N : Nat} {q : Int × sj_VV} {k52 : Nat → Int → Int → Int → Int → Int → Int → Int → Int → Int → Int → sj_VV → Option (Int × sj_VV)} (hk52 : ∀ (a0 : Nat) (x1 : Int) (x2 : Int) (x3 : Int) (x4 : Int) (x5 : Int) (x6 : Int) (x7 : Int) (x8 : Int) (x9 : Int) (x10 : Int) (V : sj_VV), OK8 g a0 → k52 a0 x1 x2 x3 x4 x5 x6 x7 x8 x9 x10 V = some q → sj_T X m_X8_scan s0 (some (sj_i q.1), (g, q.2)) 52 [some (sj_r (some a0)), some (sj_i x1), some (sj_i x2), some (sj_i x3), some (sj_i x4), some (sj_i x5), some (sj_i x6), some (sj_i x7), some (sj_i x8), some (sj_i x9), some (sj_i x10), none] [] (g, V)) :
    ∀ (a0 : Nat) (x1 : Int) (x2 : Int) (x3 : Int) (x4 : Int) (x5 : Int) (x6 : Int) (x7 : Int) (x8 : Int) (x9 : Int) (x10 : Int) (V : sj_VV), OK8 g a0 → g_X8_scan_140 N k52 a0 x1 x2 x3 x4 x5 x6 x7 x8 x9 x10 V = some q → sj_T X m_X8_scan s0 (some (sj_i q.1), (g, q.2)) 140 [some (sj_r (some a0)), some (sj_i x1), some (sj_i x2), some (sj_i x3), some (sj_i x4), some (sj_i x5), some (sj_i x6), some (sj_i x7), some (sj_i x8), some (sj_i x9), some (sj_i x10), none] [] (g, V) := by
  intro a0 x1 x2 x3 x4 x5 x6 x7 x8 x9 x10 V ha0 h
  unfold g_X8_scan_140 at h
  refine r_iinc (ln := fun w => [some (sj_r (some a0)), some (sj_i x1), some (sj_i x2), some (sj_i x3), some (sj_i x4), some (sj_i x5), some (sj_i x6), some (sj_i x7), some (sj_i x8), some (sj_i x9), some (sj_i w), none]) (pc := 140) h dX8_scan_140 rfl (Nat.le_of_ble_eq_true rfl) (fun _ => rfl) (fun v1 h => ?_)
  refine r_goto (pc := 143) (tgt := 52) dX8_scan_143 (by decide) ?_
  exact sj_weak (l2 := [some (sj_r (some a0)), some (sj_i x1), some (sj_i x2), some (sj_i x3), some (sj_i x4), some (sj_i x5), some (sj_i x6), some (sj_i x7), some (sj_i x8), some (sj_i x9), some (sj_i v1), none]) (⟨rfl, ⟨rfl, ⟨rfl, ⟨rfl, ⟨rfl, ⟨rfl, ⟨rfl, ⟨rfl, ⟨rfl, ⟨rfl, ⟨rfl, trivial⟩⟩⟩⟩⟩⟩⟩⟩⟩⟩⟩) (hk52 a0 x1 x2 x3 x4 x5 x6 x7 x8 x9 v1 V ha0 h)
set_option maxHeartbeats 4000000 in
theorem st_X8_scan_116 {X : sj_X} {g : sj_G} {s0 : sj_Mem} {N : Nat} {q : Int × sj_VV} {k52 : Nat → Int → Int → Int → Int → Int → Int → Int → Int → Int → Int → sj_VV → Option (Int × sj_VV)} (hk52 : ∀ (a0 : Nat) (x1 : Int) (x2 : Int) (x3 : Int) (x4 : Int) (x5 : Int) (x6 : Int) (x7 : Int) (x8 : Int) (x9 : Int) (x10 : Int) (V : sj_VV), OK8 g a0 → k52 a0 x1 x2 x3 x4 x5 x6 x7 x8 x9 x10 V = some q → sj_T X m_X8_scan s0 (some (sj_i q.1), (g, q.2)) 52 [some (sj_r (some a0)), some (sj_i x1), some (sj_i x2), some (sj_i x3), some (sj_i x4), some (sj_i x5), some (sj_i x6), some (sj_i x7), some (sj_i x8), some (sj_i x9), some (sj_i x10), none] [] (g, V)) :
    ∀ (a0 : Nat) (x1 : Int) (x2 : Int) (x3 : Int) (x4 : Int) (x5 : Int) (x6 : Int) (x7 : Int) (x8 : Int) (x9 : Int) (x10 : Int) (y0 : Int) (y1 : Int) (y2 : Int) (y3 : Int) (y4 : Int) (y5 : Nat) (y6 : Nat) (V : sj_VV), OK8 g a0 → OK0 g y5 → OK3 g y6 → g_X8_scan_116 N k52 a0 x1 x2 x3 x4 x5 x6 x7 x8 x9 x10 y0 y1 y2 y3 y4 y5 y6 V = some q → sj_T X m_X8_scan s0 (some (sj_i q.1), (g, q.2)) 116 [some (sj_r (some a0)), some (sj_i x1), some (sj_i x2), some (sj_i x3), some (sj_i x4), some (sj_i x5), some (sj_i x6), some (sj_i x7), some (sj_i x8), some (sj_i x9), some (sj_i x10), none] [(sj_i y0), (sj_i y1), (sj_i y2), (sj_i y3), (sj_i y4), (sj_r (some y5)), (sj_r (some y6))] (g, V) := by
  intro a0 x1 x2 x3 x4 x5 x6 x7 x8 x9 x10 y0 y1 y2 y3 y4 y5 y6 V ha0 hy5 hy6 h
  unfold g_X8_scan_116 at h
  refine r_callVs (pc := 116) (fun v => some (sj_i v)) (As := [sj_r (some y5), sj_i y4, sj_i y3, sj_i y2, sj_i y1, sj_i y0]) (rest := []) (b := y6) (ok3 hy6) h dX8_scan_116 mw_X8_369 vw_X3_ask (fun _ _ hc => cg_X3_ask hy6 hy5 hc) rfl ⟨(Nat.le_of_ble_eq_true rfl), (Nat.le_of_ble_eq_true rfl)⟩ (Nat.le_of_ble_eq_true rfl) rfl (fun v2 V1 h => ?_)
  refine r_istore (ln := [some (sj_r (some a0)), some (sj_i x1), some (sj_i x2), some (sj_i x3), some (sj_i x4), some (sj_i x5), some (sj_i x6), some (sj_i x7), some (sj_i x8), some (sj_i x9), some (sj_i x10), some (sj_i v2)]) (pc := 119) dX8_scan_119 (Nat.le_of_ble_eq_true rfl) rfl ?_
  refine r_iload (pc := 121) dX8_scan_121 rfl ?_
  refine r_iconst (pc := 123) dX8_scan_123 ?_
  refine r_icmp_eq (pc := 124) (tgt := 140) h dX8_scan_124 (by decide) (fun h => ?_) (fun h => ?_)
  · exact sj_weak (l2 := [some (sj_r (some a0)), some (sj_i x1), some (sj_i x2), some (sj_i x3), some (sj_i x4), some (sj_i x5), some (sj_i x6), some (sj_i x7), some (sj_i x8), some (sj_i x9), some (sj_i x10), none]) (⟨rfl, ⟨rfl, ⟨rfl, ⟨rfl, ⟨rfl, ⟨rfl, ⟨rfl, ⟨rfl, ⟨rfl, ⟨rfl, ⟨rfl, trivial⟩⟩⟩⟩⟩⟩⟩⟩⟩⟩⟩) (st_X8_scan_140 hk52 a0 x1 x2 x3 x4 x5 x6 x7 x8 x9 x10 V1 ha0 h)
  · refine r_iinc (ln := fun w => [some (sj_r (some a0)), some (sj_i x1), some (sj_i x2), some (sj_i x3), some (sj_i x4), some (sj_i x5), some (sj_i x6), some (sj_i x7), some (sj_i w), some (sj_i x9), some (sj_i x10), some (sj_i v2)]) (pc := 127) h dX8_scan_127 rfl (Nat.le_of_ble_eq_true rfl) (fun _ => rfl) (fun v3 h => ?_)
    refine r_iload (pc := 130) dX8_scan_130 rfl ?_
    refine r_iload (pc := 132) dX8_scan_132 rfl ?_
    refine r_icmp_ge (pc := 134) (tgt := 140) h dX8_scan_134 (by decide) (fun h => ?_) (fun h => ?_)
    · exact sj_weak (l2 := [some (sj_r (some a0)), some (sj_i x1), some (sj_i x2), some (sj_i x3), some (sj_i x4), some (sj_i x5), some (sj_i x6), some (sj_i x7), some (sj_i v3), some (sj_i x9), some (sj_i x10), none]) (⟨rfl, ⟨rfl, ⟨rfl, ⟨rfl, ⟨rfl, ⟨rfl, ⟨rfl, ⟨rfl, ⟨rfl, ⟨rfl, ⟨rfl, trivial⟩⟩⟩⟩⟩⟩⟩⟩⟩⟩⟩) (st_X8_scan_140 hk52 a0 x1 x2 x3 x4 x5 x6 x7 v3 x9 x10 V1 ha0 h)
    · refine r_iinc (ln := fun w => [some (sj_r (some a0)), some (sj_i x1), some (sj_i x2), some (sj_i x3), some (sj_i x4), some (sj_i x5), some (sj_i x6), some (sj_i x7), some (sj_i v3), some (sj_i w), some (sj_i x10), some (sj_i v2)]) (pc := 137) h dX8_scan_137 rfl (Nat.le_of_ble_eq_true rfl) (fun _ => rfl) (fun v4 h => ?_)
      exact sj_weak (l2 := [some (sj_r (some a0)), some (sj_i x1), some (sj_i x2), some (sj_i x3), some (sj_i x4), some (sj_i x5), some (sj_i x6), some (sj_i x7), some (sj_i v3), some (sj_i v4), some (sj_i x10), none]) (⟨rfl, ⟨rfl, ⟨rfl, ⟨rfl, ⟨rfl, ⟨rfl, ⟨rfl, ⟨rfl, ⟨rfl, ⟨rfl, ⟨rfl, trivial⟩⟩⟩⟩⟩⟩⟩⟩⟩⟩⟩) (st_X8_scan_140 hk52 a0 x1 x2 x3 x4 x5 x6 x7 v3 v4 x10 V1 ha0 h)
set_option maxHeartbeats 4000000 in
theorem st_X8_scan_52_b {X : sj_X} {g : sj_G} {s0 : sj_Mem} {N : Nat} {q : Int × sj_VV} {k52 : Nat → Int → Int → Int → Int → Int → Int → Int → Int → Int → Int → sj_VV → Option (Int × sj_VV)} (hk52 : ∀ (a0 : Nat) (x1 : Int) (x2 : Int) (x3 : Int) (x4 : Int) (x5 : Int) (x6 : Int) (x7 : Int) (x8 : Int) (x9 : Int) (x10 : Int) (V : sj_VV), OK8 g a0 → k52 a0 x1 x2 x3 x4 x5 x6 x7 x8 x9 x10 V = some q → sj_T X m_X8_scan s0 (some (sj_i q.1), (g, q.2)) 52 [some (sj_r (some a0)), some (sj_i x1), some (sj_i x2), some (sj_i x3), some (sj_i x4), some (sj_i x5), some (sj_i x6), some (sj_i x7), some (sj_i x8), some (sj_i x9), some (sj_i x10), none] [] (g, V)) :
    ∀ (a0 : Nat) (x1 : Int) (x2 : Int) (x3 : Int) (x4 : Int) (x5 : Int) (x6 : Int) (x7 : Int) (x8 : Int) (x9 : Int) (x10 : Int) (V : sj_VV), OK8 g a0 → g_X8_scan_52_b N k52 a0 x1 x2 x3 x4 x5 x6 x7 x8 x9 x10 V = some q → sj_T X m_X8_scan s0 (some (sj_i q.1), (g, q.2)) 52 [some (sj_r (some a0)), some (sj_i x1), some (sj_i x2), some (sj_i x3), some (sj_i x4), some (sj_i x5), some (sj_i x6), some (sj_i x7), some (sj_i x8), some (sj_i x9), some (sj_i x10), none] [] (g, V) := by
  intro a0 x1 x2 x3 x4 x5 x6 x7 x8 x9 x10 V ha0 h
  unfold g_X8_scan_52_b at h
  refine r_iload (pc := 52) dX8_scan_52 rfl ?_
  refine r_bipush (pc := 54) dX8_scan_54 ⟨by decide, by decide⟩ ?_
  refine r_icmp_ge (pc := 56) (tgt := 146) h dX8_scan_56 (by decide) (fun h => ?_) (fun h => ?_)
  · refine r_iload (pc := 146) dX8_scan_146 rfl ?_
    refine r_if_ne (pc := 148) (tgt := 156) h dX8_scan_148 (by decide) (fun h => ?_) (fun h => ?_)
    · refine r_iload (pc := 151) dX8_scan_151 rfl ?_
      refine r_goto (pc := 153) (tgt := 158) dX8_scan_153 (by decide) ?_
      exact r_irets (pc := 158) h rfl dX8_scan_158
    · refine r_iload (pc := 156) dX8_scan_156 rfl ?_
      exact r_irets (pc := 158) h rfl dX8_scan_158
  · refine r_aload_n (pc := 59) dX8_scan_59 rfl rfl ?_
    refine r_gRs (b := a0 + 63) (pc := 60) dX8_scan_60 fw_X8_60 rfl (ok8 ha0) (ok8_9 ha0).1 ?_
    refine r_aload_n (pc := 63) dX8_scan_63 rfl rfl ?_
    refine r_gRs (b := a0 + 1) (pc := 64) dX8_scan_64 fw_X8_12 rfl (ok8 ha0) (ok8_0 ha0).1 ?_
    refine r_iload_n (pc := 67) dX8_scan_67 rfl rfl ?_
    refine r_iload (pc := 68) dX8_scan_68 rfl ?_
    refine r_bipush (pc := 70) dX8_scan_70 ⟨by decide, by decide⟩ ?_
    refine r_idiv (pc := 72) h dX8_scan_72 (fun v1 h => ?_)
    refine r_iconst (pc := 73) dX8_scan_73 ?_
    refine r_isub (pc := 74) dX8_scan_74 ?_
    refine r_iload (pc := 75) dX8_scan_75 rfl ?_
    refine r_imul (pc := 77) dX8_scan_77 ?_
    refine r_iadd (pc := 78) dX8_scan_78 ?_
    refine r_iload_n (pc := 79) dX8_scan_79 rfl rfl ?_
    refine r_iload (pc := 80) dX8_scan_80 rfl ?_
    refine r_iconst (pc := 82) dX8_scan_82 ?_
    refine r_idiv (pc := 83) h dX8_scan_83 (fun v2 h => ?_)
    refine r_iconst (pc := 84) dX8_scan_84 ?_
    refine r_irem (pc := 85) h dX8_scan_85 (fun v3 h => ?_)
    refine r_iconst (pc := 86) dX8_scan_86 ?_
    refine r_isub (pc := 87) dX8_scan_87 ?_
    refine r_iload (pc := 88) dX8_scan_88 rfl ?_
    refine r_imul (pc := 90) dX8_scan_90 ?_
    refine r_iadd (pc := 91) dX8_scan_91 ?_
    refine r_iload_n (pc := 92) dX8_scan_92 rfl rfl ?_
    refine r_iload (pc := 93) dX8_scan_93 rfl ?_
    refine r_iconst (pc := 95) dX8_scan_95 ?_
    refine r_irem (pc := 96) h dX8_scan_96 (fun v4 h => ?_)
    refine r_iconst (pc := 97) dX8_scan_97 ?_
    refine r_isub (pc := 98) dX8_scan_98 ?_
    refine r_iload (pc := 99) dX8_scan_99 rfl ?_
    refine r_imul (pc := 101) dX8_scan_101 ?_
    refine r_iadd (pc := 102) dX8_scan_102 ?_
    refine r_iload (pc := 103) dX8_scan_103 rfl ?_
    refine r_iload (pc := 105) dX8_scan_105 rfl ?_
    refine r_if_ne (pc := 107) (tgt := 114) h dX8_scan_107 (by decide) (fun h => ?_) (fun h => ?_)
    · refine r_iconst (pc := 110) dX8_scan_110 ?_
      refine r_goto (pc := 111) (tgt := 116) dX8_scan_111 (by decide) ?_
      exact sj_weak (l2 := [some (sj_r (some a0)), some (sj_i x1), some (sj_i x2), some (sj_i x3), some (sj_i x4), some (sj_i x5), some (sj_i x6), some (sj_i x7), some (sj_i x8), some (sj_i x9), some (sj_i x10), none]) (⟨rfl, ⟨rfl, ⟨rfl, ⟨rfl, ⟨rfl, ⟨rfl, ⟨rfl, ⟨rfl, ⟨rfl, ⟨rfl, ⟨rfl, trivial⟩⟩⟩⟩⟩⟩⟩⟩⟩⟩⟩) (st_X8_scan_116 hk52 a0 x1 x2 x3 x4 x5 x6 x7 x8 x9 x10 0 x5 (x3 + ((v4 - 2) * x4)) (x2 + ((v3 - 2) * x4)) (x1 + ((v1 - 2) * x4)) (a0 + 1) (a0 + 63) V ha0 (ok8_0 ha0).2 (ok8_9 ha0).2 h)
    · refine r_iload (pc := 114) dX8_scan_114 rfl ?_
      exact sj_weak (l2 := [some (sj_r (some a0)), some (sj_i x1), some (sj_i x2), some (sj_i x3), some (sj_i x4), some (sj_i x5), some (sj_i x6), some (sj_i x7), some (sj_i x8), some (sj_i x9), some (sj_i x10), none]) (⟨rfl, ⟨rfl, ⟨rfl, ⟨rfl, ⟨rfl, ⟨rfl, ⟨rfl, ⟨rfl, ⟨rfl, ⟨rfl, ⟨rfl, trivial⟩⟩⟩⟩⟩⟩⟩⟩⟩⟩⟩) (st_X8_scan_116 hk52 a0 x1 x2 x3 x4 x5 x6 x7 x8 x9 x10 x6 x5 (x3 + ((v4 - 2) * x4)) (x2 + ((v3 - 2) * x4)) (x1 + ((v1 - 2) * x4)) (a0 + 1) (a0 + 63) V ha0 (ok8_0 ha0).2 (ok8_9 ha0).2 h)
set_option maxHeartbeats 4000000 in
theorem st_X8_scan_52 {X : sj_X} {g : sj_G} {s0 : sj_Mem} {N : Nat} {q : Int × sj_VV} :
    ∀ (n : Nat) (a0 : Nat) (x1 : Int) (x2 : Int) (x3 : Int) (x4 : Int) (x5 : Int) (x6 : Int) (x7 : Int) (x8 : Int) (x9 : Int) (x10 : Int) (V : sj_VV), OK8 g a0 → g_X8_scan_52 N n a0 x1 x2 x3 x4 x5 x6 x7 x8 x9 x10 V = some q → sj_T X m_X8_scan s0 (some (sj_i q.1), (g, q.2)) 52 [some (sj_r (some a0)), some (sj_i x1), some (sj_i x2), some (sj_i x3), some (sj_i x4), some (sj_i x5), some (sj_i x6), some (sj_i x7), some (sj_i x8), some (sj_i x9), some (sj_i x10), none] [] (g, V) := by
  intro n
  induction n with
  | zero => intro a0 x1 x2 x3 x4 x5 x6 x7 x8 x9 x10 V ha0 h; exact nomatch h
  | succ n ih => intro a0 x1 x2 x3 x4 x5 x6 x7 x8 x9 x10 V ha0 h; exact st_X8_scan_52_b (N := N) ih a0 x1 x2 x3 x4 x5 x6 x7 x8 x9 x10 V ha0 h
set_option maxHeartbeats 4000000 in
theorem st_X8_scan_0 {X : sj_X} {g : sj_G} {s0 : sj_Mem} {N : Nat} {q : Int × sj_VV} :
    ∀ (a0 : Nat) (x1 : Int) (x2 : Int) (x3 : Int) (x4 : Int) (x5 : Int) (x6 : Int) (x7 : Int) (V : sj_VV), OK8 g a0 → g_X8_scan N a0 x1 x2 x3 x4 x5 x6 x7 V = some q → sj_T X m_X8_scan s0 (some (sj_i q.1), (g, q.2)) 0 [some (sj_r (some a0)), some (sj_i x1), some (sj_i x2), some (sj_i x3), some (sj_i x4), some (sj_i x5), some (sj_i x6), some (sj_i x7), none, none, none, none] [] (g, V) := by
  intro a0 x1 x2 x3 x4 x5 x6 x7 V ha0 h
  unfold g_X8_scan at h
  refine r_iload_n (pc := 0) dX8_scan_0 rfl rfl ?_
  refine r_iload_n (pc := 1) dX8_scan_1 rfl rfl ?_
  refine r_iload_n (pc := 2) dX8_scan_2 rfl rfl ?_
  refine r_callSs (pc := 3) (fun v => some (sj_i v)) (As := [sj_i x1, sj_i x2, sj_i x3]) (rest := []) h dX8_scan_3 mw_X8_158 kw_600 (fun _ _ hc => cg_X8_isCircle  hc) rfl ⟨(Nat.le_of_ble_eq_true rfl), (Nat.le_of_ble_eq_true rfl)⟩ (Nat.le_of_ble_eq_true rfl) rfl (fun v2 V1 h => ?_)
  refine r_if_eq (pc := 6) (tgt := 41) h dX8_scan_6 (by decide) (fun h => ?_) (fun h => ?_)
  · refine r_iconst (pc := 41) dX8_scan_41 ?_
    exact r_irets (pc := 42) h rfl dX8_scan_42
  · refine r_iload (pc := 9) dX8_scan_9 rfl ?_
    refine r_iconst (pc := 11) dX8_scan_11 ?_
    refine r_icmp_lt (pc := 12) (tgt := 41) h dX8_scan_12 (by decide) (fun h => ?_) (fun h => ?_)
    · refine r_iconst (pc := 41) dX8_scan_41 ?_
      exact r_irets (pc := 42) h rfl dX8_scan_42
    · refine r_iload (pc := 15) dX8_scan_15 rfl ?_
      refine r_bipush (pc := 17) dX8_scan_17 ⟨by decide, by decide⟩ ?_
      refine r_icmp_gt (pc := 19) (tgt := 41) h dX8_scan_19 (by decide) (fun h => ?_) (fun h => ?_)
      · refine r_iconst (pc := 41) dX8_scan_41 ?_
        exact r_irets (pc := 42) h rfl dX8_scan_42
      · refine r_iload (pc := 22) dX8_scan_22 rfl ?_
        refine r_callSs (pc := 24) (fun v => some (sj_i v)) (As := [sj_i x6]) (rest := []) h dX8_scan_24 mw_X8_292 kw_879 (fun _ _ hc => cg_X8_isK  hc) rfl ⟨(Nat.le_of_ble_eq_true rfl), (Nat.le_of_ble_eq_true rfl)⟩ (Nat.le_of_ble_eq_true rfl) rfl (fun v4 V3 h => ?_)
        refine r_if_eq (pc := 27) (tgt := 41) h dX8_scan_27 (by decide) (fun h => ?_) (fun h => ?_)
        · refine r_iconst (pc := 41) dX8_scan_41 ?_
          exact r_irets (pc := 42) h rfl dX8_scan_42
        · refine r_iload (pc := 30) dX8_scan_30 rfl ?_
          refine r_if_lt (pc := 32) (tgt := 41) h dX8_scan_32 (by decide) (fun h => ?_) (fun h => ?_)
          · refine r_iconst (pc := 41) dX8_scan_41 ?_
            exact r_irets (pc := 42) h rfl dX8_scan_42
          · refine r_iload (pc := 35) dX8_scan_35 rfl ?_
            refine r_iconst (pc := 37) dX8_scan_37 ?_
            refine r_icmp_le (pc := 38) (tgt := 43) h dX8_scan_38 (by decide) (fun h => ?_) (fun h => ?_)
            · refine r_iconst (pc := 43) dX8_scan_43 ?_
              refine r_istore (ln := [some (sj_r (some a0)), some (sj_i x1), some (sj_i x2), some (sj_i x3), some (sj_i x4), some (sj_i x5), some (sj_i x6), some (sj_i x7), some (sj_i 0), none, none, none]) (pc := 44) dX8_scan_44 (Nat.le_of_ble_eq_true rfl) rfl ?_
              refine r_iconst (pc := 46) dX8_scan_46 ?_
              refine r_istore (ln := [some (sj_r (some a0)), some (sj_i x1), some (sj_i x2), some (sj_i x3), some (sj_i x4), some (sj_i x5), some (sj_i x6), some (sj_i x7), some (sj_i 0), some (sj_i 0), none, none]) (pc := 47) dX8_scan_47 (Nat.le_of_ble_eq_true rfl) rfl ?_
              refine r_iconst (pc := 49) dX8_scan_49 ?_
              refine r_istore (ln := [some (sj_r (some a0)), some (sj_i x1), some (sj_i x2), some (sj_i x3), some (sj_i x4), some (sj_i x5), some (sj_i x6), some (sj_i x7), some (sj_i 0), some (sj_i 0), some (sj_i 0), none]) (pc := 50) dX8_scan_50 (Nat.le_of_ble_eq_true rfl) rfl ?_
              exact sj_weak (l2 := [some (sj_r (some a0)), some (sj_i x1), some (sj_i x2), some (sj_i x3), some (sj_i x4), some (sj_i x5), some (sj_i x6), some (sj_i x7), some (sj_i 0), some (sj_i 0), some (sj_i 0), none]) (⟨rfl, ⟨rfl, ⟨rfl, ⟨rfl, ⟨rfl, ⟨rfl, ⟨rfl, ⟨rfl, ⟨rfl, ⟨rfl, ⟨rfl, trivial⟩⟩⟩⟩⟩⟩⟩⟩⟩⟩⟩) (st_X8_scan_52 N a0 x1 x2 x3 x4 x5 x6 x7 0 0 0 V3 ha0 h)
            · refine r_iconst (pc := 41) dX8_scan_41 ?_
              exact r_irets (pc := 42) h rfl dX8_scan_42
set_option maxHeartbeats 4000000 in
theorem cg_X8_scan {X : sj_X} {g : sj_G} {N : Nat} {a0 : Nat} {x1 : Int} {x2 : Int} {x3 : Int} {x4 : Int} {x5 : Int} {x6 : Int} {x7 : Int} {V : sj_VV} {q : Int × sj_VV} (ha0 : OK8 g a0) (h : g_X8_scan N a0 x1 x2 x3 x4 x5 x6 x7 V = some q) : sj_C X m_X8_scan [sj_r (some a0), sj_i x1, sj_i x2, sj_i x3, sj_i x4, sj_i x5, sj_i x6, sj_i x7] (g, V) (some (sj_i q.1), (g, q.2)) :=
  sj_C_of (by decide +kernel) (Nat.le_of_ble_eq_true rfl) (lo := [some (sj_r (some a0)), some (sj_i x1), some (sj_i x2), some (sj_i x3), some (sj_i x4), some (sj_i x5), some (sj_i x6), some (sj_i x7), none, none, none, none]) rfl (sj_weak (l2 := [some (sj_r (some a0)), some (sj_i x1), some (sj_i x2), some (sj_i x3), some (sj_i x4), some (sj_i x5), some (sj_i x6), some (sj_i x7), none, none, none, none]) (⟨rfl, ⟨rfl, ⟨rfl, ⟨rfl, ⟨rfl, ⟨rfl, ⟨rfl, ⟨rfl, trivial⟩⟩⟩⟩⟩⟩⟩⟩) (st_X8_scan_0 a0 x1 x2 x3 x4 x5 x6 x7 V ha0 h))
set_option maxHeartbeats 4000000 in
theorem c_X8_scan {X : sj_X} {N : Nat} {a0 : Nat} {x1 : Int} {x2 : Int} {x3 : Int} {x4 : Int} {x5 : Int} {x6 : Int} {x7 : Int} {s : sj_Mem} {q : Int × sj_Mem} (h : f_X8_scan N a0 x1 x2 x3 x4 x5 x6 x7 s = some q) : sj_C X m_X8_scan [sj_r (some a0), sj_i x1, sj_i x2, sj_i x3, sj_i x4, sj_i x5, sj_i x6, sj_i x7] s (some (sj_i q.1), q.2) := by
  obtain ⟨g, V⟩ := s
  unfold f_X8_scan at h
  obtain ⟨ho, h1⟩ := e_ok_some h
  obtain ⟨q2, h2, rfl⟩ := sj_map_some h1
  exact cg_X8_scan ho h2
theorem dX8_state_0 : decode cX8_state 0 = .ok (.aload_n 0, 1) := by decide +kernel
theorem dX8_state_1 : decode cX8_state 1 = .ok (.getfield 25, 3) := by decide +kernel
theorem dX8_state_4 : decode cX8_state 4 = .ok (.getfield 256, 3) := by decide +kernel
theorem dX8_state_7 : decode cX8_state 7 = .ok (.istore_n 2, 1) := by decide +kernel
theorem dX8_state_8 : decode cX8_state 8 = .ok (.aload_n 0, 1) := by decide +kernel
theorem dX8_state_9 : decode cX8_state 9 = .ok (.getfield 25, 3) := by decide +kernel
theorem dX8_state_12 : decode cX8_state 12 = .ok (.iload_n 1, 1) := by decide +kernel
theorem dX8_state_13 : decode cX8_state 13 = .ok (.putfield 256, 3) := by decide +kernel
theorem dX8_state_16 : decode cX8_state 16 = .ok (.iload_n 2, 1) := by decide +kernel
theorem dX8_state_17 : decode cX8_state 17 = .ok (.ireturn, 1) := by decide +kernel
set_option maxHeartbeats 4000000 in
theorem st_X8_state_0 {X : sj_X} {g : sj_G} {s0 : sj_Mem} {N : Nat} {q : Int × sj_VV} :
    ∀ (a0 : Nat) (x1 : Int) (V : sj_VV), OK8 g a0 → g_X8_state N a0 x1 V = some q → sj_T X m_X8_state s0 (some (sj_i q.1), (g, q.2)) 0 [some (sj_r (some a0)), some (sj_i x1), none] [] (g, V) := by
  intro a0 x1 V ha0 h
  unfold g_X8_state at h
  refine r_aload_n (pc := 0) dX8_state_0 rfl rfl ?_
  refine r_gRs (b := a0 + 43) (pc := 1) dX8_state_1 fw_X8_25 rfl (ok8 ha0) (ok8_3 ha0).1 ?_
  refine r_gIs (pc := 4) dX8_state_4 fw_X8_256 rfl (ok1 (ok8_3 ha0).2) ?_
  refine r_istore_nL (ln := fun w => [some (sj_r (some a0)), some (sj_i x1), some (sj_i w)]) (pc := 7) h dX8_state_7 rfl (Nat.le_of_ble_eq_true rfl) (fun _ => rfl) (fun v1 h => ?_)
  refine r_aload_n (pc := 8) dX8_state_8 rfl rfl ?_
  refine r_gRs (b := a0 + 43) (pc := 9) dX8_state_9 fw_X8_25 rfl (ok8 ha0) (ok8_3 ha0).1 ?_
  refine r_iload_n (pc := 12) dX8_state_12 rfl rfl ?_
  refine r_pIs (pc := 13) h dX8_state_13 fw_X8_256 rfl rfl (nf1_3) (ok1 (ok8_3 ha0).2) (fun V2 h => ?_)
  refine r_iload_n (pc := 16) dX8_state_16 rfl rfl ?_
  exact r_irets (pc := 17) h rfl dX8_state_17
set_option maxHeartbeats 4000000 in
theorem cg_X8_state {X : sj_X} {g : sj_G} {N : Nat} {a0 : Nat} {x1 : Int} {V : sj_VV} {q : Int × sj_VV} (ha0 : OK8 g a0) (h : g_X8_state N a0 x1 V = some q) : sj_C X m_X8_state [sj_r (some a0), sj_i x1] (g, V) (some (sj_i q.1), (g, q.2)) :=
  sj_C_of (by decide +kernel) (Nat.le_of_ble_eq_true rfl) (lo := [some (sj_r (some a0)), some (sj_i x1), none]) rfl (sj_weak (l2 := [some (sj_r (some a0)), some (sj_i x1), none]) (⟨rfl, ⟨rfl, trivial⟩⟩) (st_X8_state_0 a0 x1 V ha0 h))
set_option maxHeartbeats 4000000 in
theorem c_X8_state {X : sj_X} {N : Nat} {a0 : Nat} {x1 : Int} {s : sj_Mem} {q : Int × sj_Mem} (h : f_X8_state N a0 x1 s = some q) : sj_C X m_X8_state [sj_r (some a0), sj_i x1] s (some (sj_i q.1), q.2) := by
  obtain ⟨g, V⟩ := s
  unfold f_X8_state at h
  obtain ⟨ho, h1⟩ := e_ok_some h
  obtain ⟨q2, h2, rfl⟩ := sj_map_some h1
  exact cg_X8_state ho h2
theorem dX8_chance_0 : decode cX8_chance 0 = .ok (.iload_n 1, 1) := by decide +kernel
theorem dX8_chance_1 : decode cX8_chance 1 = .ok (.iconst 1, 1) := by decide +kernel
theorem dX8_chance_2 : decode cX8_chance 2 = .ok (.if_icmp .lt 33, 3) := by decide +kernel
theorem dX8_chance_5 : decode cX8_chance 5 = .ok (.iload_n 1, 1) := by decide +kernel
theorem dX8_chance_6 : decode cX8_chance 6 = .ok (.bipush 40, 2) := by decide +kernel
theorem dX8_chance_8 : decode cX8_chance 8 = .ok (.if_icmp .gt 27, 3) := by decide +kernel
theorem dX8_chance_11 : decode cX8_chance 11 = .ok (.iload_n 2, 1) := by decide +kernel
theorem dX8_chance_12 : decode cX8_chance 12 = .ok (.ifCond .lt 23, 3) := by decide +kernel
theorem dX8_chance_15 : decode cX8_chance 15 = .ok (.iload_n 2, 1) := by decide +kernel
theorem dX8_chance_16 : decode cX8_chance 16 = .ok (.bipush 50, 2) := by decide +kernel
theorem dX8_chance_18 : decode cX8_chance 18 = .ok (.if_icmp .gt 17, 3) := by decide +kernel
theorem dX8_chance_21 : decode cX8_chance 21 = .ok (.iload_n 3, 1) := by decide +kernel
theorem dX8_chance_22 : decode cX8_chance 22 = .ok (.invokestatic 292, 3) := by decide +kernel
theorem dX8_chance_25 : decode cX8_chance 25 = .ok (.ifCond .eq 10, 3) := by decide +kernel
theorem dX8_chance_28 : decode cX8_chance 28 = .ok (.aload_n 0, 1) := by decide +kernel
theorem dX8_chance_29 : decode cX8_chance 29 = .ok (.invokevirtual 267, 3) := by decide +kernel
theorem dX8_chance_32 : decode cX8_chance 32 = .ok (.ifCond .ne 5, 3) := by decide +kernel
theorem dX8_chance_35 : decode cX8_chance 35 = .ok (.iconst (-1), 1) := by decide +kernel
theorem dX8_chance_36 : decode cX8_chance 36 = .ok (.ireturn, 1) := by decide +kernel
theorem dX8_chance_37 : decode cX8_chance 37 = .ok (.aload_n 0, 1) := by decide +kernel
theorem dX8_chance_38 : decode cX8_chance 38 = .ok (.getfield 16, 3) := by decide +kernel
theorem dX8_chance_41 : decode cX8_chance 41 = .ok (.aload_n 0, 1) := by decide +kernel
theorem dX8_chance_42 : decode cX8_chance 42 = .ok (.getfield 12, 3) := by decide +kernel
theorem dX8_chance_45 : decode cX8_chance 45 = .ok (.invokevirtual 148, 3) := by decide +kernel
theorem dX8_chance_48 : decode cX8_chance 48 = .ok (.iconst 0, 1) := by decide +kernel
theorem dX8_chance_49 : decode cX8_chance 49 = .ok (.istore 4, 2) := by decide +kernel
theorem dX8_chance_51 : decode cX8_chance 51 = .ok (.iconst 0, 1) := by decide +kernel
theorem dX8_chance_52 : decode cX8_chance 52 = .ok (.istore 5, 2) := by decide +kernel
theorem dX8_chance_54 : decode cX8_chance 54 = .ok (.iload 5, 2) := by decide +kernel
theorem dX8_chance_56 : decode cX8_chance 56 = .ok (.iload_n 1, 1) := by decide +kernel
theorem dX8_chance_57 : decode cX8_chance 57 = .ok (.if_icmp .ge 132, 3) := by decide +kernel
theorem dX8_chance_60 : decode cX8_chance 60 = .ok (.iconst 0, 1) := by decide +kernel
theorem dX8_chance_61 : decode cX8_chance 61 = .ok (.istore 6, 2) := by decide +kernel
theorem dX8_chance_63 : decode cX8_chance 63 = .ok (.iload 6, 2) := by decide +kernel
theorem dX8_chance_65 : decode cX8_chance 65 = .ok (.iconst 4, 1) := by decide +kernel
theorem dX8_chance_66 : decode cX8_chance 66 = .ok (.if_icmp .ge 91, 3) := by decide +kernel
theorem dX8_chance_69 : decode cX8_chance 69 = .ok (.aload_n 0, 1) := by decide +kernel
theorem dX8_chance_70 : decode cX8_chance 70 = .ok (.getfield 16, 3) := by decide +kernel
theorem dX8_chance_73 : decode cX8_chance 73 = .ok (.getfield 118, 3) := by decide +kernel
theorem dX8_chance_76 : decode cX8_chance 76 = .ok (.iload 6, 2) := by decide +kernel
theorem dX8_chance_78 : decode cX8_chance 78 = .ok (.aload_n 0, 1) := by decide +kernel
theorem dX8_chance_79 : decode cX8_chance 79 = .ok (.getfield 12, 3) := by decide +kernel
theorem dX8_chance_82 : decode cX8_chance 82 = .ok (.getfield 118, 3) := by decide +kernel
theorem dX8_chance_85 : decode cX8_chance 85 = .ok (.iload 6, 2) := by decide +kernel
theorem dX8_chance_87 : decode cX8_chance 87 = .ok (.iaload, 1) := by decide +kernel
theorem dX8_chance_88 : decode cX8_chance 88 = .ok (.bipush 100, 2) := by decide +kernel
theorem dX8_chance_90 : decode cX8_chance 90 = .ok (.iload_n 2, 1) := by decide +kernel
theorem dX8_chance_91 : decode cX8_chance 91 = .ok (.isub, 1) := by decide +kernel
theorem dX8_chance_92 : decode cX8_chance 92 = .ok (.aload_n 0, 1) := by decide +kernel
theorem dX8_chance_93 : decode cX8_chance 93 = .ok (.getfield 25, 3) := by decide +kernel
theorem dX8_chance_96 : decode cX8_chance 96 = .ok (.iconst 2, 1) := by decide +kernel
theorem dX8_chance_97 : decode cX8_chance 97 = .ok (.iload_n 2, 1) := by decide +kernel
theorem dX8_chance_98 : decode cX8_chance 98 = .ok (.imul, 1) := by decide +kernel
theorem dX8_chance_99 : decode cX8_chance 99 = .ok (.iconst 1, 1) := by decide +kernel
theorem dX8_chance_100 : decode cX8_chance 100 = .ok (.iadd, 1) := by decide +kernel
theorem dX8_chance_101 : decode cX8_chance 101 = .ok (.invokevirtual 409, 3) := by decide +kernel
theorem dX8_chance_104 : decode cX8_chance 104 = .ok (.iadd, 1) := by decide +kernel
theorem dX8_chance_105 : decode cX8_chance 105 = .ok (.imul, 1) := by decide +kernel
theorem dX8_chance_106 : decode cX8_chance 106 = .ok (.bipush 100, 2) := by decide +kernel
theorem dX8_chance_108 : decode cX8_chance 108 = .ok (.idiv, 1) := by decide +kernel
theorem dX8_chance_109 : decode cX8_chance 109 = .ok (.iastore, 1) := by decide +kernel
theorem dX8_chance_110 : decode cX8_chance 110 = .ok (.aload_n 0, 1) := by decide +kernel
theorem dX8_chance_111 : decode cX8_chance 111 = .ok (.getfield 16, 3) := by decide +kernel
theorem dX8_chance_114 : decode cX8_chance 114 = .ok (.getfield 121, 3) := by decide +kernel
theorem dX8_chance_117 : decode cX8_chance 117 = .ok (.iload 6, 2) := by decide +kernel
theorem dX8_chance_119 : decode cX8_chance 119 = .ok (.aload_n 0, 1) := by decide +kernel
theorem dX8_chance_120 : decode cX8_chance 120 = .ok (.getfield 12, 3) := by decide +kernel
theorem dX8_chance_123 : decode cX8_chance 123 = .ok (.getfield 121, 3) := by decide +kernel
theorem dX8_chance_126 : decode cX8_chance 126 = .ok (.iload 6, 2) := by decide +kernel
theorem dX8_chance_128 : decode cX8_chance 128 = .ok (.iaload, 1) := by decide +kernel
theorem dX8_chance_129 : decode cX8_chance 129 = .ok (.bipush 100, 2) := by decide +kernel
theorem dX8_chance_131 : decode cX8_chance 131 = .ok (.iload_n 2, 1) := by decide +kernel
theorem dX8_chance_132 : decode cX8_chance 132 = .ok (.isub, 1) := by decide +kernel
theorem dX8_chance_133 : decode cX8_chance 133 = .ok (.aload_n 0, 1) := by decide +kernel
theorem dX8_chance_134 : decode cX8_chance 134 = .ok (.getfield 25, 3) := by decide +kernel
theorem dX8_chance_137 : decode cX8_chance 137 = .ok (.iconst 2, 1) := by decide +kernel
theorem dX8_chance_138 : decode cX8_chance 138 = .ok (.iload_n 2, 1) := by decide +kernel
theorem dX8_chance_139 : decode cX8_chance 139 = .ok (.imul, 1) := by decide +kernel
theorem dX8_chance_140 : decode cX8_chance 140 = .ok (.iconst 1, 1) := by decide +kernel
theorem dX8_chance_141 : decode cX8_chance 141 = .ok (.iadd, 1) := by decide +kernel
theorem dX8_chance_142 : decode cX8_chance 142 = .ok (.invokevirtual 409, 3) := by decide +kernel
theorem dX8_chance_145 : decode cX8_chance 145 = .ok (.iadd, 1) := by decide +kernel
theorem dX8_chance_146 : decode cX8_chance 146 = .ok (.imul, 1) := by decide +kernel
theorem dX8_chance_147 : decode cX8_chance 147 = .ok (.bipush 100, 2) := by decide +kernel
theorem dX8_chance_149 : decode cX8_chance 149 = .ok (.idiv, 1) := by decide +kernel
theorem dX8_chance_150 : decode cX8_chance 150 = .ok (.iastore, 1) := by decide +kernel
theorem dX8_chance_151 : decode cX8_chance 151 = .ok (.iinc 6 1, 3) := by decide +kernel
theorem dX8_chance_154 : decode cX8_chance 154 = .ok (.goto (-91), 3) := by decide +kernel
theorem dX8_chance_157 : decode cX8_chance 157 = .ok (.aload_n 0, 1) := by decide +kernel
theorem dX8_chance_158 : decode cX8_chance 158 = .ok (.getfield 53, 3) := by decide +kernel
theorem dX8_chance_161 : decode cX8_chance 161 = .ok (.aload_n 0, 1) := by decide +kernel
theorem dX8_chance_162 : decode cX8_chance 162 = .ok (.getfield 16, 3) := by decide +kernel
theorem dX8_chance_165 : decode cX8_chance 165 = .ok (.iconst 0, 1) := by decide +kernel
theorem dX8_chance_166 : decode cX8_chance 166 = .ok (.invokevirtual 263, 3) := by decide +kernel
theorem dX8_chance_169 : decode cX8_chance 169 = .ok (.aload_n 0, 1) := by decide +kernel
theorem dX8_chance_170 : decode cX8_chance 170 = .ok (.getfield 53, 3) := by decide +kernel
theorem dX8_chance_173 : decode cX8_chance 173 = .ok (.iload_n 3, 1) := by decide +kernel
theorem dX8_chance_174 : decode cX8_chance 174 = .ok (.invokevirtual 301, 3) := by decide +kernel
theorem dX8_chance_177 : decode cX8_chance 177 = .ok (.ifCond .ne 6, 3) := by decide +kernel
theorem dX8_chance_180 : decode cX8_chance 180 = .ok (.iinc 4 1, 3) := by decide +kernel
theorem dX8_chance_183 : decode cX8_chance 183 = .ok (.iinc 5 1, 3) := by decide +kernel
theorem dX8_chance_186 : decode cX8_chance 186 = .ok (.goto (-132), 3) := by decide +kernel
theorem dX8_chance_189 : decode cX8_chance 189 = .ok (.iload 4, 2) := by decide +kernel
theorem dX8_chance_191 : decode cX8_chance 191 = .ok (.ireturn, 1) := by decide +kernel
set_option maxHeartbeats 4000000 in
theorem st_X8_chance_183 {X : sj_X} {g : sj_G} {s0 : sj_Mem} {N : Nat} {q : Int × sj_VV} {k54 : Nat → Int → Int → Int → Int → Int → sj_VV → Option (Int × sj_VV)} (hk54 : ∀ (a0 : Nat) (x1 : Int) (x2 : Int) (x3 : Int) (x4 : Int) (x5 : Int) (V : sj_VV), OK8 g a0 → k54 a0 x1 x2 x3 x4 x5 V = some q → sj_T X m_X8_chance s0 (some (sj_i q.1), (g, q.2)) 54 [some (sj_r (some a0)), some (sj_i x1), some (sj_i x2), some (sj_i x3), some (sj_i x4), some (sj_i x5), none] [] (g, V)) :
    ∀ (a0 : Nat) (x1 : Int) (x2 : Int) (x3 : Int) (x4 : Int) (x5 : Int) (V : sj_VV), OK8 g a0 → g_X8_chance_183 N k54 a0 x1 x2 x3 x4 x5 V = some q → sj_T X m_X8_chance s0 (some (sj_i q.1), (g, q.2)) 183 [some (sj_r (some a0)), some (sj_i x1), some (sj_i x2), some (sj_i x3), some (sj_i x4), some (sj_i x5), none] [] (g, V) := by
  intro a0 x1 x2 x3 x4 x5 V ha0 h
  unfold g_X8_chance_183 at h
  refine r_iinc (ln := fun w => [some (sj_r (some a0)), some (sj_i x1), some (sj_i x2), some (sj_i x3), some (sj_i x4), some (sj_i w), none]) (pc := 183) h dX8_chance_183 rfl (Nat.le_of_ble_eq_true rfl) (fun _ => rfl) (fun v1 h => ?_)
  refine r_goto (pc := 186) (tgt := 54) dX8_chance_186 (by decide) ?_
  exact sj_weak (l2 := [some (sj_r (some a0)), some (sj_i x1), some (sj_i x2), some (sj_i x3), some (sj_i x4), some (sj_i v1), none]) (⟨rfl, ⟨rfl, ⟨rfl, ⟨rfl, ⟨rfl, ⟨rfl, trivial⟩⟩⟩⟩⟩⟩) (hk54 a0 x1 x2 x3 x4 v1 V ha0 h)
set_option maxHeartbeats 4000000 in
theorem st_X8_chance_63_b {X : sj_X} {g : sj_G} {s0 : sj_Mem} {N : Nat} {q : Int × sj_VV} {k54 : Nat → Int → Int → Int → Int → Int → sj_VV → Option (Int × sj_VV)} {k63 : Nat → Int → Int → Int → Int → Int → Int → sj_VV → Option (Int × sj_VV)} (hk54 : ∀ (a0 : Nat) (x1 : Int) (x2 : Int) (x3 : Int) (x4 : Int) (x5 : Int) (V : sj_VV), OK8 g a0 → k54 a0 x1 x2 x3 x4 x5 V = some q → sj_T X m_X8_chance s0 (some (sj_i q.1), (g, q.2)) 54 [some (sj_r (some a0)), some (sj_i x1), some (sj_i x2), some (sj_i x3), some (sj_i x4), some (sj_i x5), none] [] (g, V)) (hk63 : ∀ (a0 : Nat) (x1 : Int) (x2 : Int) (x3 : Int) (x4 : Int) (x5 : Int) (x6 : Int) (V : sj_VV), OK8 g a0 → k63 a0 x1 x2 x3 x4 x5 x6 V = some q → sj_T X m_X8_chance s0 (some (sj_i q.1), (g, q.2)) 63 [some (sj_r (some a0)), some (sj_i x1), some (sj_i x2), some (sj_i x3), some (sj_i x4), some (sj_i x5), some (sj_i x6)] [] (g, V)) :
    ∀ (a0 : Nat) (x1 : Int) (x2 : Int) (x3 : Int) (x4 : Int) (x5 : Int) (x6 : Int) (V : sj_VV), OK8 g a0 → g_X8_chance_63_b N k54 k63 a0 x1 x2 x3 x4 x5 x6 V = some q → sj_T X m_X8_chance s0 (some (sj_i q.1), (g, q.2)) 63 [some (sj_r (some a0)), some (sj_i x1), some (sj_i x2), some (sj_i x3), some (sj_i x4), some (sj_i x5), some (sj_i x6)] [] (g, V) := by
  intro a0 x1 x2 x3 x4 x5 x6 V ha0 h
  unfold g_X8_chance_63_b at h
  refine r_iload (pc := 63) dX8_chance_63 rfl ?_
  refine r_iconst (pc := 65) dX8_chance_65 ?_
  refine r_icmp_ge (pc := 66) (tgt := 157) h dX8_chance_66 (by decide) (fun h => ?_) (fun h => ?_)
  · refine r_aload_n (pc := 157) dX8_chance_157 rfl rfl ?_
    refine r_gRs (b := a0 + 54) (pc := 158) dX8_chance_158 fw_X8_53 rfl (ok8 ha0) (ok8_8 ha0).1 ?_
    refine r_aload_n (pc := 161) dX8_chance_161 rfl rfl ?_
    refine r_gRs (b := a0 + 15) (pc := 162) dX8_chance_162 fw_X8_16 rfl (ok8 ha0) (ok8_1 ha0).1 ?_
    refine r_iconst (pc := 165) dX8_chance_165 ?_
    refine r_callVs (pc := 166) (fun _ => none) (As := [sj_r (some (a0 + 15)), sj_i 0]) (rest := []) (b := (a0 + 54)) (ok4 (ok8_8 ha0).2) h dX8_chance_166 mw_X8_263 vw_X4_settle (fun _ _ hc => cg_X4_settle (ok8_8 ha0).2 (ok8_1 ha0).2 hc) rfl ⟨(Nat.le_of_ble_eq_true rfl), (Nat.le_of_ble_eq_true rfl)⟩ (Nat.le_of_ble_eq_true rfl) rfl (fun _u V1 h => ?_)
    refine r_aload_n (pc := 169) dX8_chance_169 rfl rfl ?_
    refine r_gRs (b := a0 + 54) (pc := 170) dX8_chance_170 fw_X8_53 rfl (ok8 ha0) (ok8_8 ha0).1 ?_
    refine r_iload_n (pc := 173) dX8_chance_173 rfl rfl ?_
    refine r_callVs (pc := 174) (fun v => some (sj_i v)) (As := [sj_i x3]) (rest := []) (b := (a0 + 54)) (ok4 (ok8_8 ha0).2) h dX8_chance_174 mw_X8_301 vw_X4_hold (fun _ _ hc => cg_X4_hold (ok8_8 ha0).2 hc) rfl ⟨(Nat.le_of_ble_eq_true rfl), (Nat.le_of_ble_eq_true rfl)⟩ (Nat.le_of_ble_eq_true rfl) rfl (fun v3 V2 h => ?_)
    refine r_if_ne (pc := 177) (tgt := 183) h dX8_chance_177 (by decide) (fun h => ?_) (fun h => ?_)
    · refine r_iinc (ln := fun w => [some (sj_r (some a0)), some (sj_i x1), some (sj_i x2), some (sj_i x3), some (sj_i w), some (sj_i x5), some (sj_i x6)]) (pc := 180) h dX8_chance_180 rfl (Nat.le_of_ble_eq_true rfl) (fun _ => rfl) (fun v4 h => ?_)
      exact sj_weak (l2 := [some (sj_r (some a0)), some (sj_i x1), some (sj_i x2), some (sj_i x3), some (sj_i v4), some (sj_i x5), none]) (⟨rfl, ⟨rfl, ⟨rfl, ⟨rfl, ⟨rfl, ⟨rfl, trivial⟩⟩⟩⟩⟩⟩) (st_X8_chance_183 hk54 a0 x1 x2 x3 v4 x5 V2 ha0 h)
    · exact sj_weak (l2 := [some (sj_r (some a0)), some (sj_i x1), some (sj_i x2), some (sj_i x3), some (sj_i x4), some (sj_i x5), none]) (⟨rfl, ⟨rfl, ⟨rfl, ⟨rfl, ⟨rfl, ⟨rfl, trivial⟩⟩⟩⟩⟩⟩) (st_X8_chance_183 hk54 a0 x1 x2 x3 x4 x5 V2 ha0 h)
  · refine r_aload_n (pc := 69) dX8_chance_69 rfl rfl ?_
    refine r_gRs (b := a0 + 15) (pc := 70) dX8_chance_70 fw_X8_16 rfl (ok8 ha0) (ok8_1 ha0).1 ?_
    refine r_gRs (b := (a0 + 15) + 7) (pc := 73) dX8_chance_73 fw_X8_118 rfl (ok0 (ok8_1 ha0).2) (ok0_9 (ok8_1 ha0).2).1 ?_
    refine r_iload (pc := 76) dX8_chance_76 rfl ?_
    refine r_aload_n (pc := 78) dX8_chance_78 rfl rfl ?_
    refine r_gRs (b := a0 + 1) (pc := 79) dX8_chance_79 fw_X8_12 rfl (ok8 ha0) (ok8_0 ha0).1 ?_
    refine r_gRs (b := (a0 + 1) + 7) (pc := 82) dX8_chance_82 fw_X8_118 rfl (ok0 (ok8_0 ha0).2) (ok0_9 (ok8_0 ha0).2).1 ?_
    refine r_iload (pc := 85) dX8_chance_85 rfl ?_
    refine r_ialoads (pc := 87) h dX8_chance_87 (ok0_9 (ok8_0 ha0).2).2 (fun h => ?_)
    refine r_bipush (pc := 88) dX8_chance_88 ⟨by decide, by decide⟩ ?_
    refine r_iload_n (pc := 90) dX8_chance_90 rfl rfl ?_
    refine r_isub (pc := 91) dX8_chance_91 ?_
    refine r_aload_n (pc := 92) dX8_chance_92 rfl rfl ?_
    refine r_gRs (b := a0 + 43) (pc := 93) dX8_chance_93 fw_X8_25 rfl (ok8 ha0) (ok8_3 ha0).1 ?_
    refine r_iconst (pc := 96) dX8_chance_96 ?_
    refine r_iload_n (pc := 97) dX8_chance_97 rfl rfl ?_
    refine r_imul (pc := 98) dX8_chance_98 ?_
    refine r_iconst (pc := 99) dX8_chance_99 ?_
    refine r_iadd (pc := 100) dX8_chance_100 ?_
    refine r_callVs (pc := 101) (fun v => some (sj_i v)) (As := [sj_i ((2 * x2) + 1)]) (rest := [(sj_i (100 - x2)), (sj_i (V ((a0 + 1) + 7) x6.toNat)), (sj_i x6), (sj_r (some ((a0 + 15) + 7)))]) (b := (a0 + 43)) (ok1 (ok8_3 ha0).2) h dX8_chance_101 mw_X8_409 vw_X1_draw (fun _ _ hc => cg_X1_draw (ok8_3 ha0).2 hc) rfl ⟨(Nat.le_of_ble_eq_true rfl), (Nat.le_of_ble_eq_true rfl)⟩ (Nat.le_of_ble_eq_true rfl) rfl (fun v6 V5 h => ?_)
    refine r_iadd (pc := 104) dX8_chance_104 ?_
    refine r_imul (pc := 105) dX8_chance_105 ?_
    refine r_bipush (pc := 106) dX8_chance_106 ⟨by decide, by decide⟩ ?_
    refine r_idiv (pc := 108) h dX8_chance_108 (fun v7 h => ?_)
    refine r_iastores (pc := 109) h dX8_chance_109 (ok0_9 (ok8_1 ha0).2).2 (fun V8 h => ?_)
    refine r_aload_n (pc := 110) dX8_chance_110 rfl rfl ?_
    refine r_gRs (b := a0 + 15) (pc := 111) dX8_chance_111 fw_X8_16 rfl (ok8 ha0) (ok8_1 ha0).1 ?_
    refine r_gRs (b := (a0 + 15) + 8) (pc := 114) dX8_chance_114 fw_X8_121 rfl (ok0 (ok8_1 ha0).2) (ok0_10 (ok8_1 ha0).2).1 ?_
    refine r_iload (pc := 117) dX8_chance_117 rfl ?_
    refine r_aload_n (pc := 119) dX8_chance_119 rfl rfl ?_
    refine r_gRs (b := a0 + 1) (pc := 120) dX8_chance_120 fw_X8_12 rfl (ok8 ha0) (ok8_0 ha0).1 ?_
    refine r_gRs (b := (a0 + 1) + 8) (pc := 123) dX8_chance_123 fw_X8_121 rfl (ok0 (ok8_0 ha0).2) (ok0_10 (ok8_0 ha0).2).1 ?_
    refine r_iload (pc := 126) dX8_chance_126 rfl ?_
    refine r_ialoads (pc := 128) h dX8_chance_128 (ok0_10 (ok8_0 ha0).2).2 (fun h => ?_)
    refine r_bipush (pc := 129) dX8_chance_129 ⟨by decide, by decide⟩ ?_
    refine r_iload_n (pc := 131) dX8_chance_131 rfl rfl ?_
    refine r_isub (pc := 132) dX8_chance_132 ?_
    refine r_aload_n (pc := 133) dX8_chance_133 rfl rfl ?_
    refine r_gRs (b := a0 + 43) (pc := 134) dX8_chance_134 fw_X8_25 rfl (ok8 ha0) (ok8_3 ha0).1 ?_
    refine r_iconst (pc := 137) dX8_chance_137 ?_
    refine r_iload_n (pc := 138) dX8_chance_138 rfl rfl ?_
    refine r_imul (pc := 139) dX8_chance_139 ?_
    refine r_iconst (pc := 140) dX8_chance_140 ?_
    refine r_iadd (pc := 141) dX8_chance_141 ?_
    refine r_callVs (pc := 142) (fun v => some (sj_i v)) (As := [sj_i ((2 * x2) + 1)]) (rest := [(sj_i (100 - x2)), (sj_i (V8 ((a0 + 1) + 8) x6.toNat)), (sj_i x6), (sj_r (some ((a0 + 15) + 8)))]) (b := (a0 + 43)) (ok1 (ok8_3 ha0).2) h dX8_chance_142 mw_X8_409 vw_X1_draw (fun _ _ hc => cg_X1_draw (ok8_3 ha0).2 hc) rfl ⟨(Nat.le_of_ble_eq_true rfl), (Nat.le_of_ble_eq_true rfl)⟩ (Nat.le_of_ble_eq_true rfl) rfl (fun v10 V9 h => ?_)
    refine r_iadd (pc := 145) dX8_chance_145 ?_
    refine r_imul (pc := 146) dX8_chance_146 ?_
    refine r_bipush (pc := 147) dX8_chance_147 ⟨by decide, by decide⟩ ?_
    refine r_idiv (pc := 149) h dX8_chance_149 (fun v11 h => ?_)
    refine r_iastores (pc := 150) h dX8_chance_150 (ok0_10 (ok8_1 ha0).2).2 (fun V12 h => ?_)
    refine r_iinc (ln := fun w => [some (sj_r (some a0)), some (sj_i x1), some (sj_i x2), some (sj_i x3), some (sj_i x4), some (sj_i x5), some (sj_i w)]) (pc := 151) h dX8_chance_151 rfl (Nat.le_of_ble_eq_true rfl) (fun _ => rfl) (fun v13 h => ?_)
    refine r_goto (pc := 154) (tgt := 63) dX8_chance_154 (by decide) ?_
    exact sj_weak (l2 := [some (sj_r (some a0)), some (sj_i x1), some (sj_i x2), some (sj_i x3), some (sj_i x4), some (sj_i x5), some (sj_i v13)]) (⟨rfl, ⟨rfl, ⟨rfl, ⟨rfl, ⟨rfl, ⟨rfl, ⟨rfl, trivial⟩⟩⟩⟩⟩⟩⟩) (hk63 a0 x1 x2 x3 x4 x5 v13 V12 ha0 h)
set_option maxHeartbeats 4000000 in
theorem st_X8_chance_63 {X : sj_X} {g : sj_G} {s0 : sj_Mem} {N : Nat} {q : Int × sj_VV} {k54 : Nat → Int → Int → Int → Int → Int → sj_VV → Option (Int × sj_VV)} (hk54 : ∀ (a0 : Nat) (x1 : Int) (x2 : Int) (x3 : Int) (x4 : Int) (x5 : Int) (V : sj_VV), OK8 g a0 → k54 a0 x1 x2 x3 x4 x5 V = some q → sj_T X m_X8_chance s0 (some (sj_i q.1), (g, q.2)) 54 [some (sj_r (some a0)), some (sj_i x1), some (sj_i x2), some (sj_i x3), some (sj_i x4), some (sj_i x5), none] [] (g, V)) :
    ∀ (n : Nat) (a0 : Nat) (x1 : Int) (x2 : Int) (x3 : Int) (x4 : Int) (x5 : Int) (x6 : Int) (V : sj_VV), OK8 g a0 → g_X8_chance_63 N k54 n a0 x1 x2 x3 x4 x5 x6 V = some q → sj_T X m_X8_chance s0 (some (sj_i q.1), (g, q.2)) 63 [some (sj_r (some a0)), some (sj_i x1), some (sj_i x2), some (sj_i x3), some (sj_i x4), some (sj_i x5), some (sj_i x6)] [] (g, V) := by
  intro n
  induction n with
  | zero => intro a0 x1 x2 x3 x4 x5 x6 V ha0 h; exact nomatch h
  | succ n ih => intro a0 x1 x2 x3 x4 x5 x6 V ha0 h; exact st_X8_chance_63_b (N := N) hk54 ih a0 x1 x2 x3 x4 x5 x6 V ha0 h
set_option maxHeartbeats 4000000 in
theorem st_X8_chance_54_b {X : sj_X} {g : sj_G} {s0 : sj_Mem} {N : Nat} {q : Int × sj_VV} {k54 : Nat → Int → Int → Int → Int → Int → sj_VV → Option (Int × sj_VV)} (hk54 : ∀ (a0 : Nat) (x1 : Int) (x2 : Int) (x3 : Int) (x4 : Int) (x5 : Int) (V : sj_VV), OK8 g a0 → k54 a0 x1 x2 x3 x4 x5 V = some q → sj_T X m_X8_chance s0 (some (sj_i q.1), (g, q.2)) 54 [some (sj_r (some a0)), some (sj_i x1), some (sj_i x2), some (sj_i x3), some (sj_i x4), some (sj_i x5), none] [] (g, V)) :
    ∀ (a0 : Nat) (x1 : Int) (x2 : Int) (x3 : Int) (x4 : Int) (x5 : Int) (V : sj_VV), OK8 g a0 → g_X8_chance_54_b N k54 a0 x1 x2 x3 x4 x5 V = some q → sj_T X m_X8_chance s0 (some (sj_i q.1), (g, q.2)) 54 [some (sj_r (some a0)), some (sj_i x1), some (sj_i x2), some (sj_i x3), some (sj_i x4), some (sj_i x5), none] [] (g, V) := by
  intro a0 x1 x2 x3 x4 x5 V ha0 h
  unfold g_X8_chance_54_b at h
  refine r_iload (pc := 54) dX8_chance_54 rfl ?_
  refine r_iload_n (pc := 56) dX8_chance_56 rfl rfl ?_
  refine r_icmp_ge (pc := 57) (tgt := 189) h dX8_chance_57 (by decide) (fun h => ?_) (fun h => ?_)
  · refine r_iload (pc := 189) dX8_chance_189 rfl ?_
    exact r_irets (pc := 191) h rfl dX8_chance_191
  · refine r_iconst (pc := 60) dX8_chance_60 ?_
    refine r_istore (ln := [some (sj_r (some a0)), some (sj_i x1), some (sj_i x2), some (sj_i x3), some (sj_i x4), some (sj_i x5), some (sj_i 0)]) (pc := 61) dX8_chance_61 (Nat.le_of_ble_eq_true rfl) rfl ?_
    exact sj_weak (l2 := [some (sj_r (some a0)), some (sj_i x1), some (sj_i x2), some (sj_i x3), some (sj_i x4), some (sj_i x5), some (sj_i 0)]) (⟨rfl, ⟨rfl, ⟨rfl, ⟨rfl, ⟨rfl, ⟨rfl, ⟨rfl, trivial⟩⟩⟩⟩⟩⟩⟩) (st_X8_chance_63 hk54 N a0 x1 x2 x3 x4 x5 0 V ha0 h)
set_option maxHeartbeats 4000000 in
theorem st_X8_chance_54 {X : sj_X} {g : sj_G} {s0 : sj_Mem} {N : Nat} {q : Int × sj_VV} :
    ∀ (n : Nat) (a0 : Nat) (x1 : Int) (x2 : Int) (x3 : Int) (x4 : Int) (x5 : Int) (V : sj_VV), OK8 g a0 → g_X8_chance_54 N n a0 x1 x2 x3 x4 x5 V = some q → sj_T X m_X8_chance s0 (some (sj_i q.1), (g, q.2)) 54 [some (sj_r (some a0)), some (sj_i x1), some (sj_i x2), some (sj_i x3), some (sj_i x4), some (sj_i x5), none] [] (g, V) := by
  intro n
  induction n with
  | zero => intro a0 x1 x2 x3 x4 x5 V ha0 h; exact nomatch h
  | succ n ih => intro a0 x1 x2 x3 x4 x5 V ha0 h; exact st_X8_chance_54_b (N := N) ih a0 x1 x2 x3 x4 x5 V ha0 h
set_option maxHeartbeats 4000000 in
theorem st_X8_chance_0 {X : sj_X} {g : sj_G} {s0 : sj_Mem} {N : Nat} {q : Int × sj_VV} :
    ∀ (a0 : Nat) (x1 : Int) (x2 : Int) (x3 : Int) (V : sj_VV), OK8 g a0 → g_X8_chance N a0 x1 x2 x3 V = some q → sj_T X m_X8_chance s0 (some (sj_i q.1), (g, q.2)) 0 [some (sj_r (some a0)), some (sj_i x1), some (sj_i x2), some (sj_i x3), none, none, none] [] (g, V) := by
  intro a0 x1 x2 x3 V ha0 h
  unfold g_X8_chance at h
  refine r_iload_n (pc := 0) dX8_chance_0 rfl rfl ?_
  refine r_iconst (pc := 1) dX8_chance_1 ?_
  refine r_icmp_lt (pc := 2) (tgt := 35) h dX8_chance_2 (by decide) (fun h => ?_) (fun h => ?_)
  · refine r_iconst (pc := 35) dX8_chance_35 ?_
    exact r_irets (pc := 36) h rfl dX8_chance_36
  · refine r_iload_n (pc := 5) dX8_chance_5 rfl rfl ?_
    refine r_bipush (pc := 6) dX8_chance_6 ⟨by decide, by decide⟩ ?_
    refine r_icmp_gt (pc := 8) (tgt := 35) h dX8_chance_8 (by decide) (fun h => ?_) (fun h => ?_)
    · refine r_iconst (pc := 35) dX8_chance_35 ?_
      exact r_irets (pc := 36) h rfl dX8_chance_36
    · refine r_iload_n (pc := 11) dX8_chance_11 rfl rfl ?_
      refine r_if_lt (pc := 12) (tgt := 35) h dX8_chance_12 (by decide) (fun h => ?_) (fun h => ?_)
      · refine r_iconst (pc := 35) dX8_chance_35 ?_
        exact r_irets (pc := 36) h rfl dX8_chance_36
      · refine r_iload_n (pc := 15) dX8_chance_15 rfl rfl ?_
        refine r_bipush (pc := 16) dX8_chance_16 ⟨by decide, by decide⟩ ?_
        refine r_icmp_gt (pc := 18) (tgt := 35) h dX8_chance_18 (by decide) (fun h => ?_) (fun h => ?_)
        · refine r_iconst (pc := 35) dX8_chance_35 ?_
          exact r_irets (pc := 36) h rfl dX8_chance_36
        · refine r_iload_n (pc := 21) dX8_chance_21 rfl rfl ?_
          refine r_callSs (pc := 22) (fun v => some (sj_i v)) (As := [sj_i x3]) (rest := []) h dX8_chance_22 mw_X8_292 kw_879 (fun _ _ hc => cg_X8_isK  hc) rfl ⟨(Nat.le_of_ble_eq_true rfl), (Nat.le_of_ble_eq_true rfl)⟩ (Nat.le_of_ble_eq_true rfl) rfl (fun v2 V1 h => ?_)
          refine r_if_eq (pc := 25) (tgt := 35) h dX8_chance_25 (by decide) (fun h => ?_) (fun h => ?_)
          · refine r_iconst (pc := 35) dX8_chance_35 ?_
            exact r_irets (pc := 36) h rfl dX8_chance_36
          · refine r_aload_n (pc := 28) dX8_chance_28 rfl rfl ?_
            refine r_callVs (pc := 29) (fun v => some (sj_i v)) (As := []) (rest := []) (b := a0) (ok8 ha0) h dX8_chance_29 mw_X8_267 vw_X8_cutUp (fun _ _ hc => cg_X8_cutUp ha0 hc) rfl ⟨(Nat.le_of_ble_eq_true rfl), (Nat.le_of_ble_eq_true rfl)⟩ (Nat.le_of_ble_eq_true rfl) rfl (fun v4 V3 h => ?_)
            refine r_if_ne (pc := 32) (tgt := 37) h dX8_chance_32 (by decide) (fun h => ?_) (fun h => ?_)
            · refine r_iconst (pc := 35) dX8_chance_35 ?_
              exact r_irets (pc := 36) h rfl dX8_chance_36
            · refine r_aload_n (pc := 37) dX8_chance_37 rfl rfl ?_
              refine r_gRs (b := a0 + 15) (pc := 38) dX8_chance_38 fw_X8_16 rfl (ok8 ha0) (ok8_1 ha0).1 ?_
              refine r_aload_n (pc := 41) dX8_chance_41 rfl rfl ?_
              refine r_gRs (b := a0 + 1) (pc := 42) dX8_chance_42 fw_X8_12 rfl (ok8 ha0) (ok8_0 ha0).1 ?_
              refine r_callVs (pc := 45) (fun _ => none) (As := [sj_r (some (a0 + 1))]) (rest := []) (b := (a0 + 15)) (ok0 (ok8_1 ha0).2) h dX8_chance_45 mw_X8_148 vw_X0_copy (fun _ _ hc => cg_X0_copy (ok8_1 ha0).2 (ok8_0 ha0).2 hc) rfl ⟨(Nat.le_of_ble_eq_true rfl), (Nat.le_of_ble_eq_true rfl)⟩ (Nat.le_of_ble_eq_true rfl) rfl (fun _u V5 h => ?_)
              refine r_iconst (pc := 48) dX8_chance_48 ?_
              refine r_istore (ln := [some (sj_r (some a0)), some (sj_i x1), some (sj_i x2), some (sj_i x3), some (sj_i 0), none, none]) (pc := 49) dX8_chance_49 (Nat.le_of_ble_eq_true rfl) rfl ?_
              refine r_iconst (pc := 51) dX8_chance_51 ?_
              refine r_istore (ln := [some (sj_r (some a0)), some (sj_i x1), some (sj_i x2), some (sj_i x3), some (sj_i 0), some (sj_i 0), none]) (pc := 52) dX8_chance_52 (Nat.le_of_ble_eq_true rfl) rfl ?_
              exact sj_weak (l2 := [some (sj_r (some a0)), some (sj_i x1), some (sj_i x2), some (sj_i x3), some (sj_i 0), some (sj_i 0), none]) (⟨rfl, ⟨rfl, ⟨rfl, ⟨rfl, ⟨rfl, ⟨rfl, trivial⟩⟩⟩⟩⟩⟩) (st_X8_chance_54 N a0 x1 x2 x3 0 0 V5 ha0 h)
set_option maxHeartbeats 4000000 in
theorem cg_X8_chance {X : sj_X} {g : sj_G} {N : Nat} {a0 : Nat} {x1 : Int} {x2 : Int} {x3 : Int} {V : sj_VV} {q : Int × sj_VV} (ha0 : OK8 g a0) (h : g_X8_chance N a0 x1 x2 x3 V = some q) : sj_C X m_X8_chance [sj_r (some a0), sj_i x1, sj_i x2, sj_i x3] (g, V) (some (sj_i q.1), (g, q.2)) :=
  sj_C_of (by decide +kernel) (Nat.le_of_ble_eq_true rfl) (lo := [some (sj_r (some a0)), some (sj_i x1), some (sj_i x2), some (sj_i x3), none, none, none]) rfl (sj_weak (l2 := [some (sj_r (some a0)), some (sj_i x1), some (sj_i x2), some (sj_i x3), none, none, none]) (⟨rfl, ⟨rfl, ⟨rfl, ⟨rfl, trivial⟩⟩⟩⟩) (st_X8_chance_0 a0 x1 x2 x3 V ha0 h))
set_option maxHeartbeats 4000000 in
theorem c_X8_chance {X : sj_X} {N : Nat} {a0 : Nat} {x1 : Int} {x2 : Int} {x3 : Int} {s : sj_Mem} {q : Int × sj_Mem} (h : f_X8_chance N a0 x1 x2 x3 s = some q) : sj_C X m_X8_chance [sj_r (some a0), sj_i x1, sj_i x2, sj_i x3] s (some (sj_i q.1), q.2) := by
  obtain ⟨g, V⟩ := s
  unfold f_X8_chance at h
  obtain ⟨ho, h1⟩ := e_ok_some h
  obtain ⟨q2, h2, rfl⟩ := sj_map_some h1
  exact cg_X8_chance ho h2
theorem dX8_report_0 : decode cX8_report 0 = .ok (.aload_n 0, 1) := by decide +kernel
theorem dX8_report_1 : decode cX8_report 1 = .ok (.getfield 35, 3) := by decide +kernel
theorem dX8_report_4 : decode cX8_report 4 = .ok (.iconst 0, 1) := by decide +kernel
theorem dX8_report_5 : decode cX8_report 5 = .ok (.putfield 412, 3) := by decide +kernel
theorem dX8_report_8 : decode cX8_report 8 = .ok (.aload_n 0, 1) := by decide +kernel
theorem dX8_report_9 : decode cX8_report 9 = .ok (.invokevirtual 267, 3) := by decide +kernel
theorem dX8_report_12 : decode cX8_report 12 = .ok (.ifCond .ne 5, 3) := by decide +kernel
theorem dX8_report_15 : decode cX8_report 15 = .ok (.iconst (-1), 1) := by decide +kernel
theorem dX8_report_16 : decode cX8_report 16 = .ok (.ireturn, 1) := by decide +kernel
theorem dX8_report_17 : decode cX8_report 17 = .ok (.aload_n 0, 1) := by decide +kernel
theorem dX8_report_18 : decode cX8_report 18 = .ok (.getfield 35, 3) := by decide +kernel
theorem dX8_report_21 : decode cX8_report 21 = .ok (.aload_n 0, 1) := by decide +kernel
theorem dX8_report_22 : decode cX8_report 22 = .ok (.getfield 53, 3) := by decide +kernel
theorem dX8_report_25 : decode cX8_report 25 = .ok (.sipush 20001, 3) := by decide +kernel
theorem dX8_report_28 : decode cX8_report 28 = .ok (.invokevirtual 303, 3) := by decide +kernel
theorem dX8_report_31 : decode cX8_report 31 = .ok (.invokevirtual 413, 3) := by decide +kernel
theorem dX8_report_34 : decode cX8_report 34 = .ok (.aload_n 0, 1) := by decide +kernel
theorem dX8_report_35 : decode cX8_report 35 = .ok (.getfield 35, 3) := by decide +kernel
theorem dX8_report_38 : decode cX8_report 38 = .ok (.bipush 32, 2) := by decide +kernel
theorem dX8_report_40 : decode cX8_report 40 = .ok (.invokevirtual 416, 3) := by decide +kernel
theorem dX8_report_43 : decode cX8_report 43 = .ok (.aload_n 0, 1) := by decide +kernel
theorem dX8_report_44 : decode cX8_report 44 = .ok (.getfield 35, 3) := by decide +kernel
theorem dX8_report_47 : decode cX8_report 47 = .ok (.aload_n 0, 1) := by decide +kernel
theorem dX8_report_48 : decode cX8_report 48 = .ok (.getfield 12, 3) := by decide +kernel
theorem dX8_report_51 : decode cX8_report 51 = .ok (.getfield 106, 3) := by decide +kernel
theorem dX8_report_54 : decode cX8_report 54 = .ok (.getfield 241, 3) := by decide +kernel
theorem dX8_report_57 : decode cX8_report 57 = .ok (.invokevirtual 419, 3) := by decide +kernel
theorem dX8_report_60 : decode cX8_report 60 = .ok (.aload_n 0, 1) := by decide +kernel
theorem dX8_report_61 : decode cX8_report 61 = .ok (.getfield 35, 3) := by decide +kernel
theorem dX8_report_64 : decode cX8_report 64 = .ok (.bipush 45, 2) := by decide +kernel
theorem dX8_report_66 : decode cX8_report 66 = .ok (.invokevirtual 416, 3) := by decide +kernel
theorem dX8_report_69 : decode cX8_report 69 = .ok (.aload_n 0, 1) := by decide +kernel
theorem dX8_report_70 : decode cX8_report 70 = .ok (.getfield 35, 3) := by decide +kernel
theorem dX8_report_73 : decode cX8_report 73 = .ok (.aload_n 0, 1) := by decide +kernel
theorem dX8_report_74 : decode cX8_report 74 = .ok (.getfield 12, 3) := by decide +kernel
theorem dX8_report_77 : decode cX8_report 77 = .ok (.getfield 106, 3) := by decide +kernel
theorem dX8_report_80 : decode cX8_report 80 = .ok (.getfield 244, 3) := by decide +kernel
theorem dX8_report_83 : decode cX8_report 83 = .ok (.invokevirtual 419, 3) := by decide +kernel
theorem dX8_report_86 : decode cX8_report 86 = .ok (.aload_n 0, 1) := by decide +kernel
theorem dX8_report_87 : decode cX8_report 87 = .ok (.getfield 35, 3) := by decide +kernel
theorem dX8_report_90 : decode cX8_report 90 = .ok (.bipush 32, 2) := by decide +kernel
theorem dX8_report_92 : decode cX8_report 92 = .ok (.invokevirtual 416, 3) := by decide +kernel
theorem dX8_report_95 : decode cX8_report 95 = .ok (.aload_n 0, 1) := by decide +kernel
theorem dX8_report_96 : decode cX8_report 96 = .ok (.getfield 35, 3) := by decide +kernel
theorem dX8_report_99 : decode cX8_report 99 = .ok (.aload_n 0, 1) := by decide +kernel
theorem dX8_report_100 : decode cX8_report 100 = .ok (.getfield 12, 3) := by decide +kernel
theorem dX8_report_103 : decode cX8_report 103 = .ok (.getfield 106, 3) := by decide +kernel
theorem dX8_report_106 : decode cX8_report 106 = .ok (.getfield 247, 3) := by decide +kernel
theorem dX8_report_109 : decode cX8_report 109 = .ok (.ifCond .eq 8, 3) := by decide +kernel
theorem dX8_report_112 : decode cX8_report 112 = .ok (.bipush 76, 2) := by decide +kernel
theorem dX8_report_114 : decode cX8_report 114 = .ok (.goto 5, 3) := by decide +kernel
theorem dX8_report_117 : decode cX8_report 117 = .ok (.bipush 82, 2) := by decide +kernel
theorem dX8_report_119 : decode cX8_report 119 = .ok (.invokevirtual 416, 3) := by decide +kernel
theorem dX8_report_122 : decode cX8_report 122 = .ok (.aload_n 0, 1) := by decide +kernel
theorem dX8_report_123 : decode cX8_report 123 = .ok (.getfield 35, 3) := by decide +kernel
theorem dX8_report_126 : decode cX8_report 126 = .ok (.getfield 412, 3) := by decide +kernel
theorem dX8_report_129 : decode cX8_report 129 = .ok (.ireturn, 1) := by decide +kernel
set_option maxHeartbeats 4000000 in
theorem st_X8_report_119 {X : sj_X} {g : sj_G} {s0 : sj_Mem} {N : Nat} {q : Int × sj_VV} :
    ∀ (a0 : Nat) (y0 : Int) (y1 : Nat) (V : sj_VV), OK8 g a0 → OK2 g y1 → g_X8_report_119 N a0 y0 y1 V = some q → sj_T X m_X8_report s0 (some (sj_i q.1), (g, q.2)) 119 [some (sj_r (some a0))] [(sj_i y0), (sj_r (some y1))] (g, V) := by
  intro a0 y0 y1 V ha0 hy1 h
  unfold g_X8_report_119 at h
  refine r_callVs (pc := 119) (fun _ => none) (As := [sj_i y0]) (rest := []) (b := y1) (ok2 hy1) h dX8_report_119 mw_X8_416 vw_X2_write (fun _ _ hc => cg_X2_write hy1 hc) rfl ⟨(Nat.le_of_ble_eq_true rfl), (Nat.le_of_ble_eq_true rfl)⟩ (Nat.le_of_ble_eq_true rfl) rfl (fun _u V1 h => ?_)
  refine r_aload_n (pc := 122) dX8_report_122 rfl rfl ?_
  refine r_gRs (b := a0 + 49) (pc := 123) dX8_report_123 fw_X8_35 rfl (ok8 ha0) (ok8_5 ha0).1 ?_
  refine r_gIs (pc := 126) dX8_report_126 fw_X8_412 rfl (ok2 (ok8_5 ha0).2) ?_
  exact r_irets (pc := 129) h rfl dX8_report_129
set_option maxHeartbeats 4000000 in
theorem st_X8_report_0 {X : sj_X} {g : sj_G} {s0 : sj_Mem} {N : Nat} {q : Int × sj_VV} :
    ∀ (a0 : Nat) (V : sj_VV), OK8 g a0 → g_X8_report N a0 V = some q → sj_T X m_X8_report s0 (some (sj_i q.1), (g, q.2)) 0 [some (sj_r (some a0))] [] (g, V) := by
  intro a0 V ha0 h
  unfold g_X8_report at h
  refine r_aload_n (pc := 0) dX8_report_0 rfl rfl ?_
  refine r_gRs (b := a0 + 49) (pc := 1) dX8_report_1 fw_X8_35 rfl (ok8 ha0) (ok8_5 ha0).1 ?_
  refine r_iconst (pc := 4) dX8_report_4 ?_
  refine r_pIs (pc := 5) h dX8_report_5 fw_X8_412 rfl rfl (nf2_1) (ok2 (ok8_5 ha0).2) (fun V1 h => ?_)
  refine r_aload_n (pc := 8) dX8_report_8 rfl rfl ?_
  refine r_callVs (pc := 9) (fun v => some (sj_i v)) (As := []) (rest := []) (b := a0) (ok8 ha0) h dX8_report_9 mw_X8_267 vw_X8_cutUp (fun _ _ hc => cg_X8_cutUp ha0 hc) rfl ⟨(Nat.le_of_ble_eq_true rfl), (Nat.le_of_ble_eq_true rfl)⟩ (Nat.le_of_ble_eq_true rfl) rfl (fun v3 V2 h => ?_)
  refine r_if_ne (pc := 12) (tgt := 17) h dX8_report_12 (by decide) (fun h => ?_) (fun h => ?_)
  · refine r_iconst (pc := 15) dX8_report_15 ?_
    exact r_irets (pc := 16) h rfl dX8_report_16
  · refine r_aload_n (pc := 17) dX8_report_17 rfl rfl ?_
    refine r_gRs (b := a0 + 49) (pc := 18) dX8_report_18 fw_X8_35 rfl (ok8 ha0) (ok8_5 ha0).1 ?_
    refine r_aload_n (pc := 21) dX8_report_21 rfl rfl ?_
    refine r_gRs (b := a0 + 54) (pc := 22) dX8_report_22 fw_X8_53 rfl (ok8 ha0) (ok8_8 ha0).1 ?_
    refine r_sipush (pc := 25) dX8_report_25 ⟨by decide, by decide⟩ ?_
    refine r_callVs (pc := 28) (fun v => some (sj_i v)) (As := [sj_i 20001]) (rest := [(sj_r (some (a0 + 49)))]) (b := (a0 + 54)) (ok4 (ok8_8 ha0).2) h dX8_report_28 mw_X8_303 vw_X4_leastBound (fun _ _ hc => cg_X4_leastBound (ok8_8 ha0).2 hc) rfl ⟨(Nat.le_of_ble_eq_true rfl), (Nat.le_of_ble_eq_true rfl)⟩ (Nat.le_of_ble_eq_true rfl) rfl (fun v5 V4 h => ?_)
    refine r_callVs (pc := 31) (fun _ => none) (As := [sj_i v5]) (rest := []) (b := (a0 + 49)) (ok2 (ok8_5 ha0).2) h dX8_report_31 mw_X8_413 vw_X2_writeFactor (fun _ _ hc => cg_X2_writeFactor (ok8_5 ha0).2 hc) rfl ⟨(Nat.le_of_ble_eq_true rfl), (Nat.le_of_ble_eq_true rfl)⟩ (Nat.le_of_ble_eq_true rfl) rfl (fun _u V6 h => ?_)
    refine r_aload_n (pc := 34) dX8_report_34 rfl rfl ?_
    refine r_gRs (b := a0 + 49) (pc := 35) dX8_report_35 fw_X8_35 rfl (ok8 ha0) (ok8_5 ha0).1 ?_
    refine r_bipush (pc := 38) dX8_report_38 ⟨by decide, by decide⟩ ?_
    refine r_callVs (pc := 40) (fun _ => none) (As := [sj_i 32]) (rest := []) (b := (a0 + 49)) (ok2 (ok8_5 ha0).2) h dX8_report_40 mw_X8_416 vw_X2_write (fun _ _ hc => cg_X2_write (ok8_5 ha0).2 hc) rfl ⟨(Nat.le_of_ble_eq_true rfl), (Nat.le_of_ble_eq_true rfl)⟩ (Nat.le_of_ble_eq_true rfl) rfl (fun _u V7 h => ?_)
    refine r_aload_n (pc := 43) dX8_report_43 rfl rfl ?_
    refine r_gRs (b := a0 + 49) (pc := 44) dX8_report_44 fw_X8_35 rfl (ok8 ha0) (ok8_5 ha0).1 ?_
    refine r_aload_n (pc := 47) dX8_report_47 rfl rfl ?_
    refine r_gRs (b := a0 + 1) (pc := 48) dX8_report_48 fw_X8_12 rfl (ok8 ha0) (ok8_0 ha0).1 ?_
    refine r_gRs (b := (a0 + 1) + 12) (pc := 51) dX8_report_51 fw_X8_106 rfl (ok0 (ok8_0 ha0).2) (ok0_14 (ok8_0 ha0).2).1 ?_
    refine r_gIs (pc := 54) dX8_report_54 fw_X8_241 rfl (ok5 (ok0_14 (ok8_0 ha0).2).2) ?_
    refine r_callVs (pc := 57) (fun _ => none) (As := [sj_i (V7 ((a0 + 1) + 12) 1)]) (rest := []) (b := (a0 + 49)) (ok2 (ok8_5 ha0).2) h dX8_report_57 mw_X8_419 vw_X2_writeNumber (fun _ _ hc => cg_X2_writeNumber (ok8_5 ha0).2 hc) rfl ⟨(Nat.le_of_ble_eq_true rfl), (Nat.le_of_ble_eq_true rfl)⟩ (Nat.le_of_ble_eq_true rfl) rfl (fun _u V8 h => ?_)
    refine r_aload_n (pc := 60) dX8_report_60 rfl rfl ?_
    refine r_gRs (b := a0 + 49) (pc := 61) dX8_report_61 fw_X8_35 rfl (ok8 ha0) (ok8_5 ha0).1 ?_
    refine r_bipush (pc := 64) dX8_report_64 ⟨by decide, by decide⟩ ?_
    refine r_callVs (pc := 66) (fun _ => none) (As := [sj_i 45]) (rest := []) (b := (a0 + 49)) (ok2 (ok8_5 ha0).2) h dX8_report_66 mw_X8_416 vw_X2_write (fun _ _ hc => cg_X2_write (ok8_5 ha0).2 hc) rfl ⟨(Nat.le_of_ble_eq_true rfl), (Nat.le_of_ble_eq_true rfl)⟩ (Nat.le_of_ble_eq_true rfl) rfl (fun _u V9 h => ?_)
    refine r_aload_n (pc := 69) dX8_report_69 rfl rfl ?_
    refine r_gRs (b := a0 + 49) (pc := 70) dX8_report_70 fw_X8_35 rfl (ok8 ha0) (ok8_5 ha0).1 ?_
    refine r_aload_n (pc := 73) dX8_report_73 rfl rfl ?_
    refine r_gRs (b := a0 + 1) (pc := 74) dX8_report_74 fw_X8_12 rfl (ok8 ha0) (ok8_0 ha0).1 ?_
    refine r_gRs (b := (a0 + 1) + 12) (pc := 77) dX8_report_77 fw_X8_106 rfl (ok0 (ok8_0 ha0).2) (ok0_14 (ok8_0 ha0).2).1 ?_
    refine r_gIs (pc := 80) dX8_report_80 fw_X8_244 rfl (ok5 (ok0_14 (ok8_0 ha0).2).2) ?_
    refine r_callVs (pc := 83) (fun _ => none) (As := [sj_i (V9 ((a0 + 1) + 12) 2)]) (rest := []) (b := (a0 + 49)) (ok2 (ok8_5 ha0).2) h dX8_report_83 mw_X8_419 vw_X2_writeNumber (fun _ _ hc => cg_X2_writeNumber (ok8_5 ha0).2 hc) rfl ⟨(Nat.le_of_ble_eq_true rfl), (Nat.le_of_ble_eq_true rfl)⟩ (Nat.le_of_ble_eq_true rfl) rfl (fun _u V10 h => ?_)
    refine r_aload_n (pc := 86) dX8_report_86 rfl rfl ?_
    refine r_gRs (b := a0 + 49) (pc := 87) dX8_report_87 fw_X8_35 rfl (ok8 ha0) (ok8_5 ha0).1 ?_
    refine r_bipush (pc := 90) dX8_report_90 ⟨by decide, by decide⟩ ?_
    refine r_callVs (pc := 92) (fun _ => none) (As := [sj_i 32]) (rest := []) (b := (a0 + 49)) (ok2 (ok8_5 ha0).2) h dX8_report_92 mw_X8_416 vw_X2_write (fun _ _ hc => cg_X2_write (ok8_5 ha0).2 hc) rfl ⟨(Nat.le_of_ble_eq_true rfl), (Nat.le_of_ble_eq_true rfl)⟩ (Nat.le_of_ble_eq_true rfl) rfl (fun _u V11 h => ?_)
    refine r_aload_n (pc := 95) dX8_report_95 rfl rfl ?_
    refine r_gRs (b := a0 + 49) (pc := 96) dX8_report_96 fw_X8_35 rfl (ok8 ha0) (ok8_5 ha0).1 ?_
    refine r_aload_n (pc := 99) dX8_report_99 rfl rfl ?_
    refine r_gRs (b := a0 + 1) (pc := 100) dX8_report_100 fw_X8_12 rfl (ok8 ha0) (ok8_0 ha0).1 ?_
    refine r_gRs (b := (a0 + 1) + 12) (pc := 103) dX8_report_103 fw_X8_106 rfl (ok0 (ok8_0 ha0).2) (ok0_14 (ok8_0 ha0).2).1 ?_
    refine r_gIs (pc := 106) dX8_report_106 fw_X8_247 rfl (ok5 (ok0_14 (ok8_0 ha0).2).2) ?_
    refine r_if_eq (pc := 109) (tgt := 117) h dX8_report_109 (by decide) (fun h => ?_) (fun h => ?_)
    · refine r_bipush (pc := 117) dX8_report_117 ⟨by decide, by decide⟩ ?_
      exact sj_weak (l2 := [some (sj_r (some a0))]) (⟨rfl, trivial⟩) (st_X8_report_119 a0 82 (a0 + 49) V11 ha0 (ok8_5 ha0).2 h)
    · refine r_bipush (pc := 112) dX8_report_112 ⟨by decide, by decide⟩ ?_
      refine r_goto (pc := 114) (tgt := 119) dX8_report_114 (by decide) ?_
      exact sj_weak (l2 := [some (sj_r (some a0))]) (⟨rfl, trivial⟩) (st_X8_report_119 a0 76 (a0 + 49) V11 ha0 (ok8_5 ha0).2 h)
set_option maxHeartbeats 4000000 in
theorem cg_X8_report {X : sj_X} {g : sj_G} {N : Nat} {a0 : Nat} {V : sj_VV} {q : Int × sj_VV} (ha0 : OK8 g a0) (h : g_X8_report N a0 V = some q) : sj_C X m_X8_report [sj_r (some a0)] (g, V) (some (sj_i q.1), (g, q.2)) :=
  sj_C_of (by decide +kernel) (Nat.le_of_ble_eq_true rfl) (lo := [some (sj_r (some a0))]) rfl (sj_weak (l2 := [some (sj_r (some a0))]) (⟨rfl, trivial⟩) (st_X8_report_0 a0 V ha0 h))
set_option maxHeartbeats 4000000 in
theorem c_X8_report {X : sj_X} {N : Nat} {a0 : Nat} {s : sj_Mem} {q : Int × sj_Mem} (h : f_X8_report N a0 s = some q) : sj_C X m_X8_report [sj_r (some a0)] s (some (sj_i q.1), q.2) := by
  obtain ⟨g, V⟩ := s
  unfold f_X8_report at h
  obtain ⟨ho, h1⟩ := e_ok_some h
  obtain ⟨q2, h2, rfl⟩ := sj_map_some h1
  exact cg_X8_report ho h2
theorem dX8_sign_0 : decode cX8_sign 0 = .ok (.iload_n 1, 1) := by decide +kernel
theorem dX8_sign_1 : decode cX8_sign 1 = .ok (.ifCond .lt 26, 3) := by decide +kernel
theorem dX8_sign_4 : decode cX8_sign 4 = .ok (.iload_n 1, 1) := by decide +kernel
theorem dX8_sign_5 : decode cX8_sign 5 = .ok (.aload_n 0, 1) := by decide +kernel
theorem dX8_sign_6 : decode cX8_sign 6 = .ok (.getfield 35, 3) := by decide +kernel
theorem dX8_sign_9 : decode cX8_sign 9 = .ok (.getfield 412, 3) := by decide +kernel
theorem dX8_sign_12 : decode cX8_sign 12 = .ok (.if_icmp .ge 15, 3) := by decide +kernel
theorem dX8_sign_15 : decode cX8_sign 15 = .ok (.aload_n 0, 1) := by decide +kernel
theorem dX8_sign_16 : decode cX8_sign 16 = .ok (.getfield 35, 3) := by decide +kernel
theorem dX8_sign_19 : decode cX8_sign 19 = .ok (.getfield 422, 3) := by decide +kernel
theorem dX8_sign_22 : decode cX8_sign 22 = .ok (.iload_n 1, 1) := by decide +kernel
theorem dX8_sign_23 : decode cX8_sign 23 = .ok (.iaload, 1) := by decide +kernel
theorem dX8_sign_24 : decode cX8_sign 24 = .ok (.goto 4, 3) := by decide +kernel
theorem dX8_sign_27 : decode cX8_sign 27 = .ok (.iconst (-1), 1) := by decide +kernel
theorem dX8_sign_28 : decode cX8_sign 28 = .ok (.ireturn, 1) := by decide +kernel
set_option maxHeartbeats 4000000 in
theorem st_X8_sign_0 {X : sj_X} {g : sj_G} {s0 : sj_Mem} {N : Nat} {q : Int × sj_VV} :
    ∀ (a0 : Nat) (x1 : Int) (V : sj_VV), OK8 g a0 → g_X8_sign N a0 x1 V = some q → sj_T X m_X8_sign s0 (some (sj_i q.1), (g, q.2)) 0 [some (sj_r (some a0)), some (sj_i x1)] [] (g, V) := by
  intro a0 x1 V ha0 h
  unfold g_X8_sign at h
  refine r_iload_n (pc := 0) dX8_sign_0 rfl rfl ?_
  refine r_if_lt (pc := 1) (tgt := 27) h dX8_sign_1 (by decide) (fun h => ?_) (fun h => ?_)
  · refine r_iconst (pc := 27) dX8_sign_27 ?_
    exact r_irets (pc := 28) h rfl dX8_sign_28
  · refine r_iload_n (pc := 4) dX8_sign_4 rfl rfl ?_
    refine r_aload_n (pc := 5) dX8_sign_5 rfl rfl ?_
    refine r_gRs (b := a0 + 49) (pc := 6) dX8_sign_6 fw_X8_35 rfl (ok8 ha0) (ok8_5 ha0).1 ?_
    refine r_gIs (pc := 9) dX8_sign_9 fw_X8_412 rfl (ok2 (ok8_5 ha0).2) ?_
    refine r_icmp_ge (pc := 12) (tgt := 27) h dX8_sign_12 (by decide) (fun h => ?_) (fun h => ?_)
    · refine r_iconst (pc := 27) dX8_sign_27 ?_
      exact r_irets (pc := 28) h rfl dX8_sign_28
    · refine r_aload_n (pc := 15) dX8_sign_15 rfl rfl ?_
      refine r_gRs (b := a0 + 49) (pc := 16) dX8_sign_16 fw_X8_35 rfl (ok8 ha0) (ok8_5 ha0).1 ?_
      refine r_gRs (b := (a0 + 49) + 1) (pc := 19) dX8_sign_19 fw_X8_422 rfl (ok2 (ok8_5 ha0).2) (ok2_0 (ok8_5 ha0).2).1 ?_
      refine r_iload_n (pc := 22) dX8_sign_22 rfl rfl ?_
      refine r_ialoads (pc := 23) h dX8_sign_23 (ok2_0 (ok8_5 ha0).2).2 (fun h => ?_)
      refine r_goto (pc := 24) (tgt := 28) dX8_sign_24 (by decide) ?_
      exact r_irets (pc := 28) h rfl dX8_sign_28
set_option maxHeartbeats 4000000 in
theorem cg_X8_sign {X : sj_X} {g : sj_G} {N : Nat} {a0 : Nat} {x1 : Int} {V : sj_VV} {q : Int × sj_VV} (ha0 : OK8 g a0) (h : g_X8_sign N a0 x1 V = some q) : sj_C X m_X8_sign [sj_r (some a0), sj_i x1] (g, V) (some (sj_i q.1), (g, q.2)) :=
  sj_C_of (by decide +kernel) (Nat.le_of_ble_eq_true rfl) (lo := [some (sj_r (some a0)), some (sj_i x1)]) rfl (sj_weak (l2 := [some (sj_r (some a0)), some (sj_i x1)]) (⟨rfl, ⟨rfl, trivial⟩⟩) (st_X8_sign_0 a0 x1 V ha0 h))
set_option maxHeartbeats 4000000 in
theorem c_X8_sign {X : sj_X} {N : Nat} {a0 : Nat} {x1 : Int} {s : sj_Mem} {q : Int × sj_Mem} (h : f_X8_sign N a0 x1 s = some q) : sj_C X m_X8_sign [sj_r (some a0), sj_i x1] s (some (sj_i q.1), q.2) := by
  obtain ⟨g, V⟩ := s
  unfold f_X8_sign at h
  obtain ⟨ho, h1⟩ := e_ok_some h
  obtain ⟨q2, h2, rfl⟩ := sj_map_some h1
  exact cg_X8_sign ho h2
theorem dX9_begins_0 : decode cX9_begins 0 = .ok (.iconst 0, 1) := by decide +kernel
theorem dX9_begins_1 : decode cX9_begins 1 = .ok (.istore_n 3, 1) := by decide +kernel
theorem dX9_begins_2 : decode cX9_begins 2 = .ok (.iload_n 3, 1) := by decide +kernel
theorem dX9_begins_3 : decode cX9_begins 3 = .ok (.sipush 364, 3) := by decide +kernel
theorem dX9_begins_6 : decode cX9_begins 6 = .ok (.if_icmp .ge 16, 3) := by decide +kernel
theorem dX9_begins_9 : decode cX9_begins 9 = .ok (.aload_n 0, 1) := by decide +kernel
theorem dX9_begins_10 : decode cX9_begins 10 = .ok (.getfield 9, 3) := by decide +kernel
theorem dX9_begins_13 : decode cX9_begins 13 = .ok (.iload_n 3, 1) := by decide +kernel
theorem dX9_begins_14 : decode cX9_begins 14 = .ok (.iconst 0, 1) := by decide +kernel
theorem dX9_begins_15 : decode cX9_begins 15 = .ok (.iastore, 1) := by decide +kernel
theorem dX9_begins_16 : decode cX9_begins 16 = .ok (.iinc 3 1, 3) := by decide +kernel
theorem dX9_begins_19 : decode cX9_begins 19 = .ok (.goto (-17), 3) := by decide +kernel
theorem dX9_begins_22 : decode cX9_begins 22 = .ok (.aload_n 0, 1) := by decide +kernel
theorem dX9_begins_23 : decode cX9_begins 23 = .ok (.getfield 9, 3) := by decide +kernel
theorem dX9_begins_26 : decode cX9_begins 26 = .ok (.iconst 0, 1) := by decide +kernel
theorem dX9_begins_27 : decode cX9_begins 27 = .ok (.iload_n 1, 1) := by decide +kernel
theorem dX9_begins_28 : decode cX9_begins 28 = .ok (.iastore, 1) := by decide +kernel
theorem dX9_begins_29 : decode cX9_begins 29 = .ok (.aload_n 0, 1) := by decide +kernel
theorem dX9_begins_30 : decode cX9_begins 30 = .ok (.getfield 9, 3) := by decide +kernel
theorem dX9_begins_33 : decode cX9_begins 33 = .ok (.iconst 1, 1) := by decide +kernel
theorem dX9_begins_34 : decode cX9_begins 34 = .ok (.iload_n 2, 1) := by decide +kernel
theorem dX9_begins_35 : decode cX9_begins 35 = .ok (.iastore, 1) := by decide +kernel
theorem dX9_begins_36 : decode cX9_begins 36 = .ok (.iconst 0, 1) := by decide +kernel
theorem dX9_begins_37 : decode cX9_begins 37 = .ok (.istore_n 3, 1) := by decide +kernel
theorem dX9_begins_38 : decode cX9_begins 38 = .ok (.iload_n 3, 1) := by decide +kernel
theorem dX9_begins_39 : decode cX9_begins 39 = .ok (.bipush 41, 2) := by decide +kernel
theorem dX9_begins_41 : decode cX9_begins 41 = .ok (.if_icmp .ge 19, 3) := by decide +kernel
theorem dX9_begins_44 : decode cX9_begins 44 = .ok (.aload_n 0, 1) := by decide +kernel
theorem dX9_begins_45 : decode cX9_begins 45 = .ok (.getfield 9, 3) := by decide +kernel
theorem dX9_begins_48 : decode cX9_begins 48 = .ok (.iconst 3, 1) := by decide +kernel
theorem dX9_begins_49 : decode cX9_begins 49 = .ok (.iload_n 3, 1) := by decide +kernel
theorem dX9_begins_50 : decode cX9_begins 50 = .ok (.iadd, 1) := by decide +kernel
theorem dX9_begins_51 : decode cX9_begins 51 = .ok (.bipush 20, 2) := by decide +kernel
theorem dX9_begins_53 : decode cX9_begins 53 = .ok (.iastore, 1) := by decide +kernel
theorem dX9_begins_54 : decode cX9_begins 54 = .ok (.iinc 3 1, 3) := by decide +kernel
theorem dX9_begins_57 : decode cX9_begins 57 = .ok (.goto (-19), 3) := by decide +kernel
theorem dX9_begins_60 : decode cX9_begins 60 = .ok (.iconst 0, 1) := by decide +kernel
theorem dX9_begins_61 : decode cX9_begins 61 = .ok (.istore_n 3, 1) := by decide +kernel
theorem dX9_begins_62 : decode cX9_begins 62 = .ok (.iload_n 3, 1) := by decide +kernel
theorem dX9_begins_63 : decode cX9_begins 63 = .ok (.iconst 4, 1) := by decide +kernel
theorem dX9_begins_64 : decode cX9_begins 64 = .ok (.if_icmp .ge 56, 3) := by decide +kernel
theorem dX9_begins_67 : decode cX9_begins 67 = .ok (.aload_n 0, 1) := by decide +kernel
theorem dX9_begins_68 : decode cX9_begins 68 = .ok (.getfield 9, 3) := by decide +kernel
theorem dX9_begins_71 : decode cX9_begins 71 = .ok (.sipush 290, 3) := by decide +kernel
theorem dX9_begins_74 : decode cX9_begins 74 = .ok (.iconst 3, 1) := by decide +kernel
theorem dX9_begins_75 : decode cX9_begins 75 = .ok (.iload_n 3, 1) := by decide +kernel
theorem dX9_begins_76 : decode cX9_begins 76 = .ok (.imul, 1) := by decide +kernel
theorem dX9_begins_77 : decode cX9_begins 77 = .ok (.iadd, 1) := by decide +kernel
theorem dX9_begins_78 : decode cX9_begins 78 = .ok (.bipush 20, 2) := by decide +kernel
theorem dX9_begins_80 : decode cX9_begins 80 = .ok (.iastore, 1) := by decide +kernel
theorem dX9_begins_81 : decode cX9_begins 81 = .ok (.aload_n 0, 1) := by decide +kernel
theorem dX9_begins_82 : decode cX9_begins 82 = .ok (.getfield 9, 3) := by decide +kernel
theorem dX9_begins_85 : decode cX9_begins 85 = .ok (.sipush 290, 3) := by decide +kernel
theorem dX9_begins_88 : decode cX9_begins 88 = .ok (.iconst 3, 1) := by decide +kernel
theorem dX9_begins_89 : decode cX9_begins 89 = .ok (.iload_n 3, 1) := by decide +kernel
theorem dX9_begins_90 : decode cX9_begins 90 = .ok (.imul, 1) := by decide +kernel
theorem dX9_begins_91 : decode cX9_begins 91 = .ok (.iadd, 1) := by decide +kernel
theorem dX9_begins_92 : decode cX9_begins 92 = .ok (.iconst 1, 1) := by decide +kernel
theorem dX9_begins_93 : decode cX9_begins 93 = .ok (.iadd, 1) := by decide +kernel
theorem dX9_begins_94 : decode cX9_begins 94 = .ok (.bipush 10, 2) := by decide +kernel
theorem dX9_begins_96 : decode cX9_begins 96 = .ok (.iastore, 1) := by decide +kernel
theorem dX9_begins_97 : decode cX9_begins 97 = .ok (.aload_n 0, 1) := by decide +kernel
theorem dX9_begins_98 : decode cX9_begins 98 = .ok (.getfield 9, 3) := by decide +kernel
theorem dX9_begins_101 : decode cX9_begins 101 = .ok (.sipush 290, 3) := by decide +kernel
theorem dX9_begins_104 : decode cX9_begins 104 = .ok (.iconst 3, 1) := by decide +kernel
theorem dX9_begins_105 : decode cX9_begins 105 = .ok (.iload_n 3, 1) := by decide +kernel
theorem dX9_begins_106 : decode cX9_begins 106 = .ok (.imul, 1) := by decide +kernel
theorem dX9_begins_107 : decode cX9_begins 107 = .ok (.iadd, 1) := by decide +kernel
theorem dX9_begins_108 : decode cX9_begins 108 = .ok (.iconst 2, 1) := by decide +kernel
theorem dX9_begins_109 : decode cX9_begins 109 = .ok (.iadd, 1) := by decide +kernel
theorem dX9_begins_110 : decode cX9_begins 110 = .ok (.sipush 300, 3) := by decide +kernel
theorem dX9_begins_113 : decode cX9_begins 113 = .ok (.iastore, 1) := by decide +kernel
theorem dX9_begins_114 : decode cX9_begins 114 = .ok (.iinc 3 1, 3) := by decide +kernel
theorem dX9_begins_117 : decode cX9_begins 117 = .ok (.goto (-55), 3) := by decide +kernel
theorem dX9_begins_120 : decode cX9_begins 120 = .ok (.aload_n 0, 1) := by decide +kernel
theorem dX9_begins_121 : decode cX9_begins 121 = .ok (.getfield 9, 3) := by decide +kernel
theorem dX9_begins_124 : decode cX9_begins 124 = .ok (.sipush 320, 3) := by decide +kernel
theorem dX9_begins_127 : decode cX9_begins 127 = .ok (.iconst (-1), 1) := by decide +kernel
theorem dX9_begins_128 : decode cX9_begins 128 = .ok (.iastore, 1) := by decide +kernel
theorem dX9_begins_129 : decode cX9_begins 129 = .ok (.return_, 1) := by decide +kernel
set_option maxHeartbeats 4000000 in
theorem st_X9_begins_62_b {X : sj_X} {g : sj_G} {s0 : sj_Mem} {N : Nat} {q : Unit × sj_VV} {k62 : Nat → Int → sj_VV → Option (Unit × sj_VV)} (hk62 : ∀ (a0 : Nat) (x3 : Int) (V : sj_VV), OK9 g a0 → k62 a0 x3 V = some q → sj_T X m_X9_begins s0 (none, (g, q.2)) 62 [some (sj_r (some a0)), none, none, some (sj_i x3)] [] (g, V)) :
    ∀ (a0 : Nat) (x3 : Int) (V : sj_VV), OK9 g a0 → g_X9_begins_62_b N k62 a0 x3 V = some q → sj_T X m_X9_begins s0 (none, (g, q.2)) 62 [some (sj_r (some a0)), none, none, some (sj_i x3)] [] (g, V) := by
  intro a0 x3 V ha0 h
  unfold g_X9_begins_62_b at h
  refine r_iload_n (pc := 62) dX9_begins_62 rfl rfl ?_
  refine r_iconst (pc := 63) dX9_begins_63 ?_
  refine r_icmp_ge (pc := 64) (tgt := 120) h dX9_begins_64 (by decide) (fun h => ?_) (fun h => ?_)
  · refine r_aload_n (pc := 120) dX9_begins_120 rfl rfl ?_
    refine r_gRs (b := a0 + 1) (pc := 121) dX9_begins_121 fw_X9_9 rfl (ok9 ha0) (ok9_0 ha0).1 ?_
    refine r_sipush (pc := 124) dX9_begins_124 ⟨by decide, by decide⟩ ?_
    refine r_iconst (pc := 127) dX9_begins_127 ?_
    refine r_iastores (pc := 128) h dX9_begins_128 (ok9_0 ha0).2 (fun V1 h => ?_)
    exact r_vrets (pc := 129) h rfl dX9_begins_129
  · refine r_aload_n (pc := 67) dX9_begins_67 rfl rfl ?_
    refine r_gRs (b := a0 + 1) (pc := 68) dX9_begins_68 fw_X9_9 rfl (ok9 ha0) (ok9_0 ha0).1 ?_
    refine r_sipush (pc := 71) dX9_begins_71 ⟨by decide, by decide⟩ ?_
    refine r_iconst (pc := 74) dX9_begins_74 ?_
    refine r_iload_n (pc := 75) dX9_begins_75 rfl rfl ?_
    refine r_imul (pc := 76) dX9_begins_76 ?_
    refine r_iadd (pc := 77) dX9_begins_77 ?_
    refine r_bipush (pc := 78) dX9_begins_78 ⟨by decide, by decide⟩ ?_
    refine r_iastores (pc := 80) h dX9_begins_80 (ok9_0 ha0).2 (fun V2 h => ?_)
    refine r_aload_n (pc := 81) dX9_begins_81 rfl rfl ?_
    refine r_gRs (b := a0 + 1) (pc := 82) dX9_begins_82 fw_X9_9 rfl (ok9 ha0) (ok9_0 ha0).1 ?_
    refine r_sipush (pc := 85) dX9_begins_85 ⟨by decide, by decide⟩ ?_
    refine r_iconst (pc := 88) dX9_begins_88 ?_
    refine r_iload_n (pc := 89) dX9_begins_89 rfl rfl ?_
    refine r_imul (pc := 90) dX9_begins_90 ?_
    refine r_iadd (pc := 91) dX9_begins_91 ?_
    refine r_iconst (pc := 92) dX9_begins_92 ?_
    refine r_iadd (pc := 93) dX9_begins_93 ?_
    refine r_bipush (pc := 94) dX9_begins_94 ⟨by decide, by decide⟩ ?_
    refine r_iastores (pc := 96) h dX9_begins_96 (ok9_0 ha0).2 (fun V3 h => ?_)
    refine r_aload_n (pc := 97) dX9_begins_97 rfl rfl ?_
    refine r_gRs (b := a0 + 1) (pc := 98) dX9_begins_98 fw_X9_9 rfl (ok9 ha0) (ok9_0 ha0).1 ?_
    refine r_sipush (pc := 101) dX9_begins_101 ⟨by decide, by decide⟩ ?_
    refine r_iconst (pc := 104) dX9_begins_104 ?_
    refine r_iload_n (pc := 105) dX9_begins_105 rfl rfl ?_
    refine r_imul (pc := 106) dX9_begins_106 ?_
    refine r_iadd (pc := 107) dX9_begins_107 ?_
    refine r_iconst (pc := 108) dX9_begins_108 ?_
    refine r_iadd (pc := 109) dX9_begins_109 ?_
    refine r_sipush (pc := 110) dX9_begins_110 ⟨by decide, by decide⟩ ?_
    refine r_iastores (pc := 113) h dX9_begins_113 (ok9_0 ha0).2 (fun V4 h => ?_)
    refine r_iinc (ln := fun w => [some (sj_r (some a0)), none, none, some (sj_i w)]) (pc := 114) h dX9_begins_114 rfl (Nat.le_of_ble_eq_true rfl) (fun _ => rfl) (fun v5 h => ?_)
    refine r_goto (pc := 117) (tgt := 62) dX9_begins_117 (by decide) ?_
    exact sj_weak (l2 := [some (sj_r (some a0)), none, none, some (sj_i v5)]) (⟨rfl, ⟨rfl, trivial⟩⟩) (hk62 a0 v5 V4 ha0 h)
set_option maxHeartbeats 4000000 in
theorem st_X9_begins_62 {X : sj_X} {g : sj_G} {s0 : sj_Mem} {N : Nat} {q : Unit × sj_VV} :
    ∀ (n : Nat) (a0 : Nat) (x3 : Int) (V : sj_VV), OK9 g a0 → g_X9_begins_62 N n a0 x3 V = some q → sj_T X m_X9_begins s0 (none, (g, q.2)) 62 [some (sj_r (some a0)), none, none, some (sj_i x3)] [] (g, V) := by
  intro n
  induction n with
  | zero => intro a0 x3 V ha0 h; exact nomatch h
  | succ n ih => intro a0 x3 V ha0 h; exact st_X9_begins_62_b (N := N) ih a0 x3 V ha0 h
set_option maxHeartbeats 4000000 in
theorem st_X9_begins_38_b {X : sj_X} {g : sj_G} {s0 : sj_Mem} {N : Nat} {q : Unit × sj_VV} {k38 : Nat → Int → sj_VV → Option (Unit × sj_VV)} (hk38 : ∀ (a0 : Nat) (x3 : Int) (V : sj_VV), OK9 g a0 → k38 a0 x3 V = some q → sj_T X m_X9_begins s0 (none, (g, q.2)) 38 [some (sj_r (some a0)), none, none, some (sj_i x3)] [] (g, V)) :
    ∀ (a0 : Nat) (x3 : Int) (V : sj_VV), OK9 g a0 → g_X9_begins_38_b N k38 a0 x3 V = some q → sj_T X m_X9_begins s0 (none, (g, q.2)) 38 [some (sj_r (some a0)), none, none, some (sj_i x3)] [] (g, V) := by
  intro a0 x3 V ha0 h
  unfold g_X9_begins_38_b at h
  refine r_iload_n (pc := 38) dX9_begins_38 rfl rfl ?_
  refine r_bipush (pc := 39) dX9_begins_39 ⟨by decide, by decide⟩ ?_
  refine r_icmp_ge (pc := 41) (tgt := 60) h dX9_begins_41 (by decide) (fun h => ?_) (fun h => ?_)
  · refine r_iconst (pc := 60) dX9_begins_60 ?_
    refine r_istore_n (ln := [some (sj_r (some a0)), none, none, some (sj_i 0)]) (pc := 61) dX9_begins_61 rfl (Nat.le_of_ble_eq_true rfl) rfl ?_
    exact sj_weak (l2 := [some (sj_r (some a0)), none, none, some (sj_i 0)]) (⟨rfl, ⟨rfl, trivial⟩⟩) (st_X9_begins_62 N a0 0 V ha0 h)
  · refine r_aload_n (pc := 44) dX9_begins_44 rfl rfl ?_
    refine r_gRs (b := a0 + 1) (pc := 45) dX9_begins_45 fw_X9_9 rfl (ok9 ha0) (ok9_0 ha0).1 ?_
    refine r_iconst (pc := 48) dX9_begins_48 ?_
    refine r_iload_n (pc := 49) dX9_begins_49 rfl rfl ?_
    refine r_iadd (pc := 50) dX9_begins_50 ?_
    refine r_bipush (pc := 51) dX9_begins_51 ⟨by decide, by decide⟩ ?_
    refine r_iastores (pc := 53) h dX9_begins_53 (ok9_0 ha0).2 (fun V1 h => ?_)
    refine r_iinc (ln := fun w => [some (sj_r (some a0)), none, none, some (sj_i w)]) (pc := 54) h dX9_begins_54 rfl (Nat.le_of_ble_eq_true rfl) (fun _ => rfl) (fun v2 h => ?_)
    refine r_goto (pc := 57) (tgt := 38) dX9_begins_57 (by decide) ?_
    exact sj_weak (l2 := [some (sj_r (some a0)), none, none, some (sj_i v2)]) (⟨rfl, ⟨rfl, trivial⟩⟩) (hk38 a0 v2 V1 ha0 h)
set_option maxHeartbeats 4000000 in
theorem st_X9_begins_38 {X : sj_X} {g : sj_G} {s0 : sj_Mem} {N : Nat} {q : Unit × sj_VV} :
    ∀ (n : Nat) (a0 : Nat) (x3 : Int) (V : sj_VV), OK9 g a0 → g_X9_begins_38 N n a0 x3 V = some q → sj_T X m_X9_begins s0 (none, (g, q.2)) 38 [some (sj_r (some a0)), none, none, some (sj_i x3)] [] (g, V) := by
  intro n
  induction n with
  | zero => intro a0 x3 V ha0 h; exact nomatch h
  | succ n ih => intro a0 x3 V ha0 h; exact st_X9_begins_38_b (N := N) ih a0 x3 V ha0 h
set_option maxHeartbeats 4000000 in
theorem st_X9_begins_2_b {X : sj_X} {g : sj_G} {s0 : sj_Mem} {N : Nat} {q : Unit × sj_VV} {k2 : Nat → Int → Int → Int → sj_VV → Option (Unit × sj_VV)} (hk2 : ∀ (a0 : Nat) (x1 : Int) (x2 : Int) (x3 : Int) (V : sj_VV), OK9 g a0 → k2 a0 x1 x2 x3 V = some q → sj_T X m_X9_begins s0 (none, (g, q.2)) 2 [some (sj_r (some a0)), some (sj_i x1), some (sj_i x2), some (sj_i x3)] [] (g, V)) :
    ∀ (a0 : Nat) (x1 : Int) (x2 : Int) (x3 : Int) (V : sj_VV), OK9 g a0 → g_X9_begins_2_b N k2 a0 x1 x2 x3 V = some q → sj_T X m_X9_begins s0 (none, (g, q.2)) 2 [some (sj_r (some a0)), some (sj_i x1), some (sj_i x2), some (sj_i x3)] [] (g, V) := by
  intro a0 x1 x2 x3 V ha0 h
  unfold g_X9_begins_2_b at h
  refine r_iload_n (pc := 2) dX9_begins_2 rfl rfl ?_
  refine r_sipush (pc := 3) dX9_begins_3 ⟨by decide, by decide⟩ ?_
  refine r_icmp_ge (pc := 6) (tgt := 22) h dX9_begins_6 (by decide) (fun h => ?_) (fun h => ?_)
  · refine r_aload_n (pc := 22) dX9_begins_22 rfl rfl ?_
    refine r_gRs (b := a0 + 1) (pc := 23) dX9_begins_23 fw_X9_9 rfl (ok9 ha0) (ok9_0 ha0).1 ?_
    refine r_iconst (pc := 26) dX9_begins_26 ?_
    refine r_iload_n (pc := 27) dX9_begins_27 rfl rfl ?_
    refine r_iastores (pc := 28) h dX9_begins_28 (ok9_0 ha0).2 (fun V1 h => ?_)
    refine r_aload_n (pc := 29) dX9_begins_29 rfl rfl ?_
    refine r_gRs (b := a0 + 1) (pc := 30) dX9_begins_30 fw_X9_9 rfl (ok9 ha0) (ok9_0 ha0).1 ?_
    refine r_iconst (pc := 33) dX9_begins_33 ?_
    refine r_iload_n (pc := 34) dX9_begins_34 rfl rfl ?_
    refine r_iastores (pc := 35) h dX9_begins_35 (ok9_0 ha0).2 (fun V2 h => ?_)
    refine r_iconst (pc := 36) dX9_begins_36 ?_
    refine r_istore_n (ln := [some (sj_r (some a0)), some (sj_i x1), some (sj_i x2), some (sj_i 0)]) (pc := 37) dX9_begins_37 rfl (Nat.le_of_ble_eq_true rfl) rfl ?_
    exact sj_weak (l2 := [some (sj_r (some a0)), none, none, some (sj_i 0)]) (⟨rfl, ⟨rfl, trivial⟩⟩) (st_X9_begins_38 N a0 0 V2 ha0 h)
  · refine r_aload_n (pc := 9) dX9_begins_9 rfl rfl ?_
    refine r_gRs (b := a0 + 1) (pc := 10) dX9_begins_10 fw_X9_9 rfl (ok9 ha0) (ok9_0 ha0).1 ?_
    refine r_iload_n (pc := 13) dX9_begins_13 rfl rfl ?_
    refine r_iconst (pc := 14) dX9_begins_14 ?_
    refine r_iastores (pc := 15) h dX9_begins_15 (ok9_0 ha0).2 (fun V3 h => ?_)
    refine r_iinc (ln := fun w => [some (sj_r (some a0)), some (sj_i x1), some (sj_i x2), some (sj_i w)]) (pc := 16) h dX9_begins_16 rfl (Nat.le_of_ble_eq_true rfl) (fun _ => rfl) (fun v4 h => ?_)
    refine r_goto (pc := 19) (tgt := 2) dX9_begins_19 (by decide) ?_
    exact sj_weak (l2 := [some (sj_r (some a0)), some (sj_i x1), some (sj_i x2), some (sj_i v4)]) (⟨rfl, ⟨rfl, ⟨rfl, ⟨rfl, trivial⟩⟩⟩⟩) (hk2 a0 x1 x2 v4 V3 ha0 h)
set_option maxHeartbeats 4000000 in
theorem st_X9_begins_2 {X : sj_X} {g : sj_G} {s0 : sj_Mem} {N : Nat} {q : Unit × sj_VV} :
    ∀ (n : Nat) (a0 : Nat) (x1 : Int) (x2 : Int) (x3 : Int) (V : sj_VV), OK9 g a0 → g_X9_begins_2 N n a0 x1 x2 x3 V = some q → sj_T X m_X9_begins s0 (none, (g, q.2)) 2 [some (sj_r (some a0)), some (sj_i x1), some (sj_i x2), some (sj_i x3)] [] (g, V) := by
  intro n
  induction n with
  | zero => intro a0 x1 x2 x3 V ha0 h; exact nomatch h
  | succ n ih => intro a0 x1 x2 x3 V ha0 h; exact st_X9_begins_2_b (N := N) ih a0 x1 x2 x3 V ha0 h
set_option maxHeartbeats 4000000 in
theorem st_X9_begins_0 {X : sj_X} {g : sj_G} {s0 : sj_Mem} {N : Nat} {q : Unit × sj_VV} :
    ∀ (a0 : Nat) (x1 : Int) (x2 : Int) (V : sj_VV), OK9 g a0 → g_X9_begins N a0 x1 x2 V = some q → sj_T X m_X9_begins s0 (none, (g, q.2)) 0 [some (sj_r (some a0)), some (sj_i x1), some (sj_i x2), none] [] (g, V) := by
  intro a0 x1 x2 V ha0 h
  unfold g_X9_begins at h
  refine r_iconst (pc := 0) dX9_begins_0 ?_
  refine r_istore_n (ln := [some (sj_r (some a0)), some (sj_i x1), some (sj_i x2), some (sj_i 0)]) (pc := 1) dX9_begins_1 rfl (Nat.le_of_ble_eq_true rfl) rfl ?_
  exact sj_weak (l2 := [some (sj_r (some a0)), some (sj_i x1), some (sj_i x2), some (sj_i 0)]) (⟨rfl, ⟨rfl, ⟨rfl, ⟨rfl, trivial⟩⟩⟩⟩) (st_X9_begins_2 N a0 x1 x2 0 V ha0 h)
set_option maxHeartbeats 4000000 in
theorem cg_X9_begins {X : sj_X} {g : sj_G} {N : Nat} {a0 : Nat} {x1 : Int} {x2 : Int} {V : sj_VV} {q : Unit × sj_VV} (ha0 : OK9 g a0) (h : g_X9_begins N a0 x1 x2 V = some q) : sj_C X m_X9_begins [sj_r (some a0), sj_i x1, sj_i x2] (g, V) (none, (g, q.2)) :=
  sj_C_of (by decide +kernel) (Nat.le_of_ble_eq_true rfl) (lo := [some (sj_r (some a0)), some (sj_i x1), some (sj_i x2), none]) rfl (sj_weak (l2 := [some (sj_r (some a0)), some (sj_i x1), some (sj_i x2), none]) (⟨rfl, ⟨rfl, ⟨rfl, trivial⟩⟩⟩) (st_X9_begins_0 a0 x1 x2 V ha0 h))
theorem dX9_soilOver_0 : decode cX9_soilOver 0 = .ok (.iconst 0, 1) := by decide +kernel
theorem dX9_soilOver_1 : decode cX9_soilOver 1 = .ok (.istore_n 1, 1) := by decide +kernel
theorem dX9_soilOver_2 : decode cX9_soilOver 2 = .ok (.iconst 0, 1) := by decide +kernel
theorem dX9_soilOver_3 : decode cX9_soilOver 3 = .ok (.istore_n 2, 1) := by decide +kernel
theorem dX9_soilOver_4 : decode cX9_soilOver 4 = .ok (.iload_n 2, 1) := by decide +kernel
theorem dX9_soilOver_5 : decode cX9_soilOver 5 = .ok (.aload_n 0, 1) := by decide +kernel
theorem dX9_soilOver_6 : decode cX9_soilOver 6 = .ok (.getfield 9, 3) := by decide +kernel
theorem dX9_soilOver_9 : decode cX9_soilOver 9 = .ok (.iconst 0, 1) := by decide +kernel
theorem dX9_soilOver_10 : decode cX9_soilOver 10 = .ok (.iaload, 1) := by decide +kernel
theorem dX9_soilOver_11 : decode cX9_soilOver 11 = .ok (.if_icmp .gt 30, 3) := by decide +kernel
theorem dX9_soilOver_14 : decode cX9_soilOver 14 = .ok (.iload_n 1, 1) := by decide +kernel
theorem dX9_soilOver_15 : decode cX9_soilOver 15 = .ok (.aload_n 0, 1) := by decide +kernel
theorem dX9_soilOver_16 : decode cX9_soilOver 16 = .ok (.getfield 9, 3) := by decide +kernel
theorem dX9_soilOver_19 : decode cX9_soilOver 19 = .ok (.iconst 3, 1) := by decide +kernel
theorem dX9_soilOver_20 : decode cX9_soilOver 20 = .ok (.iload_n 2, 1) := by decide +kernel
theorem dX9_soilOver_21 : decode cX9_soilOver 21 = .ok (.iadd, 1) := by decide +kernel
theorem dX9_soilOver_22 : decode cX9_soilOver 22 = .ok (.iaload, 1) := by decide +kernel
theorem dX9_soilOver_23 : decode cX9_soilOver 23 = .ok (.aload_n 0, 1) := by decide +kernel
theorem dX9_soilOver_24 : decode cX9_soilOver 24 = .ok (.getfield 9, 3) := by decide +kernel
theorem dX9_soilOver_27 : decode cX9_soilOver 27 = .ok (.bipush 44, 2) := by decide +kernel
theorem dX9_soilOver_29 : decode cX9_soilOver 29 = .ok (.iload_n 2, 1) := by decide +kernel
theorem dX9_soilOver_30 : decode cX9_soilOver 30 = .ok (.iadd, 1) := by decide +kernel
theorem dX9_soilOver_31 : decode cX9_soilOver 31 = .ok (.iaload, 1) := by decide +kernel
theorem dX9_soilOver_32 : decode cX9_soilOver 32 = .ok (.isub, 1) := by decide +kernel
theorem dX9_soilOver_33 : decode cX9_soilOver 33 = .ok (.iadd, 1) := by decide +kernel
theorem dX9_soilOver_34 : decode cX9_soilOver 34 = .ok (.istore_n 1, 1) := by decide +kernel
theorem dX9_soilOver_35 : decode cX9_soilOver 35 = .ok (.iinc 2 1, 3) := by decide +kernel
theorem dX9_soilOver_38 : decode cX9_soilOver 38 = .ok (.goto (-34), 3) := by decide +kernel
theorem dX9_soilOver_41 : decode cX9_soilOver 41 = .ok (.iload_n 1, 1) := by decide +kernel
theorem dX9_soilOver_42 : decode cX9_soilOver 42 = .ok (.ireturn, 1) := by decide +kernel
set_option maxHeartbeats 4000000 in
theorem st_X9_soilOver_4_b {X : sj_X} {g : sj_G} {s0 : sj_Mem} {N : Nat} {q : Int × sj_VV} {k4 : Nat → Int → Int → sj_VV → Option (Int × sj_VV)} (hk4 : ∀ (a0 : Nat) (x1 : Int) (x2 : Int) (V : sj_VV), OK9 g a0 → k4 a0 x1 x2 V = some q → sj_T X m_X9_soilOver s0 (some (sj_i q.1), (g, q.2)) 4 [some (sj_r (some a0)), some (sj_i x1), some (sj_i x2)] [] (g, V)) :
    ∀ (a0 : Nat) (x1 : Int) (x2 : Int) (V : sj_VV), OK9 g a0 → g_X9_soilOver_4_b N k4 a0 x1 x2 V = some q → sj_T X m_X9_soilOver s0 (some (sj_i q.1), (g, q.2)) 4 [some (sj_r (some a0)), some (sj_i x1), some (sj_i x2)] [] (g, V) := by
  intro a0 x1 x2 V ha0 h
  unfold g_X9_soilOver_4_b at h
  refine r_iload_n (pc := 4) dX9_soilOver_4 rfl rfl ?_
  refine r_aload_n (pc := 5) dX9_soilOver_5 rfl rfl ?_
  refine r_gRs (b := a0 + 1) (pc := 6) dX9_soilOver_6 fw_X9_9 rfl (ok9 ha0) (ok9_0 ha0).1 ?_
  refine r_iconst (pc := 9) dX9_soilOver_9 ?_
  refine r_ialoads (pc := 10) h dX9_soilOver_10 (ok9_0 ha0).2 (fun h => ?_)
  refine r_icmp_gt (pc := 11) (tgt := 41) h dX9_soilOver_11 (by decide) (fun h => ?_) (fun h => ?_)
  · refine r_iload_n (pc := 41) dX9_soilOver_41 rfl rfl ?_
    exact r_irets (pc := 42) h rfl dX9_soilOver_42
  · refine r_iload_n (pc := 14) dX9_soilOver_14 rfl rfl ?_
    refine r_aload_n (pc := 15) dX9_soilOver_15 rfl rfl ?_
    refine r_gRs (b := a0 + 1) (pc := 16) dX9_soilOver_16 fw_X9_9 rfl (ok9 ha0) (ok9_0 ha0).1 ?_
    refine r_iconst (pc := 19) dX9_soilOver_19 ?_
    refine r_iload_n (pc := 20) dX9_soilOver_20 rfl rfl ?_
    refine r_iadd (pc := 21) dX9_soilOver_21 ?_
    refine r_ialoads (pc := 22) h dX9_soilOver_22 (ok9_0 ha0).2 (fun h => ?_)
    refine r_aload_n (pc := 23) dX9_soilOver_23 rfl rfl ?_
    refine r_gRs (b := a0 + 1) (pc := 24) dX9_soilOver_24 fw_X9_9 rfl (ok9 ha0) (ok9_0 ha0).1 ?_
    refine r_bipush (pc := 27) dX9_soilOver_27 ⟨by decide, by decide⟩ ?_
    refine r_iload_n (pc := 29) dX9_soilOver_29 rfl rfl ?_
    refine r_iadd (pc := 30) dX9_soilOver_30 ?_
    refine r_ialoads (pc := 31) h dX9_soilOver_31 (ok9_0 ha0).2 (fun h => ?_)
    refine r_isub (pc := 32) dX9_soilOver_32 ?_
    refine r_iadd (pc := 33) dX9_soilOver_33 ?_
    refine r_istore_nL (ln := fun w => [some (sj_r (some a0)), some (sj_i w), some (sj_i x2)]) (pc := 34) h dX9_soilOver_34 rfl (Nat.le_of_ble_eq_true rfl) (fun _ => rfl) (fun v1 h => ?_)
    refine r_iinc (ln := fun w => [some (sj_r (some a0)), some (sj_i v1), some (sj_i w)]) (pc := 35) h dX9_soilOver_35 rfl (Nat.le_of_ble_eq_true rfl) (fun _ => rfl) (fun v2 h => ?_)
    refine r_goto (pc := 38) (tgt := 4) dX9_soilOver_38 (by decide) ?_
    exact sj_weak (l2 := [some (sj_r (some a0)), some (sj_i v1), some (sj_i v2)]) (⟨rfl, ⟨rfl, ⟨rfl, trivial⟩⟩⟩) (hk4 a0 v1 v2 V ha0 h)
set_option maxHeartbeats 4000000 in
theorem st_X9_soilOver_4 {X : sj_X} {g : sj_G} {s0 : sj_Mem} {N : Nat} {q : Int × sj_VV} :
    ∀ (n : Nat) (a0 : Nat) (x1 : Int) (x2 : Int) (V : sj_VV), OK9 g a0 → g_X9_soilOver_4 N n a0 x1 x2 V = some q → sj_T X m_X9_soilOver s0 (some (sj_i q.1), (g, q.2)) 4 [some (sj_r (some a0)), some (sj_i x1), some (sj_i x2)] [] (g, V) := by
  intro n
  induction n with
  | zero => intro a0 x1 x2 V ha0 h; exact nomatch h
  | succ n ih => intro a0 x1 x2 V ha0 h; exact st_X9_soilOver_4_b (N := N) ih a0 x1 x2 V ha0 h
set_option maxHeartbeats 4000000 in
theorem st_X9_soilOver_0 {X : sj_X} {g : sj_G} {s0 : sj_Mem} {N : Nat} {q : Int × sj_VV} :
    ∀ (a0 : Nat) (V : sj_VV), OK9 g a0 → g_X9_soilOver N a0 V = some q → sj_T X m_X9_soilOver s0 (some (sj_i q.1), (g, q.2)) 0 [some (sj_r (some a0)), none, none] [] (g, V) := by
  intro a0 V ha0 h
  unfold g_X9_soilOver at h
  refine r_iconst (pc := 0) dX9_soilOver_0 ?_
  refine r_istore_n (ln := [some (sj_r (some a0)), some (sj_i 0), none]) (pc := 1) dX9_soilOver_1 rfl (Nat.le_of_ble_eq_true rfl) rfl ?_
  refine r_iconst (pc := 2) dX9_soilOver_2 ?_
  refine r_istore_n (ln := [some (sj_r (some a0)), some (sj_i 0), some (sj_i 0)]) (pc := 3) dX9_soilOver_3 rfl (Nat.le_of_ble_eq_true rfl) rfl ?_
  exact sj_weak (l2 := [some (sj_r (some a0)), some (sj_i 0), some (sj_i 0)]) (⟨rfl, ⟨rfl, ⟨rfl, trivial⟩⟩⟩) (st_X9_soilOver_4 N a0 0 0 V ha0 h)
set_option maxHeartbeats 4000000 in
theorem cg_X9_soilOver {X : sj_X} {g : sj_G} {N : Nat} {a0 : Nat} {V : sj_VV} {q : Int × sj_VV} (ha0 : OK9 g a0) (h : g_X9_soilOver N a0 V = some q) : sj_C X m_X9_soilOver [sj_r (some a0)] (g, V) (some (sj_i q.1), (g, q.2)) :=
  sj_C_of (by decide +kernel) (Nat.le_of_ble_eq_true rfl) (lo := [some (sj_r (some a0)), none, none]) rfl (sj_weak (l2 := [some (sj_r (some a0)), none, none]) (⟨rfl, trivial⟩) (st_X9_soilOver_0 a0 V ha0 h))
set_option maxHeartbeats 4000000 in
theorem c_X9_soilOver {X : sj_X} {N : Nat} {a0 : Nat} {s : sj_Mem} {q : Int × sj_Mem} (h : f_X9_soilOver N a0 s = some q) : sj_C X m_X9_soilOver [sj_r (some a0)] s (some (sj_i q.1), q.2) := by
  obtain ⟨g, V⟩ := s
  unfold f_X9_soilOver at h
  obtain ⟨ho, h1⟩ := e_ok_some h
  obtain ⟨q2, h2, rfl⟩ := sj_map_some h1
  exact cg_X9_soilOver ho h2
theorem dX9_most_0 : decode cX9_most 0 = .ok (.iload_n 0, 1) := by decide +kernel
theorem dX9_most_1 : decode cX9_most 1 = .ok (.iload_n 1, 1) := by decide +kernel
theorem dX9_most_2 : decode cX9_most 2 = .ok (.if_icmp .le 7, 3) := by decide +kernel
theorem dX9_most_5 : decode cX9_most 5 = .ok (.iload_n 0, 1) := by decide +kernel
theorem dX9_most_6 : decode cX9_most 6 = .ok (.goto 4, 3) := by decide +kernel
theorem dX9_most_9 : decode cX9_most 9 = .ok (.iload_n 1, 1) := by decide +kernel
theorem dX9_most_10 : decode cX9_most 10 = .ok (.ireturn, 1) := by decide +kernel
set_option maxHeartbeats 4000000 in
theorem st_X9_most_0 {X : sj_X} {g : sj_G} {s0 : sj_Mem} {N : Nat} {q : Int × sj_VV} :
    ∀ (x0 : Int) (x1 : Int) (V : sj_VV), g_X9_most N x0 x1 V = some q → sj_T X m_X9_most s0 (some (sj_i q.1), (g, q.2)) 0 [some (sj_i x0), some (sj_i x1)] [] (g, V) := by
  intro x0 x1 V  h
  unfold g_X9_most at h
  refine r_iload_n (pc := 0) dX9_most_0 rfl rfl ?_
  refine r_iload_n (pc := 1) dX9_most_1 rfl rfl ?_
  refine r_icmp_le (pc := 2) (tgt := 9) h dX9_most_2 (by decide) (fun h => ?_) (fun h => ?_)
  · refine r_iload_n (pc := 9) dX9_most_9 rfl rfl ?_
    exact r_irets (pc := 10) h rfl dX9_most_10
  · refine r_iload_n (pc := 5) dX9_most_5 rfl rfl ?_
    refine r_goto (pc := 6) (tgt := 10) dX9_most_6 (by decide) ?_
    exact r_irets (pc := 10) h rfl dX9_most_10
set_option maxHeartbeats 4000000 in
theorem cg_X9_most {X : sj_X} {g : sj_G} {N : Nat} {x0 : Int} {x1 : Int} {V : sj_VV} {q : Int × sj_VV} (h : g_X9_most N x0 x1 V = some q) : sj_C X m_X9_most [sj_i x0, sj_i x1] (g, V) (some (sj_i q.1), (g, q.2)) :=
  sj_C_of (by decide +kernel) (Nat.le_of_ble_eq_true rfl) (lo := [some (sj_i x0), some (sj_i x1)]) rfl (sj_weak (l2 := [some (sj_i x0), some (sj_i x1)]) (⟨rfl, ⟨rfl, trivial⟩⟩) (st_X9_most_0 x0 x1 V h))
set_option maxHeartbeats 4000000 in
theorem c_X9_most {X : sj_X} {N : Nat} {x0 : Int} {x1 : Int} {s : sj_Mem} {q : Int × sj_Mem} (h : f_X9_most N x0 x1 s = some q) : sj_C X m_X9_most [sj_i x0, sj_i x1] s (some (sj_i q.1), q.2) := by
  obtain ⟨g, V⟩ := s
  unfold f_X9_most at h
  obtain ⟨ho, h1⟩ := e_ok_some h
  obtain ⟨q2, h2, rfl⟩ := sj_map_some h1
  exact cg_X9_most  h2
