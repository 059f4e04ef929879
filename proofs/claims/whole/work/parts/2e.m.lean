theorem dX8_column_0 : decode cX8_column 0 = .ok (.aload_n 0, 1) := by decide +kernel
theorem dX8_column_1 : decode cX8_column 1 = .ok (.getfield 12, 3) := by decide +kernel
theorem dX8_column_4 : decode cX8_column 4 = .ok (.iload_n 1, 1) := by decide +kernel
theorem dX8_column_5 : decode cX8_column 5 = .ok (.invokevirtual 78, 3) := by decide +kernel
theorem dX8_column_8 : decode cX8_column 8 = .ok (.ifCond .ne 6, 3) := by decide +kernel
theorem dX8_column_11 : decode cX8_column 11 = .ok (.bipush (-10), 2) := by decide +kernel
theorem dX8_column_13 : decode cX8_column 13 = .ok (.ireturn, 1) := by decide +kernel
theorem dX8_column_14 : decode cX8_column 14 = .ok (.iload_n 2, 1) := by decide +kernel
theorem dX8_column_15 : decode cX8_column 15 = .ok (.tableswitch 112 0 8 #[49, 59, 69, 78, 88, 88, 88, 88, 100], 49) := by decide +kernel
theorem dX8_column_64 : decode cX8_column 64 = .ok (.aload_n 0, 1) := by decide +kernel
theorem dX8_column_65 : decode cX8_column 65 = .ok (.getfield 12, 3) := by decide +kernel
theorem dX8_column_68 : decode cX8_column 68 = .ok (.getfield 100, 3) := by decide +kernel
theorem dX8_column_71 : decode cX8_column 71 = .ok (.iload_n 1, 1) := by decide +kernel
theorem dX8_column_72 : decode cX8_column 72 = .ok (.iaload, 1) := by decide +kernel
theorem dX8_column_73 : decode cX8_column 73 = .ok (.ireturn, 1) := by decide +kernel
theorem dX8_column_74 : decode cX8_column 74 = .ok (.aload_n 0, 1) := by decide +kernel
theorem dX8_column_75 : decode cX8_column 75 = .ok (.getfield 12, 3) := by decide +kernel
theorem dX8_column_78 : decode cX8_column 78 = .ok (.getfield 103, 3) := by decide +kernel
theorem dX8_column_81 : decode cX8_column 81 = .ok (.iload_n 1, 1) := by decide +kernel
theorem dX8_column_82 : decode cX8_column 82 = .ok (.iaload, 1) := by decide +kernel
theorem dX8_column_83 : decode cX8_column 83 = .ok (.ireturn, 1) := by decide +kernel
theorem dX8_column_84 : decode cX8_column 84 = .ok (.aload_n 0, 1) := by decide +kernel
theorem dX8_column_85 : decode cX8_column 85 = .ok (.getfield 12, 3) := by decide +kernel
theorem dX8_column_88 : decode cX8_column 88 = .ok (.iload_n 1, 1) := by decide +kernel
theorem dX8_column_89 : decode cX8_column 89 = .ok (.invokevirtual 218, 3) := by decide +kernel
theorem dX8_column_92 : decode cX8_column 92 = .ok (.ireturn, 1) := by decide +kernel
theorem dX8_column_93 : decode cX8_column 93 = .ok (.aload_n 0, 1) := by decide +kernel
theorem dX8_column_94 : decode cX8_column 94 = .ok (.getfield 12, 3) := by decide +kernel
theorem dX8_column_97 : decode cX8_column 97 = .ok (.getfield 90, 3) := by decide +kernel
theorem dX8_column_100 : decode cX8_column 100 = .ok (.iload_n 1, 1) := by decide +kernel
theorem dX8_column_101 : decode cX8_column 101 = .ok (.iaload, 1) := by decide +kernel
theorem dX8_column_102 : decode cX8_column 102 = .ok (.ireturn, 1) := by decide +kernel
theorem dX8_column_103 : decode cX8_column 103 = .ok (.aload_n 0, 1) := by decide +kernel
theorem dX8_column_104 : decode cX8_column 104 = .ok (.getfield 12, 3) := by decide +kernel
theorem dX8_column_107 : decode cX8_column 107 = .ok (.iload_n 2, 1) := by decide +kernel
theorem dX8_column_108 : decode cX8_column 108 = .ok (.iconst 4, 1) := by decide +kernel
theorem dX8_column_109 : decode cX8_column 109 = .ok (.isub, 1) := by decide +kernel
theorem dX8_column_110 : decode cX8_column 110 = .ok (.iload_n 1, 1) := by decide +kernel
theorem dX8_column_111 : decode cX8_column 111 = .ok (.invokevirtual 222, 3) := by decide +kernel
theorem dX8_column_114 : decode cX8_column 114 = .ok (.ireturn, 1) := by decide +kernel
theorem dX8_column_115 : decode cX8_column 115 = .ok (.aload_n 0, 1) := by decide +kernel
theorem dX8_column_116 : decode cX8_column 116 = .ok (.getfield 12, 3) := by decide +kernel
theorem dX8_column_119 : decode cX8_column 119 = .ok (.getfield 106, 3) := by decide +kernel
theorem dX8_column_122 : decode cX8_column 122 = .ok (.iload_n 1, 1) := by decide +kernel
theorem dX8_column_123 : decode cX8_column 123 = .ok (.invokevirtual 225, 3) := by decide +kernel
theorem dX8_column_126 : decode cX8_column 126 = .ok (.ireturn, 1) := by decide +kernel
theorem dX8_column_127 : decode cX8_column 127 = .ok (.bipush (-10), 2) := by decide +kernel
theorem dX8_column_129 : decode cX8_column 129 = .ok (.ireturn, 1) := by decide +kernel
set_option maxHeartbeats 4000000 in
theorem t_X8_column_0 {X : sj_X} {s0 : sj_Mem} {N : Nat} {q : Int × sj_Mem} :
    ∀ (a0 : Nat) (x1 : Int) (x2 : Int) (s : sj_Mem), f_X8_column N a0 x1 x2 s = some q → sj_T X m_X8_column s0 (some (sj_i q.1), q.2) 0 [some (sj_r (some a0)), some (sj_i x1), some (sj_i x2)] [] s := by
  intro a0 x1 x2 s h
  unfold f_X8_column at h
  refine r_aload_n (pc := 0) dX8_column_0 rfl rfl ?_
  refine r_gR (pc := 1) h dX8_column_1 fw_X8_12 rfl (fun r1 h => ?_)
  refine r_iload_n (pc := 4) dX8_column_4 rfl rfl ?_
  obtain ⟨a2, ea2, g⟩ := e_nn_some h
  clear h
  subst ea2
  have h := g
  clear g
  refine r_callV (pc := 5) (fun v => some (sj_i v)) (As := [sj_i x1]) (rest := []) h dX8_column_5 mw_X8_78 vw_X0_hasColumn (fun _ _ hc => c_X0_hasColumn hc) rfl ⟨(Nat.le_of_ble_eq_true rfl), (Nat.le_of_ble_eq_true rfl)⟩ (Nat.le_of_ble_eq_true rfl) rfl (fun v4 s3 h => ?_)
  refine r_if_ne (pc := 8) (tgt := 14) h dX8_column_8 (by decide) (fun h => ?_) (fun h => ?_)
  · refine r_bipush (pc := 11) dX8_column_11 ⟨by decide, by decide⟩ ?_
    exact r_iret (pc := 13) h rfl dX8_column_13
  · refine r_iload_n (pc := 14) dX8_column_14 rfl rfl ?_
    obtain ⟨hr, h⟩ := e_sw_some h
    refine sj_if h (fun c0 h => ?_) (fun c0 h => ?_)
    · refine r_tcase (pc := 15) (tgt := 64) (j := 0) hr c0 dX8_column_15 (by decide) (by decide) rfl (by decide) ?_
      refine r_aload_n (pc := 64) dX8_column_64 rfl rfl ?_
      refine r_gR (pc := 65) h dX8_column_65 fw_X8_12 rfl (fun r5 h => ?_)
      obtain ⟨a6, ea6, g⟩ := e_nn_some h
      clear h
      subst ea6
      have h := g
      clear g
      refine r_gR (pc := 68) h dX8_column_68 fw_X8_100 rfl (fun r7 h => ?_)
      refine r_iload_n (pc := 71) dX8_column_71 rfl rfl ?_
      obtain ⟨a8, ea8, g⟩ := e_nn_some h
      clear h
      subst ea8
      have h := g
      clear g
      refine r_iaload (pc := 72) h dX8_column_72 (fun v9 h => ?_)
      exact r_iret (pc := 73) h rfl dX8_column_73
    refine sj_if h (fun c1 h => ?_) (fun c1 h => ?_)
    · refine r_tcase (pc := 15) (tgt := 74) (j := 1) hr c1 dX8_column_15 (by decide) (by decide) rfl (by decide) ?_
      refine r_aload_n (pc := 74) dX8_column_74 rfl rfl ?_
      refine r_gR (pc := 75) h dX8_column_75 fw_X8_12 rfl (fun r10 h => ?_)
      obtain ⟨a11, ea11, g⟩ := e_nn_some h
      clear h
      subst ea11
      have h := g
      clear g
      refine r_gR (pc := 78) h dX8_column_78 fw_X8_103 rfl (fun r12 h => ?_)
      refine r_iload_n (pc := 81) dX8_column_81 rfl rfl ?_
      obtain ⟨a13, ea13, g⟩ := e_nn_some h
      clear h
      subst ea13
      have h := g
      clear g
      refine r_iaload (pc := 82) h dX8_column_82 (fun v14 h => ?_)
      exact r_iret (pc := 83) h rfl dX8_column_83
    refine sj_if h (fun c2 h => ?_) (fun c2 h => ?_)
    · refine r_tcase (pc := 15) (tgt := 84) (j := 2) hr c2 dX8_column_15 (by decide) (by decide) rfl (by decide) ?_
      refine r_aload_n (pc := 84) dX8_column_84 rfl rfl ?_
      refine r_gR (pc := 85) h dX8_column_85 fw_X8_12 rfl (fun r15 h => ?_)
      refine r_iload_n (pc := 88) dX8_column_88 rfl rfl ?_
      obtain ⟨a16, ea16, g⟩ := e_nn_some h
      clear h
      subst ea16
      have h := g
      clear g
      refine r_callV (pc := 89) (fun v => some (sj_i v)) (As := [sj_i x1]) (rest := []) h dX8_column_89 mw_X8_218 vw_X0_waterAt (fun _ _ hc => c_X0_waterAt hc) rfl ⟨(Nat.le_of_ble_eq_true rfl), (Nat.le_of_ble_eq_true rfl)⟩ (Nat.le_of_ble_eq_true rfl) rfl (fun v18 s17 h => ?_)
      exact r_iret (pc := 92) h rfl dX8_column_92
    refine sj_if h (fun c3 h => ?_) (fun c3 h => ?_)
    · refine r_tcase (pc := 15) (tgt := 93) (j := 3) hr c3 dX8_column_15 (by decide) (by decide) rfl (by decide) ?_
      refine r_aload_n (pc := 93) dX8_column_93 rfl rfl ?_
      refine r_gR (pc := 94) h dX8_column_94 fw_X8_12 rfl (fun r19 h => ?_)
      obtain ⟨a20, ea20, g⟩ := e_nn_some h
      clear h
      subst ea20
      have h := g
      clear g
      refine r_gR (pc := 97) h dX8_column_97 fw_X8_90 rfl (fun r21 h => ?_)
      refine r_iload_n (pc := 100) dX8_column_100 rfl rfl ?_
      obtain ⟨a22, ea22, g⟩ := e_nn_some h
      clear h
      subst ea22
      have h := g
      clear g
      refine r_iaload (pc := 101) h dX8_column_101 (fun v23 h => ?_)
      exact r_iret (pc := 102) h rfl dX8_column_102
    refine sj_if h (fun c4 h => ?_) (fun c4 h => ?_)
    · refine r_tcase (pc := 15) (tgt := 103) (j := 4) hr c4 dX8_column_15 (by decide) (by decide) rfl (by decide) ?_
      refine r_aload_n (pc := 103) dX8_column_103 rfl rfl ?_
      refine r_gR (pc := 104) h dX8_column_104 fw_X8_12 rfl (fun r24 h => ?_)
      refine r_iload_n (pc := 107) dX8_column_107 rfl rfl ?_
      refine r_iconst (pc := 108) dX8_column_108 ?_
      refine r_isub (pc := 109) dX8_column_109 ?_
      refine r_iload_n (pc := 110) dX8_column_110 rfl rfl ?_
      obtain ⟨a25, ea25, g⟩ := e_nn_some h
      clear h
      subst ea25
      have h := g
      clear g
      refine r_callV (pc := 111) (fun v => some (sj_i v)) (As := [sj_i (x2 - 4), sj_i x1]) (rest := []) h dX8_column_111 mw_X8_222 vw_X0_topAt (fun _ _ hc => c_X0_topAt hc) rfl ⟨(Nat.le_of_ble_eq_true rfl), (Nat.le_of_ble_eq_true rfl)⟩ (Nat.le_of_ble_eq_true rfl) rfl (fun v27 s26 h => ?_)
      exact r_iret (pc := 114) h rfl dX8_column_114
    refine sj_if h (fun c5 h => ?_) (fun c5 h => ?_)
    · refine r_tcase (pc := 15) (tgt := 103) (j := 5) hr c5 dX8_column_15 (by decide) (by decide) rfl (by decide) ?_
      refine r_aload_n (pc := 103) dX8_column_103 rfl rfl ?_
      refine r_gR (pc := 104) h dX8_column_104 fw_X8_12 rfl (fun r28 h => ?_)
      refine r_iload_n (pc := 107) dX8_column_107 rfl rfl ?_
      refine r_iconst (pc := 108) dX8_column_108 ?_
      refine r_isub (pc := 109) dX8_column_109 ?_
      refine r_iload_n (pc := 110) dX8_column_110 rfl rfl ?_
      obtain ⟨a29, ea29, g⟩ := e_nn_some h
      clear h
      subst ea29
      have h := g
      clear g
      refine r_callV (pc := 111) (fun v => some (sj_i v)) (As := [sj_i (x2 - 4), sj_i x1]) (rest := []) h dX8_column_111 mw_X8_222 vw_X0_topAt (fun _ _ hc => c_X0_topAt hc) rfl ⟨(Nat.le_of_ble_eq_true rfl), (Nat.le_of_ble_eq_true rfl)⟩ (Nat.le_of_ble_eq_true rfl) rfl (fun v31 s30 h => ?_)
      exact r_iret (pc := 114) h rfl dX8_column_114
    refine sj_if h (fun c6 h => ?_) (fun c6 h => ?_)
    · refine r_tcase (pc := 15) (tgt := 103) (j := 6) hr c6 dX8_column_15 (by decide) (by decide) rfl (by decide) ?_
      refine r_aload_n (pc := 103) dX8_column_103 rfl rfl ?_
      refine r_gR (pc := 104) h dX8_column_104 fw_X8_12 rfl (fun r32 h => ?_)
      refine r_iload_n (pc := 107) dX8_column_107 rfl rfl ?_
      refine r_iconst (pc := 108) dX8_column_108 ?_
      refine r_isub (pc := 109) dX8_column_109 ?_
      refine r_iload_n (pc := 110) dX8_column_110 rfl rfl ?_
      obtain ⟨a33, ea33, g⟩ := e_nn_some h
      clear h
      subst ea33
      have h := g
      clear g
      refine r_callV (pc := 111) (fun v => some (sj_i v)) (As := [sj_i (x2 - 4), sj_i x1]) (rest := []) h dX8_column_111 mw_X8_222 vw_X0_topAt (fun _ _ hc => c_X0_topAt hc) rfl ⟨(Nat.le_of_ble_eq_true rfl), (Nat.le_of_ble_eq_true rfl)⟩ (Nat.le_of_ble_eq_true rfl) rfl (fun v35 s34 h => ?_)
      exact r_iret (pc := 114) h rfl dX8_column_114
    refine sj_if h (fun c7 h => ?_) (fun c7 h => ?_)
    · refine r_tcase (pc := 15) (tgt := 103) (j := 7) hr c7 dX8_column_15 (by decide) (by decide) rfl (by decide) ?_
      refine r_aload_n (pc := 103) dX8_column_103 rfl rfl ?_
      refine r_gR (pc := 104) h dX8_column_104 fw_X8_12 rfl (fun r36 h => ?_)
      refine r_iload_n (pc := 107) dX8_column_107 rfl rfl ?_
      refine r_iconst (pc := 108) dX8_column_108 ?_
      refine r_isub (pc := 109) dX8_column_109 ?_
      refine r_iload_n (pc := 110) dX8_column_110 rfl rfl ?_
      obtain ⟨a37, ea37, g⟩ := e_nn_some h
      clear h
      subst ea37
      have h := g
      clear g
      refine r_callV (pc := 111) (fun v => some (sj_i v)) (As := [sj_i (x2 - 4), sj_i x1]) (rest := []) h dX8_column_111 mw_X8_222 vw_X0_topAt (fun _ _ hc => c_X0_topAt hc) rfl ⟨(Nat.le_of_ble_eq_true rfl), (Nat.le_of_ble_eq_true rfl)⟩ (Nat.le_of_ble_eq_true rfl) rfl (fun v39 s38 h => ?_)
      exact r_iret (pc := 114) h rfl dX8_column_114
    refine sj_if h (fun c8 h => ?_) (fun c8 h => ?_)
    · refine r_tcase (pc := 15) (tgt := 115) (j := 8) hr c8 dX8_column_15 (by decide) (by decide) rfl (by decide) ?_
      refine r_aload_n (pc := 115) dX8_column_115 rfl rfl ?_
      refine r_gR (pc := 116) h dX8_column_116 fw_X8_12 rfl (fun r40 h => ?_)
      obtain ⟨a41, ea41, g⟩ := e_nn_some h
      clear h
      subst ea41
      have h := g
      clear g
      refine r_gR (pc := 119) h dX8_column_119 fw_X8_106 rfl (fun r42 h => ?_)
      refine r_iload_n (pc := 122) dX8_column_122 rfl rfl ?_
      obtain ⟨a43, ea43, g⟩ := e_nn_some h
      clear h
      subst ea43
      have h := g
      clear g
      refine r_callV (pc := 123) (fun v => some (sj_i v)) (As := [sj_i x1]) (rest := []) h dX8_column_123 mw_X8_225 vw_X5_baseAt (fun _ _ hc => c_X5_baseAt hc) rfl ⟨(Nat.le_of_ble_eq_true rfl), (Nat.le_of_ble_eq_true rfl)⟩ (Nat.le_of_ble_eq_true rfl) rfl (fun v45 s44 h => ?_)
      exact r_iret (pc := 126) h rfl dX8_column_126
    refine r_tdflt (pc := 15) (tgt := 127) hr dX8_column_15 (by omega) (by decide) ?_
    refine r_bipush (pc := 127) dX8_column_127 ⟨by decide, by decide⟩ ?_
    exact r_iret (pc := 129) h rfl dX8_column_129
set_option maxHeartbeats 4000000 in
theorem c_X8_column {X : sj_X} {N : Nat} {a0 : Nat} {x1 : Int} {x2 : Int} {s : sj_Mem} {q : Int × sj_Mem} (h : f_X8_column N a0 x1 x2 s = some q) : sj_C X m_X8_column [sj_r (some a0), sj_i x1, sj_i x2] s (some (sj_i q.1), q.2) :=
  sj_C_of (by decide +kernel) (Nat.le_of_ble_eq_true rfl) (lo := [some (sj_r (some a0)), some (sj_i x1), some (sj_i x2)]) rfl (sj_weak (l2 := [some (sj_r (some a0)), some (sj_i x1), some (sj_i x2)]) (⟨rfl, ⟨rfl, ⟨rfl, trivial⟩⟩⟩) (t_X8_column_0 a0 x1 x2 s h))
theorem dX8_layer_0 : decode cX8_layer 0 = .ok (.iload_n 1, 1) := by decide +kernel
theorem dX8_layer_1 : decode cX8_layer 1 = .ok (.ifCond .lt 8, 3) := by decide +kernel
theorem dX8_layer_4 : decode cX8_layer 4 = .ok (.iload_n 1, 1) := by decide +kernel
theorem dX8_layer_5 : decode cX8_layer 5 = .ok (.iconst 4, 1) := by decide +kernel
theorem dX8_layer_6 : decode cX8_layer 6 = .ok (.if_icmp .lt 5, 3) := by decide +kernel
theorem dX8_layer_9 : decode cX8_layer 9 = .ok (.iconst (-1), 1) := by decide +kernel
theorem dX8_layer_10 : decode cX8_layer 10 = .ok (.ireturn, 1) := by decide +kernel
theorem dX8_layer_11 : decode cX8_layer 11 = .ok (.iload_n 2, 1) := by decide +kernel
theorem dX8_layer_12 : decode cX8_layer 12 = .ok (.tableswitch 58 0 2 #[28, 38, 48], 28) := by decide +kernel
theorem dX8_layer_40 : decode cX8_layer 40 = .ok (.aload_n 0, 1) := by decide +kernel
theorem dX8_layer_41 : decode cX8_layer 41 = .ok (.getfield 12, 3) := by decide +kernel
theorem dX8_layer_44 : decode cX8_layer 44 = .ok (.getfield 115, 3) := by decide +kernel
theorem dX8_layer_47 : decode cX8_layer 47 = .ok (.iload_n 1, 1) := by decide +kernel
theorem dX8_layer_48 : decode cX8_layer 48 = .ok (.iaload, 1) := by decide +kernel
theorem dX8_layer_49 : decode cX8_layer 49 = .ok (.ireturn, 1) := by decide +kernel
theorem dX8_layer_50 : decode cX8_layer 50 = .ok (.aload_n 0, 1) := by decide +kernel
theorem dX8_layer_51 : decode cX8_layer 51 = .ok (.getfield 12, 3) := by decide +kernel
theorem dX8_layer_54 : decode cX8_layer 54 = .ok (.getfield 118, 3) := by decide +kernel
theorem dX8_layer_57 : decode cX8_layer 57 = .ok (.iload_n 1, 1) := by decide +kernel
theorem dX8_layer_58 : decode cX8_layer 58 = .ok (.iaload, 1) := by decide +kernel
theorem dX8_layer_59 : decode cX8_layer 59 = .ok (.ireturn, 1) := by decide +kernel
theorem dX8_layer_60 : decode cX8_layer 60 = .ok (.aload_n 0, 1) := by decide +kernel
theorem dX8_layer_61 : decode cX8_layer 61 = .ok (.getfield 12, 3) := by decide +kernel
theorem dX8_layer_64 : decode cX8_layer 64 = .ok (.getfield 121, 3) := by decide +kernel
theorem dX8_layer_67 : decode cX8_layer 67 = .ok (.iload_n 1, 1) := by decide +kernel
theorem dX8_layer_68 : decode cX8_layer 68 = .ok (.iaload, 1) := by decide +kernel
theorem dX8_layer_69 : decode cX8_layer 69 = .ok (.ireturn, 1) := by decide +kernel
theorem dX8_layer_70 : decode cX8_layer 70 = .ok (.iconst (-1), 1) := by decide +kernel
theorem dX8_layer_71 : decode cX8_layer 71 = .ok (.ireturn, 1) := by decide +kernel
set_option maxHeartbeats 4000000 in
theorem t_X8_layer_0 {X : sj_X} {s0 : sj_Mem} {N : Nat} {q : Int × sj_Mem} :
    ∀ (a0 : Nat) (x1 : Int) (x2 : Int) (s : sj_Mem), f_X8_layer N a0 x1 x2 s = some q → sj_T X m_X8_layer s0 (some (sj_i q.1), q.2) 0 [some (sj_r (some a0)), some (sj_i x1), some (sj_i x2)] [] s := by
  intro a0 x1 x2 s h
  unfold f_X8_layer at h
  refine r_iload_n (pc := 0) dX8_layer_0 rfl rfl ?_
  refine r_if_lt (pc := 1) (tgt := 9) h dX8_layer_1 (by decide) (fun h => ?_) (fun h => ?_)
  · refine r_iconst (pc := 9) dX8_layer_9 ?_
    exact r_iret (pc := 10) h rfl dX8_layer_10
  · refine r_iload_n (pc := 4) dX8_layer_4 rfl rfl ?_
    refine r_iconst (pc := 5) dX8_layer_5 ?_
    refine r_icmp_lt (pc := 6) (tgt := 11) h dX8_layer_6 (by decide) (fun h => ?_) (fun h => ?_)
    · refine r_iload_n (pc := 11) dX8_layer_11 rfl rfl ?_
      obtain ⟨hr, h⟩ := e_sw_some h
      refine sj_if h (fun c0 h => ?_) (fun c0 h => ?_)
      · refine r_tcase (pc := 12) (tgt := 40) (j := 0) hr c0 dX8_layer_12 (by decide) (by decide) rfl (by decide) ?_
        refine r_aload_n (pc := 40) dX8_layer_40 rfl rfl ?_
        refine r_gR (pc := 41) h dX8_layer_41 fw_X8_12 rfl (fun r1 h => ?_)
        obtain ⟨a2, ea2, g⟩ := e_nn_some h
        clear h
        subst ea2
        have h := g
        clear g
        refine r_gR (pc := 44) h dX8_layer_44 fw_X8_115 rfl (fun r3 h => ?_)
        refine r_iload_n (pc := 47) dX8_layer_47 rfl rfl ?_
        obtain ⟨a4, ea4, g⟩ := e_nn_some h
        clear h
        subst ea4
        have h := g
        clear g
        refine r_iaload (pc := 48) h dX8_layer_48 (fun v5 h => ?_)
        exact r_iret (pc := 49) h rfl dX8_layer_49
      refine sj_if h (fun c1 h => ?_) (fun c1 h => ?_)
      · refine r_tcase (pc := 12) (tgt := 50) (j := 1) hr c1 dX8_layer_12 (by decide) (by decide) rfl (by decide) ?_
        refine r_aload_n (pc := 50) dX8_layer_50 rfl rfl ?_
        refine r_gR (pc := 51) h dX8_layer_51 fw_X8_12 rfl (fun r6 h => ?_)
        obtain ⟨a7, ea7, g⟩ := e_nn_some h
        clear h
        subst ea7
        have h := g
        clear g
        refine r_gR (pc := 54) h dX8_layer_54 fw_X8_118 rfl (fun r8 h => ?_)
        refine r_iload_n (pc := 57) dX8_layer_57 rfl rfl ?_
        obtain ⟨a9, ea9, g⟩ := e_nn_some h
        clear h
        subst ea9
        have h := g
        clear g
        refine r_iaload (pc := 58) h dX8_layer_58 (fun v10 h => ?_)
        exact r_iret (pc := 59) h rfl dX8_layer_59
      refine sj_if h (fun c2 h => ?_) (fun c2 h => ?_)
      · refine r_tcase (pc := 12) (tgt := 60) (j := 2) hr c2 dX8_layer_12 (by decide) (by decide) rfl (by decide) ?_
        refine r_aload_n (pc := 60) dX8_layer_60 rfl rfl ?_
        refine r_gR (pc := 61) h dX8_layer_61 fw_X8_12 rfl (fun r11 h => ?_)
        obtain ⟨a12, ea12, g⟩ := e_nn_some h
        clear h
        subst ea12
        have h := g
        clear g
        refine r_gR (pc := 64) h dX8_layer_64 fw_X8_121 rfl (fun r13 h => ?_)
        refine r_iload_n (pc := 67) dX8_layer_67 rfl rfl ?_
        obtain ⟨a14, ea14, g⟩ := e_nn_some h
        clear h
        subst ea14
        have h := g
        clear g
        refine r_iaload (pc := 68) h dX8_layer_68 (fun v15 h => ?_)
        exact r_iret (pc := 69) h rfl dX8_layer_69
      refine r_tdflt (pc := 12) (tgt := 70) hr dX8_layer_12 (by omega) (by decide) ?_
      refine r_iconst (pc := 70) dX8_layer_70 ?_
      exact r_iret (pc := 71) h rfl dX8_layer_71
    · refine r_iconst (pc := 9) dX8_layer_9 ?_
      exact r_iret (pc := 10) h rfl dX8_layer_10
set_option maxHeartbeats 4000000 in
theorem c_X8_layer {X : sj_X} {N : Nat} {a0 : Nat} {x1 : Int} {x2 : Int} {s : sj_Mem} {q : Int × sj_Mem} (h : f_X8_layer N a0 x1 x2 s = some q) : sj_C X m_X8_layer [sj_r (some a0), sj_i x1, sj_i x2] s (some (sj_i q.1), q.2) :=
  sj_C_of (by decide +kernel) (Nat.le_of_ble_eq_true rfl) (lo := [some (sj_r (some a0)), some (sj_i x1), some (sj_i x2)]) rfl (sj_weak (l2 := [some (sj_r (some a0)), some (sj_i x1), some (sj_i x2)]) (⟨rfl, ⟨rfl, ⟨rfl, trivial⟩⟩⟩) (t_X8_layer_0 a0 x1 x2 s h))
theorem dX8_anchored_0 : decode cX8_anchored 0 = .ok (.iload_n 1, 1) := by decide +kernel
theorem dX8_anchored_1 : decode cX8_anchored 1 = .ok (.ifCond .lt 21, 3) := by decide +kernel
theorem dX8_anchored_4 : decode cX8_anchored 4 = .ok (.iload_n 1, 1) := by decide +kernel
theorem dX8_anchored_5 : decode cX8_anchored 5 = .ok (.bipush 6, 2) := by decide +kernel
theorem dX8_anchored_7 : decode cX8_anchored 7 = .ok (.if_icmp .ge 15, 3) := by decide +kernel
theorem dX8_anchored_10 : decode cX8_anchored 10 = .ok (.aload_n 0, 1) := by decide +kernel
theorem dX8_anchored_11 : decode cX8_anchored 11 = .ok (.getfield 12, 3) := by decide +kernel
theorem dX8_anchored_14 : decode cX8_anchored 14 = .ok (.getfield 134, 3) := by decide +kernel
theorem dX8_anchored_17 : decode cX8_anchored 17 = .ok (.iload_n 1, 1) := by decide +kernel
theorem dX8_anchored_18 : decode cX8_anchored 18 = .ok (.iaload, 1) := by decide +kernel
theorem dX8_anchored_19 : decode cX8_anchored 19 = .ok (.ifCond .ne 5, 3) := by decide +kernel
theorem dX8_anchored_22 : decode cX8_anchored 22 = .ok (.iconst (-1), 1) := by decide +kernel
theorem dX8_anchored_23 : decode cX8_anchored 23 = .ok (.ireturn, 1) := by decide +kernel
theorem dX8_anchored_24 : decode cX8_anchored 24 = .ok (.iload_n 2, 1) := by decide +kernel
theorem dX8_anchored_25 : decode cX8_anchored 25 = .ok (.tableswitch 85 0 3 #[31, 41, 51, 61], 31) := by decide +kernel
theorem dX8_anchored_56 : decode cX8_anchored 56 = .ok (.aload_n 0, 1) := by decide +kernel
theorem dX8_anchored_57 : decode cX8_anchored 57 = .ok (.getfield 12, 3) := by decide +kernel
theorem dX8_anchored_60 : decode cX8_anchored 60 = .ok (.getfield 128, 3) := by decide +kernel
theorem dX8_anchored_63 : decode cX8_anchored 63 = .ok (.iload_n 1, 1) := by decide +kernel
theorem dX8_anchored_64 : decode cX8_anchored 64 = .ok (.iaload, 1) := by decide +kernel
theorem dX8_anchored_65 : decode cX8_anchored 65 = .ok (.ireturn, 1) := by decide +kernel
theorem dX8_anchored_66 : decode cX8_anchored 66 = .ok (.aload_n 0, 1) := by decide +kernel
theorem dX8_anchored_67 : decode cX8_anchored 67 = .ok (.getfield 12, 3) := by decide +kernel
theorem dX8_anchored_70 : decode cX8_anchored 70 = .ok (.getfield 131, 3) := by decide +kernel
theorem dX8_anchored_73 : decode cX8_anchored 73 = .ok (.iload_n 1, 1) := by decide +kernel
theorem dX8_anchored_74 : decode cX8_anchored 74 = .ok (.iaload, 1) := by decide +kernel
theorem dX8_anchored_75 : decode cX8_anchored 75 = .ok (.ireturn, 1) := by decide +kernel
theorem dX8_anchored_76 : decode cX8_anchored 76 = .ok (.aload_n 0, 1) := by decide +kernel
theorem dX8_anchored_77 : decode cX8_anchored 77 = .ok (.getfield 12, 3) := by decide +kernel
theorem dX8_anchored_80 : decode cX8_anchored 80 = .ok (.getfield 134, 3) := by decide +kernel
theorem dX8_anchored_83 : decode cX8_anchored 83 = .ok (.iload_n 1, 1) := by decide +kernel
theorem dX8_anchored_84 : decode cX8_anchored 84 = .ok (.iaload, 1) := by decide +kernel
theorem dX8_anchored_85 : decode cX8_anchored 85 = .ok (.ireturn, 1) := by decide +kernel
theorem dX8_anchored_86 : decode cX8_anchored 86 = .ok (.aload_n 0, 1) := by decide +kernel
theorem dX8_anchored_87 : decode cX8_anchored 87 = .ok (.getfield 12, 3) := by decide +kernel
theorem dX8_anchored_90 : decode cX8_anchored 90 = .ok (.iload_n 1, 1) := by decide +kernel
theorem dX8_anchored_91 : decode cX8_anchored 91 = .ok (.aload_n 0, 1) := by decide +kernel
theorem dX8_anchored_92 : decode cX8_anchored 92 = .ok (.getfield 12, 3) := by decide +kernel
theorem dX8_anchored_95 : decode cX8_anchored 95 = .ok (.getfield 106, 3) := by decide +kernel
theorem dX8_anchored_98 : decode cX8_anchored 98 = .ok (.invokevirtual 228, 3) := by decide +kernel
theorem dX8_anchored_101 : decode cX8_anchored 101 = .ok (.ifCond .eq 7, 3) := by decide +kernel
theorem dX8_anchored_104 : decode cX8_anchored 104 = .ok (.iconst 1, 1) := by decide +kernel
theorem dX8_anchored_105 : decode cX8_anchored 105 = .ok (.goto 4, 3) := by decide +kernel
theorem dX8_anchored_108 : decode cX8_anchored 108 = .ok (.iconst 0, 1) := by decide +kernel
theorem dX8_anchored_109 : decode cX8_anchored 109 = .ok (.ireturn, 1) := by decide +kernel
theorem dX8_anchored_110 : decode cX8_anchored 110 = .ok (.iconst (-1), 1) := by decide +kernel
theorem dX8_anchored_111 : decode cX8_anchored 111 = .ok (.ireturn, 1) := by decide +kernel
set_option maxHeartbeats 4000000 in
theorem t_X8_anchored_0 {X : sj_X} {s0 : sj_Mem} {N : Nat} {q : Int × sj_Mem} :
    ∀ (a0 : Nat) (x1 : Int) (x2 : Int) (s : sj_Mem), f_X8_anchored N a0 x1 x2 s = some q → sj_T X m_X8_anchored s0 (some (sj_i q.1), q.2) 0 [some (sj_r (some a0)), some (sj_i x1), some (sj_i x2)] [] s := by
  intro a0 x1 x2 s h
  unfold f_X8_anchored at h
  refine r_iload_n (pc := 0) dX8_anchored_0 rfl rfl ?_
  refine r_if_lt (pc := 1) (tgt := 22) h dX8_anchored_1 (by decide) (fun h => ?_) (fun h => ?_)
  · refine r_iconst (pc := 22) dX8_anchored_22 ?_
    exact r_iret (pc := 23) h rfl dX8_anchored_23
  · refine r_iload_n (pc := 4) dX8_anchored_4 rfl rfl ?_
    refine r_bipush (pc := 5) dX8_anchored_5 ⟨by decide, by decide⟩ ?_
    refine r_icmp_ge (pc := 7) (tgt := 22) h dX8_anchored_7 (by decide) (fun h => ?_) (fun h => ?_)
    · refine r_iconst (pc := 22) dX8_anchored_22 ?_
      exact r_iret (pc := 23) h rfl dX8_anchored_23
    · refine r_aload_n (pc := 10) dX8_anchored_10 rfl rfl ?_
      refine r_gR (pc := 11) h dX8_anchored_11 fw_X8_12 rfl (fun r1 h => ?_)
      obtain ⟨a2, ea2, g⟩ := e_nn_some h
      clear h
      subst ea2
      have h := g
      clear g
      refine r_gR (pc := 14) h dX8_anchored_14 fw_X8_134 rfl (fun r3 h => ?_)
      refine r_iload_n (pc := 17) dX8_anchored_17 rfl rfl ?_
      obtain ⟨a4, ea4, g⟩ := e_nn_some h
      clear h
      subst ea4
      have h := g
      clear g
      refine r_iaload (pc := 18) h dX8_anchored_18 (fun v5 h => ?_)
      refine r_if_ne (pc := 19) (tgt := 24) h dX8_anchored_19 (by decide) (fun h => ?_) (fun h => ?_)
      · refine r_iconst (pc := 22) dX8_anchored_22 ?_
        exact r_iret (pc := 23) h rfl dX8_anchored_23
      · refine r_iload_n (pc := 24) dX8_anchored_24 rfl rfl ?_
        obtain ⟨hr, h⟩ := e_sw_some h
        refine sj_if h (fun c0 h => ?_) (fun c0 h => ?_)
        · refine r_tcase (pc := 25) (tgt := 56) (j := 0) hr c0 dX8_anchored_25 (by decide) (by decide) rfl (by decide) ?_
          refine r_aload_n (pc := 56) dX8_anchored_56 rfl rfl ?_
          refine r_gR (pc := 57) h dX8_anchored_57 fw_X8_12 rfl (fun r6 h => ?_)
          obtain ⟨a7, ea7, g⟩ := e_nn_some h
          clear h
          subst ea7
          have h := g
          clear g
          refine r_gR (pc := 60) h dX8_anchored_60 fw_X8_128 rfl (fun r8 h => ?_)
          refine r_iload_n (pc := 63) dX8_anchored_63 rfl rfl ?_
          obtain ⟨a9, ea9, g⟩ := e_nn_some h
          clear h
          subst ea9
          have h := g
          clear g
          refine r_iaload (pc := 64) h dX8_anchored_64 (fun v10 h => ?_)
          exact r_iret (pc := 65) h rfl dX8_anchored_65
        refine sj_if h (fun c1 h => ?_) (fun c1 h => ?_)
        · refine r_tcase (pc := 25) (tgt := 66) (j := 1) hr c1 dX8_anchored_25 (by decide) (by decide) rfl (by decide) ?_
          refine r_aload_n (pc := 66) dX8_anchored_66 rfl rfl ?_
          refine r_gR (pc := 67) h dX8_anchored_67 fw_X8_12 rfl (fun r11 h => ?_)
          obtain ⟨a12, ea12, g⟩ := e_nn_some h
          clear h
          subst ea12
          have h := g
          clear g
          refine r_gR (pc := 70) h dX8_anchored_70 fw_X8_131 rfl (fun r13 h => ?_)
          refine r_iload_n (pc := 73) dX8_anchored_73 rfl rfl ?_
          obtain ⟨a14, ea14, g⟩ := e_nn_some h
          clear h
          subst ea14
          have h := g
          clear g
          refine r_iaload (pc := 74) h dX8_anchored_74 (fun v15 h => ?_)
          exact r_iret (pc := 75) h rfl dX8_anchored_75
        refine sj_if h (fun c2 h => ?_) (fun c2 h => ?_)
        · refine r_tcase (pc := 25) (tgt := 76) (j := 2) hr c2 dX8_anchored_25 (by decide) (by decide) rfl (by decide) ?_
          refine r_aload_n (pc := 76) dX8_anchored_76 rfl rfl ?_
          refine r_gR (pc := 77) h dX8_anchored_77 fw_X8_12 rfl (fun r16 h => ?_)
          obtain ⟨a17, ea17, g⟩ := e_nn_some h
          clear h
          subst ea17
          have h := g
          clear g
          refine r_gR (pc := 80) h dX8_anchored_80 fw_X8_134 rfl (fun r18 h => ?_)
          refine r_iload_n (pc := 83) dX8_anchored_83 rfl rfl ?_
          obtain ⟨a19, ea19, g⟩ := e_nn_some h
          clear h
          subst ea19
          have h := g
          clear g
          refine r_iaload (pc := 84) h dX8_anchored_84 (fun v20 h => ?_)
          exact r_iret (pc := 85) h rfl dX8_anchored_85
        refine sj_if h (fun c3 h => ?_) (fun c3 h => ?_)
        · refine r_tcase (pc := 25) (tgt := 86) (j := 3) hr c3 dX8_anchored_25 (by decide) (by decide) rfl (by decide) ?_
          refine r_aload_n (pc := 86) dX8_anchored_86 rfl rfl ?_
          refine r_gR (pc := 87) h dX8_anchored_87 fw_X8_12 rfl (fun r21 h => ?_)
          refine r_iload_n (pc := 90) dX8_anchored_90 rfl rfl ?_
          refine r_aload_n (pc := 91) dX8_anchored_91 rfl rfl ?_
          refine r_gR (pc := 92) h dX8_anchored_92 fw_X8_12 rfl (fun r22 h => ?_)
          obtain ⟨a23, ea23, g⟩ := e_nn_some h
          clear h
          subst ea23
          have h := g
          clear g
          refine r_gR (pc := 95) h dX8_anchored_95 fw_X8_106 rfl (fun r24 h => ?_)
          obtain ⟨a25, ea25, g⟩ := e_nn_some h
          clear h
          subst ea25
          have h := g
          clear g
          refine r_callV (pc := 98) (fun v => some (sj_i v)) (As := [sj_i x1, sj_r r24]) (rest := []) h dX8_anchored_98 mw_X8_228 vw_X0_anchorCounts (fun _ _ hc => c_X0_anchorCounts hc) rfl ⟨(Nat.le_of_ble_eq_true rfl), (Nat.le_of_ble_eq_true rfl)⟩ (Nat.le_of_ble_eq_true rfl) rfl (fun v27 s26 h => ?_)
          refine r_if_eq (pc := 101) (tgt := 108) h dX8_anchored_101 (by decide) (fun h => ?_) (fun h => ?_)
          · refine r_iconst (pc := 108) dX8_anchored_108 ?_
            exact r_iret (pc := 109) h rfl dX8_anchored_109
          · refine r_iconst (pc := 104) dX8_anchored_104 ?_
            refine r_goto (pc := 105) (tgt := 109) dX8_anchored_105 (by decide) ?_
            exact r_iret (pc := 109) h rfl dX8_anchored_109
        refine r_tdflt (pc := 25) (tgt := 110) hr dX8_anchored_25 (by omega) (by decide) ?_
        refine r_iconst (pc := 110) dX8_anchored_110 ?_
        exact r_iret (pc := 111) h rfl dX8_anchored_111
set_option maxHeartbeats 4000000 in
theorem c_X8_anchored {X : sj_X} {N : Nat} {a0 : Nat} {x1 : Int} {x2 : Int} {s : sj_Mem} {q : Int × sj_Mem} (h : f_X8_anchored N a0 x1 x2 s = some q) : sj_C X m_X8_anchored [sj_r (some a0), sj_i x1, sj_i x2] s (some (sj_i q.1), q.2) :=
  sj_C_of (by decide +kernel) (Nat.le_of_ble_eq_true rfl) (lo := [some (sj_r (some a0)), some (sj_i x1), some (sj_i x2)]) rfl (sj_weak (l2 := [some (sj_r (some a0)), some (sj_i x1), some (sj_i x2)]) (⟨rfl, ⟨rfl, ⟨rfl, trivial⟩⟩⟩) (t_X8_anchored_0 a0 x1 x2 s h))
theorem dX8_look_0 : decode cX8_look 0 = .ok (.iload_n 1, 1) := by decide +kernel
theorem dX8_look_1 : decode cX8_look 1 = .ok (.tableswitch 217 0 13 #[71, 79, 87, 95, 103, 114, 125, 136, 172, 180, 185, 193, 201, 209], 71) := by decide +kernel
theorem dX8_look_72 : decode cX8_look 72 = .ok (.aload_n 0, 1) := by decide +kernel
theorem dX8_look_73 : decode cX8_look 73 = .ok (.getfield 12, 3) := by decide +kernel
theorem dX8_look_76 : decode cX8_look 76 = .ok (.getfield 232, 3) := by decide +kernel
theorem dX8_look_79 : decode cX8_look 79 = .ok (.ireturn, 1) := by decide +kernel
theorem dX8_look_80 : decode cX8_look 80 = .ok (.aload_n 0, 1) := by decide +kernel
theorem dX8_look_81 : decode cX8_look 81 = .ok (.getfield 12, 3) := by decide +kernel
theorem dX8_look_84 : decode cX8_look 84 = .ok (.getfield 235, 3) := by decide +kernel
theorem dX8_look_87 : decode cX8_look 87 = .ok (.ireturn, 1) := by decide +kernel
theorem dX8_look_88 : decode cX8_look 88 = .ok (.aload_n 0, 1) := by decide +kernel
theorem dX8_look_89 : decode cX8_look 89 = .ok (.getfield 12, 3) := by decide +kernel
theorem dX8_look_92 : decode cX8_look 92 = .ok (.getfield 124, 3) := by decide +kernel
theorem dX8_look_95 : decode cX8_look 95 = .ok (.ireturn, 1) := by decide +kernel
theorem dX8_look_96 : decode cX8_look 96 = .ok (.aload_n 0, 1) := by decide +kernel
theorem dX8_look_97 : decode cX8_look 97 = .ok (.getfield 12, 3) := by decide +kernel
theorem dX8_look_100 : decode cX8_look 100 = .ok (.invokevirtual 238, 3) := by decide +kernel
theorem dX8_look_103 : decode cX8_look 103 = .ok (.ireturn, 1) := by decide +kernel
theorem dX8_look_104 : decode cX8_look 104 = .ok (.aload_n 0, 1) := by decide +kernel
theorem dX8_look_105 : decode cX8_look 105 = .ok (.getfield 12, 3) := by decide +kernel
theorem dX8_look_108 : decode cX8_look 108 = .ok (.getfield 106, 3) := by decide +kernel
theorem dX8_look_111 : decode cX8_look 111 = .ok (.invokevirtual 199, 3) := by decide +kernel
theorem dX8_look_114 : decode cX8_look 114 = .ok (.ireturn, 1) := by decide +kernel
theorem dX8_look_115 : decode cX8_look 115 = .ok (.aload_n 0, 1) := by decide +kernel
theorem dX8_look_116 : decode cX8_look 116 = .ok (.getfield 12, 3) := by decide +kernel
theorem dX8_look_119 : decode cX8_look 119 = .ok (.getfield 106, 3) := by decide +kernel
theorem dX8_look_122 : decode cX8_look 122 = .ok (.getfield 241, 3) := by decide +kernel
theorem dX8_look_125 : decode cX8_look 125 = .ok (.ireturn, 1) := by decide +kernel
theorem dX8_look_126 : decode cX8_look 126 = .ok (.aload_n 0, 1) := by decide +kernel
theorem dX8_look_127 : decode cX8_look 127 = .ok (.getfield 12, 3) := by decide +kernel
theorem dX8_look_130 : decode cX8_look 130 = .ok (.getfield 106, 3) := by decide +kernel
theorem dX8_look_133 : decode cX8_look 133 = .ok (.getfield 244, 3) := by decide +kernel
theorem dX8_look_136 : decode cX8_look 136 = .ok (.ireturn, 1) := by decide +kernel
theorem dX8_look_137 : decode cX8_look 137 = .ok (.aload_n 0, 1) := by decide +kernel
theorem dX8_look_138 : decode cX8_look 138 = .ok (.getfield 12, 3) := by decide +kernel
theorem dX8_look_141 : decode cX8_look 141 = .ok (.getfield 106, 3) := by decide +kernel
theorem dX8_look_144 : decode cX8_look 144 = .ok (.invokevirtual 192, 3) := by decide +kernel
theorem dX8_look_147 : decode cX8_look 147 = .ok (.ifCond .eq 7, 3) := by decide +kernel
theorem dX8_look_150 : decode cX8_look 150 = .ok (.iconst (-1), 1) := by decide +kernel
theorem dX8_look_151 : decode cX8_look 151 = .ok (.goto 21, 3) := by decide +kernel
theorem dX8_look_154 : decode cX8_look 154 = .ok (.aload_n 0, 1) := by decide +kernel
theorem dX8_look_155 : decode cX8_look 155 = .ok (.getfield 12, 3) := by decide +kernel
theorem dX8_look_158 : decode cX8_look 158 = .ok (.getfield 106, 3) := by decide +kernel
theorem dX8_look_161 : decode cX8_look 161 = .ok (.getfield 247, 3) := by decide +kernel
theorem dX8_look_164 : decode cX8_look 164 = .ok (.ifCond .eq 7, 3) := by decide +kernel
theorem dX8_look_167 : decode cX8_look 167 = .ok (.iconst 1, 1) := by decide +kernel
theorem dX8_look_168 : decode cX8_look 168 = .ok (.goto 4, 3) := by decide +kernel
theorem dX8_look_171 : decode cX8_look 171 = .ok (.iconst 0, 1) := by decide +kernel
theorem dX8_look_172 : decode cX8_look 172 = .ok (.ireturn, 1) := by decide +kernel
theorem dX8_look_173 : decode cX8_look 173 = .ok (.aload_n 0, 1) := by decide +kernel
theorem dX8_look_174 : decode cX8_look 174 = .ok (.getfield 25, 3) := by decide +kernel
theorem dX8_look_177 : decode cX8_look 177 = .ok (.getfield 170, 3) := by decide +kernel
theorem dX8_look_180 : decode cX8_look 180 = .ok (.ireturn, 1) := by decide +kernel
theorem dX8_look_181 : decode cX8_look 181 = .ok (.aload_n 0, 1) := by decide +kernel
theorem dX8_look_182 : decode cX8_look 182 = .ok (.getfield 208, 3) := by decide +kernel
theorem dX8_look_185 : decode cX8_look 185 = .ok (.ireturn, 1) := by decide +kernel
theorem dX8_look_186 : decode cX8_look 186 = .ok (.aload_n 0, 1) := by decide +kernel
theorem dX8_look_187 : decode cX8_look 187 = .ok (.getfield 46, 3) := by decide +kernel
theorem dX8_look_190 : decode cX8_look 190 = .ok (.getfield 137, 3) := by decide +kernel
theorem dX8_look_193 : decode cX8_look 193 = .ok (.ireturn, 1) := by decide +kernel
theorem dX8_look_194 : decode cX8_look 194 = .ok (.aload_n 0, 1) := by decide +kernel
theorem dX8_look_195 : decode cX8_look 195 = .ok (.getfield 12, 3) := by decide +kernel
theorem dX8_look_198 : decode cX8_look 198 = .ok (.invokevirtual 250, 3) := by decide +kernel
theorem dX8_look_201 : decode cX8_look 201 = .ok (.ireturn, 1) := by decide +kernel
theorem dX8_look_202 : decode cX8_look 202 = .ok (.aload_n 0, 1) := by decide +kernel
theorem dX8_look_203 : decode cX8_look 203 = .ok (.getfield 12, 3) := by decide +kernel
theorem dX8_look_206 : decode cX8_look 206 = .ok (.invokevirtual 253, 3) := by decide +kernel
theorem dX8_look_209 : decode cX8_look 209 = .ok (.ireturn, 1) := by decide +kernel
theorem dX8_look_210 : decode cX8_look 210 = .ok (.aload_n 0, 1) := by decide +kernel
theorem dX8_look_211 : decode cX8_look 211 = .ok (.getfield 25, 3) := by decide +kernel
theorem dX8_look_214 : decode cX8_look 214 = .ok (.getfield 256, 3) := by decide +kernel
theorem dX8_look_217 : decode cX8_look 217 = .ok (.ireturn, 1) := by decide +kernel
theorem dX8_look_218 : decode cX8_look 218 = .ok (.bipush (-10), 2) := by decide +kernel
theorem dX8_look_220 : decode cX8_look 220 = .ok (.ireturn, 1) := by decide +kernel
set_option maxHeartbeats 4000000 in
theorem t_X8_look_0 {X : sj_X} {s0 : sj_Mem} {N : Nat} {q : Int × sj_Mem} :
    ∀ (a0 : Nat) (x1 : Int) (s : sj_Mem), f_X8_look N a0 x1 s = some q → sj_T X m_X8_look s0 (some (sj_i q.1), q.2) 0 [some (sj_r (some a0)), some (sj_i x1)] [] s := by
  intro a0 x1 s h
  unfold f_X8_look at h
  refine r_iload_n (pc := 0) dX8_look_0 rfl rfl ?_
  obtain ⟨hr, h⟩ := e_sw_some h
  refine sj_if h (fun c0 h => ?_) (fun c0 h => ?_)
  · refine r_tcase (pc := 1) (tgt := 72) (j := 0) hr c0 dX8_look_1 (by decide) (by decide) rfl (by decide) ?_
    refine r_aload_n (pc := 72) dX8_look_72 rfl rfl ?_
    refine r_gR (pc := 73) h dX8_look_73 fw_X8_12 rfl (fun r1 h => ?_)
    obtain ⟨a2, ea2, g⟩ := e_nn_some h
    clear h
    subst ea2
    have h := g
    clear g
    refine r_gI (pc := 76) h dX8_look_76 fw_X8_232 rfl (fun v3 h => ?_)
    exact r_iret (pc := 79) h rfl dX8_look_79
  refine sj_if h (fun c1 h => ?_) (fun c1 h => ?_)
  · refine r_tcase (pc := 1) (tgt := 80) (j := 1) hr c1 dX8_look_1 (by decide) (by decide) rfl (by decide) ?_
    refine r_aload_n (pc := 80) dX8_look_80 rfl rfl ?_
    refine r_gR (pc := 81) h dX8_look_81 fw_X8_12 rfl (fun r4 h => ?_)
    obtain ⟨a5, ea5, g⟩ := e_nn_some h
    clear h
    subst ea5
    have h := g
    clear g
    refine r_gI (pc := 84) h dX8_look_84 fw_X8_235 rfl (fun v6 h => ?_)
    exact r_iret (pc := 87) h rfl dX8_look_87
  refine sj_if h (fun c2 h => ?_) (fun c2 h => ?_)
  · refine r_tcase (pc := 1) (tgt := 88) (j := 2) hr c2 dX8_look_1 (by decide) (by decide) rfl (by decide) ?_
    refine r_aload_n (pc := 88) dX8_look_88 rfl rfl ?_
    refine r_gR (pc := 89) h dX8_look_89 fw_X8_12 rfl (fun r7 h => ?_)
    obtain ⟨a8, ea8, g⟩ := e_nn_some h
    clear h
    subst ea8
    have h := g
    clear g
    refine r_gI (pc := 92) h dX8_look_92 fw_X8_124 rfl (fun v9 h => ?_)
    exact r_iret (pc := 95) h rfl dX8_look_95
  refine sj_if h (fun c3 h => ?_) (fun c3 h => ?_)
  · refine r_tcase (pc := 1) (tgt := 96) (j := 3) hr c3 dX8_look_1 (by decide) (by decide) rfl (by decide) ?_
    refine r_aload_n (pc := 96) dX8_look_96 rfl rfl ?_
    refine r_gR (pc := 97) h dX8_look_97 fw_X8_12 rfl (fun r10 h => ?_)
    obtain ⟨a11, ea11, g⟩ := e_nn_some h
    clear h
    subst ea11
    have h := g
    clear g
    refine r_callV (pc := 100) (fun v => some (sj_i v)) (As := []) (rest := []) h dX8_look_100 mw_X8_238 vw_X0_anchorSet (fun _ _ hc => c_X0_anchorSet hc) rfl ⟨(Nat.le_of_ble_eq_true rfl), (Nat.le_of_ble_eq_true rfl)⟩ (Nat.le_of_ble_eq_true rfl) rfl (fun v13 s12 h => ?_)
    exact r_iret (pc := 103) h rfl dX8_look_103
  refine sj_if h (fun c4 h => ?_) (fun c4 h => ?_)
  · refine r_tcase (pc := 1) (tgt := 104) (j := 4) hr c4 dX8_look_1 (by decide) (by decide) rfl (by decide) ?_
    refine r_aload_n (pc := 104) dX8_look_104 rfl rfl ?_
    refine r_gR (pc := 105) h dX8_look_105 fw_X8_12 rfl (fun r14 h => ?_)
    obtain ⟨a15, ea15, g⟩ := e_nn_some h
    clear h
    subst ea15
    have h := g
    clear g
    refine r_gR (pc := 108) h dX8_look_108 fw_X8_106 rfl (fun r16 h => ?_)
    obtain ⟨a17, ea17, g⟩ := e_nn_some h
    clear h
    subst ea17
    have h := g
    clear g
    refine r_callV (pc := 111) (fun v => some (sj_i v)) (As := []) (rest := []) h dX8_look_111 mw_X8_199 vw_X5_count (fun _ _ hc => c_X5_count hc) rfl ⟨(Nat.le_of_ble_eq_true rfl), (Nat.le_of_ble_eq_true rfl)⟩ (Nat.le_of_ble_eq_true rfl) rfl (fun v19 s18 h => ?_)
    exact r_iret (pc := 114) h rfl dX8_look_114
  refine sj_if h (fun c5 h => ?_) (fun c5 h => ?_)
  · refine r_tcase (pc := 1) (tgt := 115) (j := 5) hr c5 dX8_look_1 (by decide) (by decide) rfl (by decide) ?_
    refine r_aload_n (pc := 115) dX8_look_115 rfl rfl ?_
    refine r_gR (pc := 116) h dX8_look_116 fw_X8_12 rfl (fun r20 h => ?_)
    obtain ⟨a21, ea21, g⟩ := e_nn_some h
    clear h
    subst ea21
    have h := g
    clear g
    refine r_gR (pc := 119) h dX8_look_119 fw_X8_106 rfl (fun r22 h => ?_)
    obtain ⟨a23, ea23, g⟩ := e_nn_some h
    clear h
    subst ea23
    have h := g
    clear g
    refine r_gI (pc := 122) h dX8_look_122 fw_X8_241 rfl (fun v24 h => ?_)
    exact r_iret (pc := 125) h rfl dX8_look_125
  refine sj_if h (fun c6 h => ?_) (fun c6 h => ?_)
  · refine r_tcase (pc := 1) (tgt := 126) (j := 6) hr c6 dX8_look_1 (by decide) (by decide) rfl (by decide) ?_
    refine r_aload_n (pc := 126) dX8_look_126 rfl rfl ?_
    refine r_gR (pc := 127) h dX8_look_127 fw_X8_12 rfl (fun r25 h => ?_)
    obtain ⟨a26, ea26, g⟩ := e_nn_some h
    clear h
    subst ea26
    have h := g
    clear g
    refine r_gR (pc := 130) h dX8_look_130 fw_X8_106 rfl (fun r27 h => ?_)
    obtain ⟨a28, ea28, g⟩ := e_nn_some h
    clear h
    subst ea28
    have h := g
    clear g
    refine r_gI (pc := 133) h dX8_look_133 fw_X8_244 rfl (fun v29 h => ?_)
    exact r_iret (pc := 136) h rfl dX8_look_136
  refine sj_if h (fun c7 h => ?_) (fun c7 h => ?_)
  · refine r_tcase (pc := 1) (tgt := 137) (j := 7) hr c7 dX8_look_1 (by decide) (by decide) rfl (by decide) ?_
    refine r_aload_n (pc := 137) dX8_look_137 rfl rfl ?_
    refine r_gR (pc := 138) h dX8_look_138 fw_X8_12 rfl (fun r30 h => ?_)
    obtain ⟨a31, ea31, g⟩ := e_nn_some h
    clear h
    subst ea31
    have h := g
    clear g
    refine r_gR (pc := 141) h dX8_look_141 fw_X8_106 rfl (fun r32 h => ?_)
    obtain ⟨a33, ea33, g⟩ := e_nn_some h
    clear h
    subst ea33
    have h := g
    clear g
    refine r_callV (pc := 144) (fun v => some (sj_i v)) (As := []) (rest := []) h dX8_look_144 mw_X8_192 vw_X5_isNone (fun _ _ hc => c_X5_isNone hc) rfl ⟨(Nat.le_of_ble_eq_true rfl), (Nat.le_of_ble_eq_true rfl)⟩ (Nat.le_of_ble_eq_true rfl) rfl (fun v35 s34 h => ?_)
    refine r_if_eq (pc := 147) (tgt := 154) h dX8_look_147 (by decide) (fun h => ?_) (fun h => ?_)
    · refine r_aload_n (pc := 154) dX8_look_154 rfl rfl ?_
      refine r_gR (pc := 155) h dX8_look_155 fw_X8_12 rfl (fun r36 h => ?_)
      obtain ⟨a37, ea37, g⟩ := e_nn_some h
      clear h
      subst ea37
      have h := g
      clear g
      refine r_gR (pc := 158) h dX8_look_158 fw_X8_106 rfl (fun r38 h => ?_)
      obtain ⟨a39, ea39, g⟩ := e_nn_some h
      clear h
      subst ea39
      have h := g
      clear g
      refine r_gI (pc := 161) h dX8_look_161 fw_X8_247 rfl (fun v40 h => ?_)
      refine r_if_eq (pc := 164) (tgt := 171) h dX8_look_164 (by decide) (fun h => ?_) (fun h => ?_)
      · refine r_iconst (pc := 171) dX8_look_171 ?_
        exact r_iret (pc := 172) h rfl dX8_look_172
      · refine r_iconst (pc := 167) dX8_look_167 ?_
        refine r_goto (pc := 168) (tgt := 172) dX8_look_168 (by decide) ?_
        exact r_iret (pc := 172) h rfl dX8_look_172
    · refine r_iconst (pc := 150) dX8_look_150 ?_
      refine r_goto (pc := 151) (tgt := 172) dX8_look_151 (by decide) ?_
      exact r_iret (pc := 172) h rfl dX8_look_172
  refine sj_if h (fun c8 h => ?_) (fun c8 h => ?_)
  · refine r_tcase (pc := 1) (tgt := 173) (j := 8) hr c8 dX8_look_1 (by decide) (by decide) rfl (by decide) ?_
    refine r_aload_n (pc := 173) dX8_look_173 rfl rfl ?_
    refine r_gR (pc := 174) h dX8_look_174 fw_X8_25 rfl (fun r41 h => ?_)
    obtain ⟨a42, ea42, g⟩ := e_nn_some h
    clear h
    subst ea42
    have h := g
    clear g
    refine r_gI (pc := 177) h dX8_look_177 fw_X8_170 rfl (fun v43 h => ?_)
    exact r_iret (pc := 180) h rfl dX8_look_180
  refine sj_if h (fun c9 h => ?_) (fun c9 h => ?_)
  · refine r_tcase (pc := 1) (tgt := 181) (j := 9) hr c9 dX8_look_1 (by decide) (by decide) rfl (by decide) ?_
    refine r_aload_n (pc := 181) dX8_look_181 rfl rfl ?_
    refine r_gI (pc := 182) h dX8_look_182 fw_X8_208 rfl (fun v44 h => ?_)
    exact r_iret (pc := 185) h rfl dX8_look_185
  refine sj_if h (fun c10 h => ?_) (fun c10 h => ?_)
  · refine r_tcase (pc := 1) (tgt := 186) (j := 10) hr c10 dX8_look_1 (by decide) (by decide) rfl (by decide) ?_
    refine r_aload_n (pc := 186) dX8_look_186 rfl rfl ?_
    refine r_gR (pc := 187) h dX8_look_187 fw_X8_46 rfl (fun r45 h => ?_)
    obtain ⟨a46, ea46, g⟩ := e_nn_some h
    clear h
    subst ea46
    have h := g
    clear g
    refine r_gI (pc := 190) h dX8_look_190 fw_X8_137 rfl (fun v47 h => ?_)
    exact r_iret (pc := 193) h rfl dX8_look_193
  refine sj_if h (fun c11 h => ?_) (fun c11 h => ?_)
  · refine r_tcase (pc := 1) (tgt := 194) (j := 11) hr c11 dX8_look_1 (by decide) (by decide) rfl (by decide) ?_
    refine r_aload_n (pc := 194) dX8_look_194 rfl rfl ?_
    refine r_gR (pc := 195) h dX8_look_195 fw_X8_12 rfl (fun r48 h => ?_)
    obtain ⟨a49, ea49, g⟩ := e_nn_some h
    clear h
    subst ea49
    have h := g
    clear g
    refine r_callV (pc := 198) (fun v => some (sj_i v)) (As := []) (rest := []) h dX8_look_198 mw_X8_250 vw_X0_greatestGround (fun _ _ hc => c_X0_greatestGround hc) rfl ⟨(Nat.le_of_ble_eq_true rfl), (Nat.le_of_ble_eq_true rfl)⟩ (Nat.le_of_ble_eq_true rfl) rfl (fun v51 s50 h => ?_)
    exact r_iret (pc := 201) h rfl dX8_look_201
  refine sj_if h (fun c12 h => ?_) (fun c12 h => ?_)
  · refine r_tcase (pc := 1) (tgt := 202) (j := 12) hr c12 dX8_look_1 (by decide) (by decide) rfl (by decide) ?_
    refine r_aload_n (pc := 202) dX8_look_202 rfl rfl ?_
    refine r_gR (pc := 203) h dX8_look_203 fw_X8_12 rfl (fun r52 h => ?_)
    obtain ⟨a53, ea53, g⟩ := e_nn_some h
    clear h
    subst ea53
    have h := g
    clear g
    refine r_callV (pc := 206) (fun v => some (sj_i v)) (As := []) (rest := []) h dX8_look_206 mw_X8_253 vw_X0_allSoil (fun _ _ hc => c_X0_allSoil hc) rfl ⟨(Nat.le_of_ble_eq_true rfl), (Nat.le_of_ble_eq_true rfl)⟩ (Nat.le_of_ble_eq_true rfl) rfl (fun v55 s54 h => ?_)
    exact r_iret (pc := 209) h rfl dX8_look_209
  refine sj_if h (fun c13 h => ?_) (fun c13 h => ?_)
  · refine r_tcase (pc := 1) (tgt := 210) (j := 13) hr c13 dX8_look_1 (by decide) (by decide) rfl (by decide) ?_
    refine r_aload_n (pc := 210) dX8_look_210 rfl rfl ?_
    refine r_gR (pc := 211) h dX8_look_211 fw_X8_25 rfl (fun r56 h => ?_)
    obtain ⟨a57, ea57, g⟩ := e_nn_some h
    clear h
    subst ea57
    have h := g
    clear g
    refine r_gI (pc := 214) h dX8_look_214 fw_X8_256 rfl (fun v58 h => ?_)
    exact r_iret (pc := 217) h rfl dX8_look_217
  refine r_tdflt (pc := 1) (tgt := 218) hr dX8_look_1 (by omega) (by decide) ?_
  refine r_bipush (pc := 218) dX8_look_218 ⟨by decide, by decide⟩ ?_
  exact r_iret (pc := 220) h rfl dX8_look_220
set_option maxHeartbeats 4000000 in
theorem c_X8_look {X : sj_X} {N : Nat} {a0 : Nat} {x1 : Int} {s : sj_Mem} {q : Int × sj_Mem} (h : f_X8_look N a0 x1 s = some q) : sj_C X m_X8_look [sj_r (some a0), sj_i x1] s (some (sj_i q.1), q.2) :=
  sj_C_of (by decide +kernel) (Nat.le_of_ble_eq_true rfl) (lo := [some (sj_r (some a0)), some (sj_i x1)]) rfl (sj_weak (l2 := [some (sj_r (some a0)), some (sj_i x1)]) (⟨rfl, ⟨rfl, trivial⟩⟩) (t_X8_look_0 a0 x1 s h))
theorem dX8_cutUp_0 : decode cX8_cutUp 0 = .ok (.aload_n 0, 1) := by decide +kernel
theorem dX8_cutUp_1 : decode cX8_cutUp 1 = .ok (.getfield 12, 3) := by decide +kernel
theorem dX8_cutUp_4 : decode cX8_cutUp 4 = .ok (.getfield 106, 3) := by decide +kernel
theorem dX8_cutUp_7 : decode cX8_cutUp 7 = .ok (.invokevirtual 192, 3) := by decide +kernel
theorem dX8_cutUp_10 : decode cX8_cutUp 10 = .ok (.ifCond .eq 5, 3) := by decide +kernel
theorem dX8_cutUp_13 : decode cX8_cutUp 13 = .ok (.iconst 0, 1) := by decide +kernel
theorem dX8_cutUp_14 : decode cX8_cutUp 14 = .ok (.ireturn, 1) := by decide +kernel
theorem dX8_cutUp_15 : decode cX8_cutUp 15 = .ok (.aload_n 0, 1) := by decide +kernel
theorem dX8_cutUp_16 : decode cX8_cutUp 16 = .ok (.getfield 53, 3) := by decide +kernel
theorem dX8_cutUp_19 : decode cX8_cutUp 19 = .ok (.aload_n 0, 1) := by decide +kernel
theorem dX8_cutUp_20 : decode cX8_cutUp 20 = .ok (.getfield 12, 3) := by decide +kernel
theorem dX8_cutUp_23 : decode cX8_cutUp 23 = .ok (.aload_n 0, 1) := by decide +kernel
theorem dX8_cutUp_24 : decode cX8_cutUp 24 = .ok (.getfield 12, 3) := by decide +kernel
theorem dX8_cutUp_27 : decode cX8_cutUp 27 = .ok (.getfield 106, 3) := by decide +kernel
theorem dX8_cutUp_30 : decode cX8_cutUp 30 = .ok (.invokevirtual 259, 3) := by decide +kernel
theorem dX8_cutUp_33 : decode cX8_cutUp 33 = .ok (.aload_n 0, 1) := by decide +kernel
theorem dX8_cutUp_34 : decode cX8_cutUp 34 = .ok (.getfield 53, 3) := by decide +kernel
theorem dX8_cutUp_37 : decode cX8_cutUp 37 = .ok (.aload_n 0, 1) := by decide +kernel
theorem dX8_cutUp_38 : decode cX8_cutUp 38 = .ok (.getfield 12, 3) := by decide +kernel
theorem dX8_cutUp_41 : decode cX8_cutUp 41 = .ok (.iconst 0, 1) := by decide +kernel
theorem dX8_cutUp_42 : decode cX8_cutUp 42 = .ok (.invokevirtual 263, 3) := by decide +kernel
theorem dX8_cutUp_45 : decode cX8_cutUp 45 = .ok (.iconst 1, 1) := by decide +kernel
theorem dX8_cutUp_46 : decode cX8_cutUp 46 = .ok (.ireturn, 1) := by decide +kernel
set_option maxHeartbeats 4000000 in
theorem t_X8_cutUp_0 {X : sj_X} {s0 : sj_Mem} {N : Nat} {q : Int × sj_Mem} :
    ∀ (a0 : Nat) (s : sj_Mem), f_X8_cutUp N a0 s = some q → sj_T X m_X8_cutUp s0 (some (sj_i q.1), q.2) 0 [some (sj_r (some a0))] [] s := by
  intro a0 s h
  unfold f_X8_cutUp at h
  refine r_aload_n (pc := 0) dX8_cutUp_0 rfl rfl ?_
  refine r_gR (pc := 1) h dX8_cutUp_1 fw_X8_12 rfl (fun r1 h => ?_)
  obtain ⟨a2, ea2, g⟩ := e_nn_some h
  clear h
  subst ea2
  have h := g
  clear g
  refine r_gR (pc := 4) h dX8_cutUp_4 fw_X8_106 rfl (fun r3 h => ?_)
  obtain ⟨a4, ea4, g⟩ := e_nn_some h
  clear h
  subst ea4
  have h := g
  clear g
  refine r_callV (pc := 7) (fun v => some (sj_i v)) (As := []) (rest := []) h dX8_cutUp_7 mw_X8_192 vw_X5_isNone (fun _ _ hc => c_X5_isNone hc) rfl ⟨(Nat.le_of_ble_eq_true rfl), (Nat.le_of_ble_eq_true rfl)⟩ (Nat.le_of_ble_eq_true rfl) rfl (fun v6 s5 h => ?_)
  refine r_if_eq (pc := 10) (tgt := 15) h dX8_cutUp_10 (by decide) (fun h => ?_) (fun h => ?_)
  · refine r_aload_n (pc := 15) dX8_cutUp_15 rfl rfl ?_
    refine r_gR (pc := 16) h dX8_cutUp_16 fw_X8_53 rfl (fun r7 h => ?_)
    refine r_aload_n (pc := 19) dX8_cutUp_19 rfl rfl ?_
    refine r_gR (pc := 20) h dX8_cutUp_20 fw_X8_12 rfl (fun r8 h => ?_)
    refine r_aload_n (pc := 23) dX8_cutUp_23 rfl rfl ?_
    refine r_gR (pc := 24) h dX8_cutUp_24 fw_X8_12 rfl (fun r9 h => ?_)
    obtain ⟨a10, ea10, g⟩ := e_nn_some h
    clear h
    subst ea10
    have h := g
    clear g
    refine r_gR (pc := 27) h dX8_cutUp_27 fw_X8_106 rfl (fun r11 h => ?_)
    obtain ⟨a12, ea12, g⟩ := e_nn_some h
    clear h
    subst ea12
    have h := g
    clear g
    refine r_callV (pc := 30) (fun _ => none) (As := [sj_r r8, sj_r r11]) (rest := []) h dX8_cutUp_30 mw_X8_259 vw_X4_weigh (fun _ _ hc => c_X4_weigh hc) rfl ⟨(Nat.le_of_ble_eq_true rfl), (Nat.le_of_ble_eq_true rfl)⟩ (Nat.le_of_ble_eq_true rfl) rfl (fun _u s13 h => ?_)
    refine r_aload_n (pc := 33) dX8_cutUp_33 rfl rfl ?_
    refine r_gR (pc := 34) h dX8_cutUp_34 fw_X8_53 rfl (fun r14 h => ?_)
    refine r_aload_n (pc := 37) dX8_cutUp_37 rfl rfl ?_
    refine r_gR (pc := 38) h dX8_cutUp_38 fw_X8_12 rfl (fun r15 h => ?_)
    refine r_iconst (pc := 41) dX8_cutUp_41 ?_
    obtain ⟨a16, ea16, g⟩ := e_nn_some h
    clear h
    subst ea16
    have h := g
    clear g
    refine r_callV (pc := 42) (fun _ => none) (As := [sj_r r15, sj_i 0]) (rest := []) h dX8_cutUp_42 mw_X8_263 vw_X4_settle (fun _ _ hc => c_X4_settle hc) rfl ⟨(Nat.le_of_ble_eq_true rfl), (Nat.le_of_ble_eq_true rfl)⟩ (Nat.le_of_ble_eq_true rfl) rfl (fun _u s17 h => ?_)
    refine r_iconst (pc := 45) dX8_cutUp_45 ?_
    exact r_zret (pc := 46) h rfl dX8_cutUp_46
  · refine r_iconst (pc := 13) dX8_cutUp_13 ?_
    exact r_zret (pc := 14) h rfl dX8_cutUp_14
set_option maxHeartbeats 4000000 in
theorem c_X8_cutUp {X : sj_X} {N : Nat} {a0 : Nat} {s : sj_Mem} {q : Int × sj_Mem} (h : f_X8_cutUp N a0 s = some q) : sj_C X m_X8_cutUp [sj_r (some a0)] s (some (sj_i q.1), q.2) :=
  sj_C_of (by decide +kernel) (Nat.le_of_ble_eq_true rfl) (lo := [some (sj_r (some a0))]) rfl (sj_weak (l2 := [some (sj_r (some a0))]) (⟨rfl, trivial⟩) (t_X8_cutUp_0 a0 s h))
theorem dX8_isK_0 : decode cX8_isK 0 = .ok (.iload_n 0, 1) := by decide +kernel
theorem dX8_isK_1 : decode cX8_isK 1 = .ok (.iconst 1, 1) := by decide +kernel
theorem dX8_isK_2 : decode cX8_isK 2 = .ok (.if_icmp .lt 14, 3) := by decide +kernel
theorem dX8_isK_5 : decode cX8_isK 5 = .ok (.iload_n 0, 1) := by decide +kernel
theorem dX8_isK_6 : decode cX8_isK 6 = .ok (.sipush 20000, 3) := by decide +kernel
theorem dX8_isK_9 : decode cX8_isK 9 = .ok (.if_icmp .gt 7, 3) := by decide +kernel
theorem dX8_isK_12 : decode cX8_isK 12 = .ok (.iconst 1, 1) := by decide +kernel
theorem dX8_isK_13 : decode cX8_isK 13 = .ok (.goto 4, 3) := by decide +kernel
theorem dX8_isK_16 : decode cX8_isK 16 = .ok (.iconst 0, 1) := by decide +kernel
theorem dX8_isK_17 : decode cX8_isK 17 = .ok (.ireturn, 1) := by decide +kernel
set_option maxHeartbeats 4000000 in
theorem t_X8_isK_0 {X : sj_X} {s0 : sj_Mem} {N : Nat} {q : Int × sj_Mem} :
    ∀ (x0 : Int) (s : sj_Mem), f_X8_isK N x0 s = some q → sj_T X m_X8_isK s0 (some (sj_i q.1), q.2) 0 [some (sj_i x0)] [] s := by
  intro x0 s h
  unfold f_X8_isK at h
  refine r_iload_n (pc := 0) dX8_isK_0 rfl rfl ?_
  refine r_iconst (pc := 1) dX8_isK_1 ?_
  refine r_icmp_lt (pc := 2) (tgt := 16) h dX8_isK_2 (by decide) (fun h => ?_) (fun h => ?_)
  · refine r_iconst (pc := 16) dX8_isK_16 ?_
    exact r_zret (pc := 17) h rfl dX8_isK_17
  · refine r_iload_n (pc := 5) dX8_isK_5 rfl rfl ?_
    refine r_sipush (pc := 6) dX8_isK_6 ⟨by decide, by decide⟩ ?_
    refine r_icmp_gt (pc := 9) (tgt := 16) h dX8_isK_9 (by decide) (fun h => ?_) (fun h => ?_)
    · refine r_iconst (pc := 16) dX8_isK_16 ?_
      exact r_zret (pc := 17) h rfl dX8_isK_17
    · refine r_iconst (pc := 12) dX8_isK_12 ?_
      refine r_goto (pc := 13) (tgt := 17) dX8_isK_13 (by decide) ?_
      exact r_zret (pc := 17) h rfl dX8_isK_17
set_option maxHeartbeats 4000000 in
theorem c_X8_isK {X : sj_X} {N : Nat} {x0 : Int} {s : sj_Mem} {q : Int × sj_Mem} (h : f_X8_isK N x0 s = some q) : sj_C X m_X8_isK [sj_i x0] s (some (sj_i q.1), q.2) :=
  sj_C_of (by decide +kernel) (Nat.le_of_ble_eq_true rfl) (lo := [some (sj_i x0)]) rfl (sj_weak (l2 := [some (sj_i x0)]) (⟨rfl, trivial⟩) (t_X8_isK_0 x0 s h))
theorem dX8_slice_0 : decode cX8_slice 0 = .ok (.iload_n 1, 1) := by decide +kernel
theorem dX8_slice_1 : decode cX8_slice 1 = .ok (.ifCond .lt 24, 3) := by decide +kernel
theorem dX8_slice_4 : decode cX8_slice 4 = .ok (.iload_n 1, 1) := by decide +kernel
theorem dX8_slice_5 : decode cX8_slice 5 = .ok (.aload_n 0, 1) := by decide +kernel
theorem dX8_slice_6 : decode cX8_slice 6 = .ok (.getfield 12, 3) := by decide +kernel
theorem dX8_slice_9 : decode cX8_slice 9 = .ok (.getfield 106, 3) := by decide +kernel
theorem dX8_slice_12 : decode cX8_slice 12 = .ok (.invokevirtual 199, 3) := by decide +kernel
theorem dX8_slice_15 : decode cX8_slice 15 = .ok (.if_icmp .ge 10, 3) := by decide +kernel
theorem dX8_slice_18 : decode cX8_slice 18 = .ok (.aload_n 0, 1) := by decide +kernel
theorem dX8_slice_19 : decode cX8_slice 19 = .ok (.invokevirtual 267, 3) := by decide +kernel
theorem dX8_slice_22 : decode cX8_slice 22 = .ok (.ifCond .ne 7, 3) := by decide +kernel
theorem dX8_slice_25 : decode cX8_slice 25 = .ok (.ldc2_w 270, 3) := by decide +kernel
theorem dX8_slice_28 : decode cX8_slice 28 = .ok (.lreturn, 1) := by decide +kernel
theorem dX8_slice_29 : decode cX8_slice 29 = .ok (.iload_n 2, 1) := by decide +kernel
theorem dX8_slice_30 : decode cX8_slice 30 = .ok (.tableswitch 134 0 7 #[46, 60, 71, 82, 93, 103, 114, 124], 46) := by decide +kernel
theorem dX8_slice_76 : decode cX8_slice 76 = .ok (.aload_n 0, 1) := by decide +kernel
theorem dX8_slice_77 : decode cX8_slice 77 = .ok (.getfield 12, 3) := by decide +kernel
theorem dX8_slice_80 : decode cX8_slice 80 = .ok (.getfield 106, 3) := by decide +kernel
theorem dX8_slice_83 : decode cX8_slice 83 = .ok (.getfield 241, 3) := by decide +kernel
theorem dX8_slice_86 : decode cX8_slice 86 = .ok (.iload_n 1, 1) := by decide +kernel
theorem dX8_slice_87 : decode cX8_slice 87 = .ok (.iadd, 1) := by decide +kernel
theorem dX8_slice_88 : decode cX8_slice 88 = .ok (.i2l, 1) := by decide +kernel
theorem dX8_slice_89 : decode cX8_slice 89 = .ok (.lreturn, 1) := by decide +kernel
theorem dX8_slice_90 : decode cX8_slice 90 = .ok (.aload_n 0, 1) := by decide +kernel
theorem dX8_slice_91 : decode cX8_slice 91 = .ok (.getfield 53, 3) := by decide +kernel
theorem dX8_slice_94 : decode cX8_slice 94 = .ok (.getfield 272, 3) := by decide +kernel
theorem dX8_slice_97 : decode cX8_slice 97 = .ok (.iload_n 1, 1) := by decide +kernel
theorem dX8_slice_98 : decode cX8_slice 98 = .ok (.iaload, 1) := by decide +kernel
theorem dX8_slice_99 : decode cX8_slice 99 = .ok (.i2l, 1) := by decide +kernel
theorem dX8_slice_100 : decode cX8_slice 100 = .ok (.lreturn, 1) := by decide +kernel
theorem dX8_slice_101 : decode cX8_slice 101 = .ok (.aload_n 0, 1) := by decide +kernel
theorem dX8_slice_102 : decode cX8_slice 102 = .ok (.getfield 53, 3) := by decide +kernel
theorem dX8_slice_105 : decode cX8_slice 105 = .ok (.getfield 275, 3) := by decide +kernel
theorem dX8_slice_108 : decode cX8_slice 108 = .ok (.iload_n 1, 1) := by decide +kernel
theorem dX8_slice_109 : decode cX8_slice 109 = .ok (.iaload, 1) := by decide +kernel
theorem dX8_slice_110 : decode cX8_slice 110 = .ok (.i2l, 1) := by decide +kernel
theorem dX8_slice_111 : decode cX8_slice 111 = .ok (.lreturn, 1) := by decide +kernel
theorem dX8_slice_112 : decode cX8_slice 112 = .ok (.aload_n 0, 1) := by decide +kernel
theorem dX8_slice_113 : decode cX8_slice 113 = .ok (.getfield 53, 3) := by decide +kernel
theorem dX8_slice_116 : decode cX8_slice 116 = .ok (.getfield 276, 3) := by decide +kernel
theorem dX8_slice_119 : decode cX8_slice 119 = .ok (.iload_n 1, 1) := by decide +kernel
theorem dX8_slice_120 : decode cX8_slice 120 = .ok (.iaload, 1) := by decide +kernel
theorem dX8_slice_121 : decode cX8_slice 121 = .ok (.i2l, 1) := by decide +kernel
theorem dX8_slice_122 : decode cX8_slice 122 = .ok (.lreturn, 1) := by decide +kernel
theorem dX8_slice_123 : decode cX8_slice 123 = .ok (.aload_n 0, 1) := by decide +kernel
theorem dX8_slice_124 : decode cX8_slice 124 = .ok (.getfield 53, 3) := by decide +kernel
theorem dX8_slice_127 : decode cX8_slice 127 = .ok (.iload_n 1, 1) := by decide +kernel
theorem dX8_slice_128 : decode cX8_slice 128 = .ok (.invokevirtual 279, 3) := by decide +kernel
theorem dX8_slice_131 : decode cX8_slice 131 = .ok (.i2l, 1) := by decide +kernel
theorem dX8_slice_132 : decode cX8_slice 132 = .ok (.lreturn, 1) := by decide +kernel
theorem dX8_slice_133 : decode cX8_slice 133 = .ok (.aload_n 0, 1) := by decide +kernel
theorem dX8_slice_134 : decode cX8_slice 134 = .ok (.getfield 53, 3) := by decide +kernel
theorem dX8_slice_137 : decode cX8_slice 137 = .ok (.getfield 282, 3) := by decide +kernel
theorem dX8_slice_140 : decode cX8_slice 140 = .ok (.iload_n 1, 1) := by decide +kernel
theorem dX8_slice_141 : decode cX8_slice 141 = .ok (.iaload, 1) := by decide +kernel
theorem dX8_slice_142 : decode cX8_slice 142 = .ok (.i2l, 1) := by decide +kernel
theorem dX8_slice_143 : decode cX8_slice 143 = .ok (.lreturn, 1) := by decide +kernel
theorem dX8_slice_144 : decode cX8_slice 144 = .ok (.aload_n 0, 1) := by decide +kernel
theorem dX8_slice_145 : decode cX8_slice 145 = .ok (.getfield 53, 3) := by decide +kernel
theorem dX8_slice_148 : decode cX8_slice 148 = .ok (.getfield 285, 3) := by decide +kernel
theorem dX8_slice_151 : decode cX8_slice 151 = .ok (.iload_n 1, 1) := by decide +kernel
theorem dX8_slice_152 : decode cX8_slice 152 = .ok (.laload, 1) := by decide +kernel
theorem dX8_slice_153 : decode cX8_slice 153 = .ok (.lreturn, 1) := by decide +kernel
theorem dX8_slice_154 : decode cX8_slice 154 = .ok (.aload_n 0, 1) := by decide +kernel
theorem dX8_slice_155 : decode cX8_slice 155 = .ok (.getfield 53, 3) := by decide +kernel
theorem dX8_slice_158 : decode cX8_slice 158 = .ok (.getfield 289, 3) := by decide +kernel
theorem dX8_slice_161 : decode cX8_slice 161 = .ok (.iload_n 1, 1) := by decide +kernel
theorem dX8_slice_162 : decode cX8_slice 162 = .ok (.laload, 1) := by decide +kernel
theorem dX8_slice_163 : decode cX8_slice 163 = .ok (.lreturn, 1) := by decide +kernel
theorem dX8_slice_164 : decode cX8_slice 164 = .ok (.ldc2_w 270, 3) := by decide +kernel
theorem dX8_slice_167 : decode cX8_slice 167 = .ok (.lreturn, 1) := by decide +kernel
set_option maxHeartbeats 4000000 in
theorem t_X8_slice_0 {X : sj_X} {s0 : sj_Mem} {N : Nat} {q : Int × sj_Mem} :
    ∀ (a0 : Nat) (x1 : Int) (x2 : Int) (s : sj_Mem), f_X8_slice N a0 x1 x2 s = some q → sj_T X m_X8_slice s0 (some (sj_j q.1), q.2) 0 [some (sj_r (some a0)), some (sj_i x1), some (sj_i x2)] [] s := by
  intro a0 x1 x2 s h
  unfold f_X8_slice at h
  refine r_iload_n (pc := 0) dX8_slice_0 rfl rfl ?_
  refine r_if_lt (pc := 1) (tgt := 25) h dX8_slice_1 (by decide) (fun h => ?_) (fun h => ?_)
  · refine r_ldc2 (n := -10000000000000) (pc := 25) dX8_slice_25 kc_X8_270 ?_
    exact r_lret (pc := 28) h rfl dX8_slice_28
  · refine r_iload_n (pc := 4) dX8_slice_4 rfl rfl ?_
    refine r_aload_n (pc := 5) dX8_slice_5 rfl rfl ?_
    refine r_gR (pc := 6) h dX8_slice_6 fw_X8_12 rfl (fun r1 h => ?_)
    obtain ⟨a2, ea2, g⟩ := e_nn_some h
    clear h
    subst ea2
    have h := g
    clear g
    refine r_gR (pc := 9) h dX8_slice_9 fw_X8_106 rfl (fun r3 h => ?_)
    obtain ⟨a4, ea4, g⟩ := e_nn_some h
    clear h
    subst ea4
    have h := g
    clear g
    refine r_callV (pc := 12) (fun v => some (sj_i v)) (As := []) (rest := [(sj_i x1)]) h dX8_slice_12 mw_X8_199 vw_X5_count (fun _ _ hc => c_X5_count hc) rfl ⟨(Nat.le_of_ble_eq_true rfl), (Nat.le_of_ble_eq_true rfl)⟩ (Nat.le_of_ble_eq_true rfl) rfl (fun v6 s5 h => ?_)
    refine r_icmp_ge (pc := 15) (tgt := 25) h dX8_slice_15 (by decide) (fun h => ?_) (fun h => ?_)
    · refine r_ldc2 (n := -10000000000000) (pc := 25) dX8_slice_25 kc_X8_270 ?_
      exact r_lret (pc := 28) h rfl dX8_slice_28
    · refine r_aload_n (pc := 18) dX8_slice_18 rfl rfl ?_
      refine r_callV (pc := 19) (fun v => some (sj_i v)) (As := []) (rest := []) h dX8_slice_19 mw_X8_267 vw_X8_cutUp (fun _ _ hc => c_X8_cutUp hc) rfl ⟨(Nat.le_of_ble_eq_true rfl), (Nat.le_of_ble_eq_true rfl)⟩ (Nat.le_of_ble_eq_true rfl) rfl (fun v8 s7 h => ?_)
      refine r_if_ne (pc := 22) (tgt := 29) h dX8_slice_22 (by decide) (fun h => ?_) (fun h => ?_)
      · refine r_ldc2 (n := -10000000000000) (pc := 25) dX8_slice_25 kc_X8_270 ?_
        exact r_lret (pc := 28) h rfl dX8_slice_28
      · refine r_iload_n (pc := 29) dX8_slice_29 rfl rfl ?_
        obtain ⟨hr, h⟩ := e_sw_some h
        refine sj_if h (fun c0 h => ?_) (fun c0 h => ?_)
        · refine r_tcase (pc := 30) (tgt := 76) (j := 0) hr c0 dX8_slice_30 (by decide) (by decide) rfl (by decide) ?_
          refine r_aload_n (pc := 76) dX8_slice_76 rfl rfl ?_
          refine r_gR (pc := 77) h dX8_slice_77 fw_X8_12 rfl (fun r9 h => ?_)
          obtain ⟨a10, ea10, g⟩ := e_nn_some h
          clear h
          subst ea10
          have h := g
          clear g
          refine r_gR (pc := 80) h dX8_slice_80 fw_X8_106 rfl (fun r11 h => ?_)
          obtain ⟨a12, ea12, g⟩ := e_nn_some h
          clear h
          subst ea12
          have h := g
          clear g
          refine r_gI (pc := 83) h dX8_slice_83 fw_X8_241 rfl (fun v13 h => ?_)
          refine r_iload_n (pc := 86) dX8_slice_86 rfl rfl ?_
          refine r_iadd (pc := 87) dX8_slice_87 ?_
          refine r_i2l (pc := 88) h dX8_slice_88 (fun v14 h => ?_)
          exact r_lret (pc := 89) h rfl dX8_slice_89
        refine sj_if h (fun c1 h => ?_) (fun c1 h => ?_)
        · refine r_tcase (pc := 30) (tgt := 90) (j := 1) hr c1 dX8_slice_30 (by decide) (by decide) rfl (by decide) ?_
          refine r_aload_n (pc := 90) dX8_slice_90 rfl rfl ?_
          refine r_gR (pc := 91) h dX8_slice_91 fw_X8_53 rfl (fun r15 h => ?_)
          obtain ⟨a16, ea16, g⟩ := e_nn_some h
          clear h
          subst ea16
          have h := g
          clear g
          refine r_gR (pc := 94) h dX8_slice_94 fw_X8_272 rfl (fun r17 h => ?_)
          refine r_iload_n (pc := 97) dX8_slice_97 rfl rfl ?_
          obtain ⟨a18, ea18, g⟩ := e_nn_some h
          clear h
          subst ea18
          have h := g
          clear g
          refine r_iaload (pc := 98) h dX8_slice_98 (fun v19 h => ?_)
          refine r_i2l (pc := 99) h dX8_slice_99 (fun v20 h => ?_)
          exact r_lret (pc := 100) h rfl dX8_slice_100
        refine sj_if h (fun c2 h => ?_) (fun c2 h => ?_)
        · refine r_tcase (pc := 30) (tgt := 101) (j := 2) hr c2 dX8_slice_30 (by decide) (by decide) rfl (by decide) ?_
          refine r_aload_n (pc := 101) dX8_slice_101 rfl rfl ?_
          refine r_gR (pc := 102) h dX8_slice_102 fw_X8_53 rfl (fun r21 h => ?_)
          obtain ⟨a22, ea22, g⟩ := e_nn_some h
          clear h
          subst ea22
          have h := g
          clear g
          refine r_gR (pc := 105) h dX8_slice_105 fw_X8_275 rfl (fun r23 h => ?_)
          refine r_iload_n (pc := 108) dX8_slice_108 rfl rfl ?_
          obtain ⟨a24, ea24, g⟩ := e_nn_some h
          clear h
          subst ea24
          have h := g
          clear g
          refine r_iaload (pc := 109) h dX8_slice_109 (fun v25 h => ?_)
          refine r_i2l (pc := 110) h dX8_slice_110 (fun v26 h => ?_)
          exact r_lret (pc := 111) h rfl dX8_slice_111
        refine sj_if h (fun c3 h => ?_) (fun c3 h => ?_)
        · refine r_tcase (pc := 30) (tgt := 112) (j := 3) hr c3 dX8_slice_30 (by decide) (by decide) rfl (by decide) ?_
          refine r_aload_n (pc := 112) dX8_slice_112 rfl rfl ?_
          refine r_gR (pc := 113) h dX8_slice_113 fw_X8_53 rfl (fun r27 h => ?_)
          obtain ⟨a28, ea28, g⟩ := e_nn_some h
          clear h
          subst ea28
          have h := g
          clear g
          refine r_gR (pc := 116) h dX8_slice_116 fw_X8_276 rfl (fun r29 h => ?_)
          refine r_iload_n (pc := 119) dX8_slice_119 rfl rfl ?_
          obtain ⟨a30, ea30, g⟩ := e_nn_some h
          clear h
          subst ea30
          have h := g
          clear g
          refine r_iaload (pc := 120) h dX8_slice_120 (fun v31 h => ?_)
          refine r_i2l (pc := 121) h dX8_slice_121 (fun v32 h => ?_)
          exact r_lret (pc := 122) h rfl dX8_slice_122
        refine sj_if h (fun c4 h => ?_) (fun c4 h => ?_)
        · refine r_tcase (pc := 30) (tgt := 123) (j := 4) hr c4 dX8_slice_30 (by decide) (by decide) rfl (by decide) ?_
          refine r_aload_n (pc := 123) dX8_slice_123 rfl rfl ?_
          refine r_gR (pc := 124) h dX8_slice_124 fw_X8_53 rfl (fun r33 h => ?_)
          refine r_iload_n (pc := 127) dX8_slice_127 rfl rfl ?_
          obtain ⟨a34, ea34, g⟩ := e_nn_some h
          clear h
          subst ea34
          have h := g
          clear g
          refine r_callV (pc := 128) (fun v => some (sj_i v)) (As := [sj_i x1]) (rest := []) h dX8_slice_128 mw_X8_279 vw_X4_press (fun _ _ hc => c_X4_press hc) rfl ⟨(Nat.le_of_ble_eq_true rfl), (Nat.le_of_ble_eq_true rfl)⟩ (Nat.le_of_ble_eq_true rfl) rfl (fun v36 s35 h => ?_)
          refine r_i2l (pc := 131) h dX8_slice_131 (fun v37 h => ?_)
          exact r_lret (pc := 132) h rfl dX8_slice_132
        refine sj_if h (fun c5 h => ?_) (fun c5 h => ?_)
        · refine r_tcase (pc := 30) (tgt := 133) (j := 5) hr c5 dX8_slice_30 (by decide) (by decide) rfl (by decide) ?_
          refine r_aload_n (pc := 133) dX8_slice_133 rfl rfl ?_
          refine r_gR (pc := 134) h dX8_slice_134 fw_X8_53 rfl (fun r38 h => ?_)
          obtain ⟨a39, ea39, g⟩ := e_nn_some h
          clear h
          subst ea39
          have h := g
          clear g
          refine r_gR (pc := 137) h dX8_slice_137 fw_X8_282 rfl (fun r40 h => ?_)
          refine r_iload_n (pc := 140) dX8_slice_140 rfl rfl ?_
          obtain ⟨a41, ea41, g⟩ := e_nn_some h
          clear h
          subst ea41
          have h := g
          clear g
          refine r_iaload (pc := 141) h dX8_slice_141 (fun v42 h => ?_)
          refine r_i2l (pc := 142) h dX8_slice_142 (fun v43 h => ?_)
          exact r_lret (pc := 143) h rfl dX8_slice_143
        refine sj_if h (fun c6 h => ?_) (fun c6 h => ?_)
        · refine r_tcase (pc := 30) (tgt := 144) (j := 6) hr c6 dX8_slice_30 (by decide) (by decide) rfl (by decide) ?_
          refine r_aload_n (pc := 144) dX8_slice_144 rfl rfl ?_
          refine r_gR (pc := 145) h dX8_slice_145 fw_X8_53 rfl (fun r44 h => ?_)
          obtain ⟨a45, ea45, g⟩ := e_nn_some h
          clear h
          subst ea45
          have h := g
          clear g
          refine r_gR (pc := 148) h dX8_slice_148 fw_X8_285 rfl (fun r46 h => ?_)
          refine r_iload_n (pc := 151) dX8_slice_151 rfl rfl ?_
          obtain ⟨a47, ea47, g⟩ := e_nn_some h
          clear h
          subst ea47
          have h := g
          clear g
          refine r_laload (pc := 152) h dX8_slice_152 (fun v48 h => ?_)
          exact r_lret (pc := 153) h rfl dX8_slice_153
        refine sj_if h (fun c7 h => ?_) (fun c7 h => ?_)
        · refine r_tcase (pc := 30) (tgt := 154) (j := 7) hr c7 dX8_slice_30 (by decide) (by decide) rfl (by decide) ?_
          refine r_aload_n (pc := 154) dX8_slice_154 rfl rfl ?_
          refine r_gR (pc := 155) h dX8_slice_155 fw_X8_53 rfl (fun r49 h => ?_)
          obtain ⟨a50, ea50, g⟩ := e_nn_some h
          clear h
          subst ea50
          have h := g
          clear g
          refine r_gR (pc := 158) h dX8_slice_158 fw_X8_289 rfl (fun r51 h => ?_)
          refine r_iload_n (pc := 161) dX8_slice_161 rfl rfl ?_
          obtain ⟨a52, ea52, g⟩ := e_nn_some h
          clear h
          subst ea52
          have h := g
          clear g
          refine r_laload (pc := 162) h dX8_slice_162 (fun v53 h => ?_)
          exact r_lret (pc := 163) h rfl dX8_slice_163
        refine r_tdflt (pc := 30) (tgt := 164) hr dX8_slice_30 (by omega) (by decide) ?_
        refine r_ldc2 (n := -10000000000000) (pc := 164) dX8_slice_164 kc_X8_270 ?_
        exact r_lret (pc := 167) h rfl dX8_slice_167
set_option maxHeartbeats 4000000 in
theorem c_X8_slice {X : sj_X} {N : Nat} {a0 : Nat} {x1 : Int} {x2 : Int} {s : sj_Mem} {q : Int × sj_Mem} (h : f_X8_slice N a0 x1 x2 s = some q) : sj_C X m_X8_slice [sj_r (some a0), sj_i x1, sj_i x2] s (some (sj_j q.1), q.2) :=
  sj_C_of (by decide +kernel) (Nat.le_of_ble_eq_true rfl) (lo := [some (sj_r (some a0)), some (sj_i x1), some (sj_i x2)]) rfl (sj_weak (l2 := [some (sj_r (some a0)), some (sj_i x1), some (sj_i x2)]) (⟨rfl, ⟨rfl, ⟨rfl, trivial⟩⟩⟩) (t_X8_slice_0 a0 x1 x2 s h))
theorem dX8_rubs_0 : decode cX8_rubs 0 = .ok (.iload_n 1, 1) := by decide +kernel
theorem dX8_rubs_1 : decode cX8_rubs 1 = .ok (.ifCond .lt 31, 3) := by decide +kernel
theorem dX8_rubs_4 : decode cX8_rubs 4 = .ok (.iload_n 1, 1) := by decide +kernel
theorem dX8_rubs_5 : decode cX8_rubs 5 = .ok (.aload_n 0, 1) := by decide +kernel
theorem dX8_rubs_6 : decode cX8_rubs 6 = .ok (.getfield 12, 3) := by decide +kernel
theorem dX8_rubs_9 : decode cX8_rubs 9 = .ok (.getfield 106, 3) := by decide +kernel
theorem dX8_rubs_12 : decode cX8_rubs 12 = .ok (.invokevirtual 199, 3) := by decide +kernel
theorem dX8_rubs_15 : decode cX8_rubs 15 = .ok (.if_icmp .ge 17, 3) := by decide +kernel
theorem dX8_rubs_18 : decode cX8_rubs 18 = .ok (.iload_n 2, 1) := by decide +kernel
theorem dX8_rubs_19 : decode cX8_rubs 19 = .ok (.invokestatic 292, 3) := by decide +kernel
theorem dX8_rubs_22 : decode cX8_rubs 22 = .ok (.ifCond .eq 10, 3) := by decide +kernel
theorem dX8_rubs_25 : decode cX8_rubs 25 = .ok (.aload_n 0, 1) := by decide +kernel
theorem dX8_rubs_26 : decode cX8_rubs 26 = .ok (.invokevirtual 267, 3) := by decide +kernel
theorem dX8_rubs_29 : decode cX8_rubs 29 = .ok (.ifCond .ne 7, 3) := by decide +kernel
theorem dX8_rubs_32 : decode cX8_rubs 32 = .ok (.ldc2_w 295, 3) := by decide +kernel
theorem dX8_rubs_35 : decode cX8_rubs 35 = .ok (.lreturn, 1) := by decide +kernel
theorem dX8_rubs_36 : decode cX8_rubs 36 = .ok (.aload_n 0, 1) := by decide +kernel
theorem dX8_rubs_37 : decode cX8_rubs 37 = .ok (.getfield 53, 3) := by decide +kernel
theorem dX8_rubs_40 : decode cX8_rubs 40 = .ok (.iload_n 1, 1) := by decide +kernel
theorem dX8_rubs_41 : decode cX8_rubs 41 = .ok (.iload_n 2, 1) := by decide +kernel
theorem dX8_rubs_42 : decode cX8_rubs 42 = .ok (.invokevirtual 297, 3) := by decide +kernel
theorem dX8_rubs_45 : decode cX8_rubs 45 = .ok (.lreturn, 1) := by decide +kernel
set_option maxHeartbeats 4000000 in
theorem t_X8_rubs_0 {X : sj_X} {s0 : sj_Mem} {N : Nat} {q : Int × sj_Mem} :
    ∀ (a0 : Nat) (x1 : Int) (x2 : Int) (s : sj_Mem), f_X8_rubs N a0 x1 x2 s = some q → sj_T X m_X8_rubs s0 (some (sj_j q.1), q.2) 0 [some (sj_r (some a0)), some (sj_i x1), some (sj_i x2)] [] s := by
  intro a0 x1 x2 s h
  unfold f_X8_rubs at h
  refine r_iload_n (pc := 0) dX8_rubs_0 rfl rfl ?_
  refine r_if_lt (pc := 1) (tgt := 32) h dX8_rubs_1 (by decide) (fun h => ?_) (fun h => ?_)
  · refine r_ldc2 (n := -10) (pc := 32) dX8_rubs_32 kc_X8_295 ?_
    exact r_lret (pc := 35) h rfl dX8_rubs_35
  · refine r_iload_n (pc := 4) dX8_rubs_4 rfl rfl ?_
    refine r_aload_n (pc := 5) dX8_rubs_5 rfl rfl ?_
    refine r_gR (pc := 6) h dX8_rubs_6 fw_X8_12 rfl (fun r1 h => ?_)
    obtain ⟨a2, ea2, g⟩ := e_nn_some h
    clear h
    subst ea2
    have h := g
    clear g
    refine r_gR (pc := 9) h dX8_rubs_9 fw_X8_106 rfl (fun r3 h => ?_)
    obtain ⟨a4, ea4, g⟩ := e_nn_some h
    clear h
    subst ea4
    have h := g
    clear g
    refine r_callV (pc := 12) (fun v => some (sj_i v)) (As := []) (rest := [(sj_i x1)]) h dX8_rubs_12 mw_X8_199 vw_X5_count (fun _ _ hc => c_X5_count hc) rfl ⟨(Nat.le_of_ble_eq_true rfl), (Nat.le_of_ble_eq_true rfl)⟩ (Nat.le_of_ble_eq_true rfl) rfl (fun v6 s5 h => ?_)
    refine r_icmp_ge (pc := 15) (tgt := 32) h dX8_rubs_15 (by decide) (fun h => ?_) (fun h => ?_)
    · refine r_ldc2 (n := -10) (pc := 32) dX8_rubs_32 kc_X8_295 ?_
      exact r_lret (pc := 35) h rfl dX8_rubs_35
    · refine r_iload_n (pc := 18) dX8_rubs_18 rfl rfl ?_
      refine r_callS (pc := 19) (fun v => some (sj_i v)) (As := [sj_i x2]) (rest := []) h dX8_rubs_19 mw_X8_292 kw_879 (fun _ _ hc => c_X8_isK hc) rfl ⟨(Nat.le_of_ble_eq_true rfl), (Nat.le_of_ble_eq_true rfl)⟩ (Nat.le_of_ble_eq_true rfl) rfl (fun v8 s7 h => ?_)
      refine r_if_eq (pc := 22) (tgt := 32) h dX8_rubs_22 (by decide) (fun h => ?_) (fun h => ?_)
      · refine r_ldc2 (n := -10) (pc := 32) dX8_rubs_32 kc_X8_295 ?_
        exact r_lret (pc := 35) h rfl dX8_rubs_35
      · refine r_aload_n (pc := 25) dX8_rubs_25 rfl rfl ?_
        refine r_callV (pc := 26) (fun v => some (sj_i v)) (As := []) (rest := []) h dX8_rubs_26 mw_X8_267 vw_X8_cutUp (fun _ _ hc => c_X8_cutUp hc) rfl ⟨(Nat.le_of_ble_eq_true rfl), (Nat.le_of_ble_eq_true rfl)⟩ (Nat.le_of_ble_eq_true rfl) rfl (fun v10 s9 h => ?_)
        refine r_if_ne (pc := 29) (tgt := 36) h dX8_rubs_29 (by decide) (fun h => ?_) (fun h => ?_)
        · refine r_ldc2 (n := -10) (pc := 32) dX8_rubs_32 kc_X8_295 ?_
          exact r_lret (pc := 35) h rfl dX8_rubs_35
        · refine r_aload_n (pc := 36) dX8_rubs_36 rfl rfl ?_
          refine r_gR (pc := 37) h dX8_rubs_37 fw_X8_53 rfl (fun r11 h => ?_)
          refine r_iload_n (pc := 40) dX8_rubs_40 rfl rfl ?_
          refine r_iload_n (pc := 41) dX8_rubs_41 rfl rfl ?_
          obtain ⟨a12, ea12, g⟩ := e_nn_some h
          clear h
          subst ea12
          have h := g
          clear g
          refine r_callV (pc := 42) (fun v => some (sj_j v)) (As := [sj_i x1, sj_i x2]) (rest := []) h dX8_rubs_42 mw_X8_297 vw_X4_rubsOf (fun _ _ hc => c_X4_rubsOf hc) rfl ⟨(Nat.le_of_ble_eq_true rfl), (Nat.le_of_ble_eq_true rfl)⟩ (Nat.le_of_ble_eq_true rfl) rfl (fun v14 s13 h => ?_)
          exact r_lret (pc := 45) h rfl dX8_rubs_45
set_option maxHeartbeats 4000000 in
theorem c_X8_rubs {X : sj_X} {N : Nat} {a0 : Nat} {x1 : Int} {x2 : Int} {s : sj_Mem} {q : Int × sj_Mem} (h : f_X8_rubs N a0 x1 x2 s = some q) : sj_C X m_X8_rubs [sj_r (some a0), sj_i x1, sj_i x2] s (some (sj_j q.1), q.2) :=
  sj_C_of (by decide +kernel) (Nat.le_of_ble_eq_true rfl) (lo := [some (sj_r (some a0)), some (sj_i x1), some (sj_i x2)]) rfl (sj_weak (l2 := [some (sj_r (some a0)), some (sj_i x1), some (sj_i x2)]) (⟨rfl, ⟨rfl, ⟨rfl, trivial⟩⟩⟩) (t_X8_rubs_0 a0 x1 x2 s h))
theorem dX8_stands_0 : decode cX8_stands 0 = .ok (.iload_n 1, 1) := by decide +kernel
theorem dX8_stands_1 : decode cX8_stands 1 = .ok (.invokestatic 292, 3) := by decide +kernel
theorem dX8_stands_4 : decode cX8_stands 4 = .ok (.ifCond .eq 10, 3) := by decide +kernel
theorem dX8_stands_7 : decode cX8_stands 7 = .ok (.aload_n 0, 1) := by decide +kernel
theorem dX8_stands_8 : decode cX8_stands 8 = .ok (.invokevirtual 267, 3) := by decide +kernel
theorem dX8_stands_11 : decode cX8_stands 11 = .ok (.ifCond .ne 5, 3) := by decide +kernel
theorem dX8_stands_14 : decode cX8_stands 14 = .ok (.iconst (-1), 1) := by decide +kernel
theorem dX8_stands_15 : decode cX8_stands 15 = .ok (.ireturn, 1) := by decide +kernel
theorem dX8_stands_16 : decode cX8_stands 16 = .ok (.aload_n 0, 1) := by decide +kernel
theorem dX8_stands_17 : decode cX8_stands 17 = .ok (.getfield 53, 3) := by decide +kernel
theorem dX8_stands_20 : decode cX8_stands 20 = .ok (.iload_n 1, 1) := by decide +kernel
theorem dX8_stands_21 : decode cX8_stands 21 = .ok (.invokevirtual 301, 3) := by decide +kernel
theorem dX8_stands_24 : decode cX8_stands 24 = .ok (.ifCond .eq 7, 3) := by decide +kernel
theorem dX8_stands_27 : decode cX8_stands 27 = .ok (.iconst 1, 1) := by decide +kernel
theorem dX8_stands_28 : decode cX8_stands 28 = .ok (.goto 4, 3) := by decide +kernel
theorem dX8_stands_31 : decode cX8_stands 31 = .ok (.iconst 0, 1) := by decide +kernel
theorem dX8_stands_32 : decode cX8_stands 32 = .ok (.ireturn, 1) := by decide +kernel
set_option maxHeartbeats 4000000 in
theorem t_X8_stands_0 {X : sj_X} {s0 : sj_Mem} {N : Nat} {q : Int × sj_Mem} :
    ∀ (a0 : Nat) (x1 : Int) (s : sj_Mem), f_X8_stands N a0 x1 s = some q → sj_T X m_X8_stands s0 (some (sj_i q.1), q.2) 0 [some (sj_r (some a0)), some (sj_i x1)] [] s := by
  intro a0 x1 s h
  unfold f_X8_stands at h
  refine r_iload_n (pc := 0) dX8_stands_0 rfl rfl ?_
  refine r_callS (pc := 1) (fun v => some (sj_i v)) (As := [sj_i x1]) (rest := []) h dX8_stands_1 mw_X8_292 kw_879 (fun _ _ hc => c_X8_isK hc) rfl ⟨(Nat.le_of_ble_eq_true rfl), (Nat.le_of_ble_eq_true rfl)⟩ (Nat.le_of_ble_eq_true rfl) rfl (fun v2 s1 h => ?_)
  refine r_if_eq (pc := 4) (tgt := 14) h dX8_stands_4 (by decide) (fun h => ?_) (fun h => ?_)
  · refine r_iconst (pc := 14) dX8_stands_14 ?_
    exact r_iret (pc := 15) h rfl dX8_stands_15
  · refine r_aload_n (pc := 7) dX8_stands_7 rfl rfl ?_
    refine r_callV (pc := 8) (fun v => some (sj_i v)) (As := []) (rest := []) h dX8_stands_8 mw_X8_267 vw_X8_cutUp (fun _ _ hc => c_X8_cutUp hc) rfl ⟨(Nat.le_of_ble_eq_true rfl), (Nat.le_of_ble_eq_true rfl)⟩ (Nat.le_of_ble_eq_true rfl) rfl (fun v4 s3 h => ?_)
    refine r_if_ne (pc := 11) (tgt := 16) h dX8_stands_11 (by decide) (fun h => ?_) (fun h => ?_)
    · refine r_iconst (pc := 14) dX8_stands_14 ?_
      exact r_iret (pc := 15) h rfl dX8_stands_15
    · refine r_aload_n (pc := 16) dX8_stands_16 rfl rfl ?_
      refine r_gR (pc := 17) h dX8_stands_17 fw_X8_53 rfl (fun r5 h => ?_)
      refine r_iload_n (pc := 20) dX8_stands_20 rfl rfl ?_
      obtain ⟨a6, ea6, g⟩ := e_nn_some h
      clear h
      subst ea6
      have h := g
      clear g
      refine r_callV (pc := 21) (fun v => some (sj_i v)) (As := [sj_i x1]) (rest := []) h dX8_stands_21 mw_X8_301 vw_X4_hold (fun _ _ hc => c_X4_hold hc) rfl ⟨(Nat.le_of_ble_eq_true rfl), (Nat.le_of_ble_eq_true rfl)⟩ (Nat.le_of_ble_eq_true rfl) rfl (fun v8 s7 h => ?_)
      refine r_if_eq (pc := 24) (tgt := 31) h dX8_stands_24 (by decide) (fun h => ?_) (fun h => ?_)
      · refine r_iconst (pc := 31) dX8_stands_31 ?_
        exact r_iret (pc := 32) h rfl dX8_stands_32
      · refine r_iconst (pc := 27) dX8_stands_27 ?_
        refine r_goto (pc := 28) (tgt := 32) dX8_stands_28 (by decide) ?_
        exact r_iret (pc := 32) h rfl dX8_stands_32
set_option maxHeartbeats 4000000 in
theorem c_X8_stands {X : sj_X} {N : Nat} {a0 : Nat} {x1 : Int} {s : sj_Mem} {q : Int × sj_Mem} (h : f_X8_stands N a0 x1 s = some q) : sj_C X m_X8_stands [sj_r (some a0), sj_i x1] s (some (sj_i q.1), q.2) :=
  sj_C_of (by decide +kernel) (Nat.le_of_ble_eq_true rfl) (lo := [some (sj_r (some a0)), some (sj_i x1)]) rfl (sj_weak (l2 := [some (sj_r (some a0)), some (sj_i x1)]) (⟨rfl, ⟨rfl, trivial⟩⟩) (t_X8_stands_0 a0 x1 s h))
theorem dX8_factor_0 : decode cX8_factor 0 = .ok (.aload_n 0, 1) := by decide +kernel
theorem dX8_factor_1 : decode cX8_factor 1 = .ok (.invokevirtual 267, 3) := by decide +kernel
theorem dX8_factor_4 : decode cX8_factor 4 = .ok (.ifCond .eq 16, 3) := by decide +kernel
theorem dX8_factor_7 : decode cX8_factor 7 = .ok (.aload_n 0, 1) := by decide +kernel
theorem dX8_factor_8 : decode cX8_factor 8 = .ok (.getfield 53, 3) := by decide +kernel
theorem dX8_factor_11 : decode cX8_factor 11 = .ok (.sipush 20001, 3) := by decide +kernel
theorem dX8_factor_14 : decode cX8_factor 14 = .ok (.invokevirtual 303, 3) := by decide +kernel
theorem dX8_factor_17 : decode cX8_factor 17 = .ok (.goto 4, 3) := by decide +kernel
theorem dX8_factor_20 : decode cX8_factor 20 = .ok (.iconst (-1), 1) := by decide +kernel
theorem dX8_factor_21 : decode cX8_factor 21 = .ok (.ireturn, 1) := by decide +kernel
set_option maxHeartbeats 4000000 in
theorem t_X8_factor_0 {X : sj_X} {s0 : sj_Mem} {N : Nat} {q : Int × sj_Mem} :
    ∀ (a0 : Nat) (s : sj_Mem), f_X8_factor N a0 s = some q → sj_T X m_X8_factor s0 (some (sj_i q.1), q.2) 0 [some (sj_r (some a0))] [] s := by
  intro a0 s h
  unfold f_X8_factor at h
  refine r_aload_n (pc := 0) dX8_factor_0 rfl rfl ?_
  refine r_callV (pc := 1) (fun v => some (sj_i v)) (As := []) (rest := []) h dX8_factor_1 mw_X8_267 vw_X8_cutUp (fun _ _ hc => c_X8_cutUp hc) rfl ⟨(Nat.le_of_ble_eq_true rfl), (Nat.le_of_ble_eq_true rfl)⟩ (Nat.le_of_ble_eq_true rfl) rfl (fun v2 s1 h => ?_)
  refine r_if_eq (pc := 4) (tgt := 20) h dX8_factor_4 (by decide) (fun h => ?_) (fun h => ?_)
  · refine r_iconst (pc := 20) dX8_factor_20 ?_
    exact r_iret (pc := 21) h rfl dX8_factor_21
  · refine r_aload_n (pc := 7) dX8_factor_7 rfl rfl ?_
    refine r_gR (pc := 8) h dX8_factor_8 fw_X8_53 rfl (fun r3 h => ?_)
    refine r_sipush (pc := 11) dX8_factor_11 ⟨by decide, by decide⟩ ?_
    obtain ⟨a4, ea4, g⟩ := e_nn_some h
    clear h
    subst ea4
    have h := g
    clear g
    refine r_callV (pc := 14) (fun v => some (sj_i v)) (As := [sj_i 20001]) (rest := []) h dX8_factor_14 mw_X8_303 vw_X4_leastBound (fun _ _ hc => c_X4_leastBound hc) rfl ⟨(Nat.le_of_ble_eq_true rfl), (Nat.le_of_ble_eq_true rfl)⟩ (Nat.le_of_ble_eq_true rfl) rfl (fun v6 s5 h => ?_)
    refine r_goto (pc := 17) (tgt := 21) dX8_factor_17 (by decide) ?_
    exact r_iret (pc := 21) h rfl dX8_factor_21
set_option maxHeartbeats 4000000 in
theorem c_X8_factor {X : sj_X} {N : Nat} {a0 : Nat} {s : sj_Mem} {q : Int × sj_Mem} (h : f_X8_factor N a0 s = some q) : sj_C X m_X8_factor [sj_r (some a0)] s (some (sj_i q.1), q.2) :=
  sj_C_of (by decide +kernel) (Nat.le_of_ble_eq_true rfl) (lo := [some (sj_r (some a0))]) rfl (sj_weak (l2 := [some (sj_r (some a0))]) (⟨rfl, trivial⟩) (t_X8_factor_0 a0 s h))
theorem dX8_sum_0 : decode cX8_sum 0 = .ok (.aload_n 0, 1) := by decide +kernel
theorem dX8_sum_1 : decode cX8_sum 1 = .ok (.invokevirtual 267, 3) := by decide +kernel
theorem dX8_sum_4 : decode cX8_sum 4 = .ok (.ifCond .ne 7, 3) := by decide +kernel
theorem dX8_sum_7 : decode cX8_sum 7 = .ok (.ldc2_w 270, 3) := by decide +kernel
theorem dX8_sum_10 : decode cX8_sum 10 = .ok (.lreturn, 1) := by decide +kernel
theorem dX8_sum_11 : decode cX8_sum 11 = .ok (.iload_n 1, 1) := by decide +kernel
theorem dX8_sum_12 : decode cX8_sum 12 = .ok (.tableswitch 76 0 4 #[36, 44, 52, 60, 68], 36) := by decide +kernel
theorem dX8_sum_48 : decode cX8_sum 48 = .ok (.aload_n 0, 1) := by decide +kernel
theorem dX8_sum_49 : decode cX8_sum 49 = .ok (.getfield 53, 3) := by decide +kernel
theorem dX8_sum_52 : decode cX8_sum 52 = .ok (.invokevirtual 306, 3) := by decide +kernel
theorem dX8_sum_55 : decode cX8_sum 55 = .ok (.lreturn, 1) := by decide +kernel
theorem dX8_sum_56 : decode cX8_sum 56 = .ok (.aload_n 0, 1) := by decide +kernel
theorem dX8_sum_57 : decode cX8_sum 57 = .ok (.getfield 53, 3) := by decide +kernel
theorem dX8_sum_60 : decode cX8_sum 60 = .ok (.getfield 310, 3) := by decide +kernel
theorem dX8_sum_63 : decode cX8_sum 63 = .ok (.lreturn, 1) := by decide +kernel
theorem dX8_sum_64 : decode cX8_sum 64 = .ok (.aload_n 0, 1) := by decide +kernel
theorem dX8_sum_65 : decode cX8_sum 65 = .ok (.getfield 53, 3) := by decide +kernel
theorem dX8_sum_68 : decode cX8_sum 68 = .ok (.invokevirtual 314, 3) := by decide +kernel
theorem dX8_sum_71 : decode cX8_sum 71 = .ok (.lreturn, 1) := by decide +kernel
theorem dX8_sum_72 : decode cX8_sum 72 = .ok (.aload_n 0, 1) := by decide +kernel
theorem dX8_sum_73 : decode cX8_sum 73 = .ok (.getfield 53, 3) := by decide +kernel
theorem dX8_sum_76 : decode cX8_sum 76 = .ok (.invokevirtual 317, 3) := by decide +kernel
theorem dX8_sum_79 : decode cX8_sum 79 = .ok (.lreturn, 1) := by decide +kernel
theorem dX8_sum_80 : decode cX8_sum 80 = .ok (.aload_n 0, 1) := by decide +kernel
theorem dX8_sum_81 : decode cX8_sum 81 = .ok (.getfield 53, 3) := by decide +kernel
theorem dX8_sum_84 : decode cX8_sum 84 = .ok (.invokevirtual 320, 3) := by decide +kernel
theorem dX8_sum_87 : decode cX8_sum 87 = .ok (.lreturn, 1) := by decide +kernel
theorem dX8_sum_88 : decode cX8_sum 88 = .ok (.ldc2_w 270, 3) := by decide +kernel
theorem dX8_sum_91 : decode cX8_sum 91 = .ok (.lreturn, 1) := by decide +kernel
set_option maxHeartbeats 4000000 in
theorem t_X8_sum_0 {X : sj_X} {s0 : sj_Mem} {N : Nat} {q : Int × sj_Mem} :
    ∀ (a0 : Nat) (x1 : Int) (s : sj_Mem), f_X8_sum N a0 x1 s = some q → sj_T X m_X8_sum s0 (some (sj_j q.1), q.2) 0 [some (sj_r (some a0)), some (sj_i x1)] [] s := by
  intro a0 x1 s h
  unfold f_X8_sum at h
  refine r_aload_n (pc := 0) dX8_sum_0 rfl rfl ?_
  refine r_callV (pc := 1) (fun v => some (sj_i v)) (As := []) (rest := []) h dX8_sum_1 mw_X8_267 vw_X8_cutUp (fun _ _ hc => c_X8_cutUp hc) rfl ⟨(Nat.le_of_ble_eq_true rfl), (Nat.le_of_ble_eq_true rfl)⟩ (Nat.le_of_ble_eq_true rfl) rfl (fun v2 s1 h => ?_)
  refine r_if_ne (pc := 4) (tgt := 11) h dX8_sum_4 (by decide) (fun h => ?_) (fun h => ?_)
  · refine r_ldc2 (n := -10000000000000) (pc := 7) dX8_sum_7 kc_X8_270 ?_
    exact r_lret (pc := 10) h rfl dX8_sum_10
  · refine r_iload_n (pc := 11) dX8_sum_11 rfl rfl ?_
    obtain ⟨hr, h⟩ := e_sw_some h
    refine sj_if h (fun c0 h => ?_) (fun c0 h => ?_)
    · refine r_tcase (pc := 12) (tgt := 48) (j := 0) hr c0 dX8_sum_12 (by decide) (by decide) rfl (by decide) ?_
      refine r_aload_n (pc := 48) dX8_sum_48 rfl rfl ?_
      refine r_gR (pc := 49) h dX8_sum_49 fw_X8_53 rfl (fun r3 h => ?_)
      obtain ⟨a4, ea4, g⟩ := e_nn_some h
      clear h
      subst ea4
      have h := g
      clear g
      refine r_callV (pc := 52) (fun v => some (sj_j v)) (As := []) (rest := []) h dX8_sum_52 mw_X8_306 vw_X4_allPushes (fun _ _ hc => c_X4_allPushes hc) rfl ⟨(Nat.le_of_ble_eq_true rfl), (Nat.le_of_ble_eq_true rfl)⟩ (Nat.le_of_ble_eq_true rfl) rfl (fun v6 s5 h => ?_)
      exact r_lret (pc := 55) h rfl dX8_sum_55
    refine sj_if h (fun c1 h => ?_) (fun c1 h => ?_)
    · refine r_tcase (pc := 12) (tgt := 56) (j := 1) hr c1 dX8_sum_12 (by decide) (by decide) rfl (by decide) ?_
      refine r_aload_n (pc := 56) dX8_sum_56 rfl rfl ?_
      refine r_gR (pc := 57) h dX8_sum_57 fw_X8_53 rfl (fun r7 h => ?_)
      obtain ⟨a8, ea8, g⟩ := e_nn_some h
      clear h
      subst ea8
      have h := g
      clear g
      refine r_gJ (pc := 60) h dX8_sum_60 fw_X8_310 rfl (fun v9 h => ?_)
      exact r_lret (pc := 63) h rfl dX8_sum_63
    refine sj_if h (fun c2 h => ?_) (fun c2 h => ?_)
    · refine r_tcase (pc := 12) (tgt := 64) (j := 2) hr c2 dX8_sum_12 (by decide) (by decide) rfl (by decide) ?_
      refine r_aload_n (pc := 64) dX8_sum_64 rfl rfl ?_
      refine r_gR (pc := 65) h dX8_sum_65 fw_X8_53 rfl (fun r10 h => ?_)
      obtain ⟨a11, ea11, g⟩ := e_nn_some h
      clear h
      subst ea11
      have h := g
      clear g
      refine r_callV (pc := 68) (fun v => some (sj_j v)) (As := []) (rest := []) h dX8_sum_68 mw_X8_314 vw_X4_allWeights (fun _ _ hc => c_X4_allWeights hc) rfl ⟨(Nat.le_of_ble_eq_true rfl), (Nat.le_of_ble_eq_true rfl)⟩ (Nat.le_of_ble_eq_true rfl) rfl (fun v13 s12 h => ?_)
      exact r_lret (pc := 71) h rfl dX8_sum_71
    refine sj_if h (fun c3 h => ?_) (fun c3 h => ?_)
    · refine r_tcase (pc := 12) (tgt := 72) (j := 3) hr c3 dX8_sum_12 (by decide) (by decide) rfl (by decide) ?_
      refine r_aload_n (pc := 72) dX8_sum_72 rfl rfl ?_
      refine r_gR (pc := 73) h dX8_sum_73 fw_X8_53 rfl (fun r14 h => ?_)
      obtain ⟨a15, ea15, g⟩ := e_nn_some h
      clear h
      subst ea15
      have h := g
      clear g
      refine r_callV (pc := 76) (fun v => some (sj_j v)) (As := []) (rest := []) h dX8_sum_76 mw_X8_317 vw_X4_allLifts (fun _ _ hc => c_X4_allLifts hc) rfl ⟨(Nat.le_of_ble_eq_true rfl), (Nat.le_of_ble_eq_true rfl)⟩ (Nat.le_of_ble_eq_true rfl) rfl (fun v17 s16 h => ?_)
      exact r_lret (pc := 79) h rfl dX8_sum_79
    refine sj_if h (fun c4 h => ?_) (fun c4 h => ?_)
    · refine r_tcase (pc := 12) (tgt := 80) (j := 4) hr c4 dX8_sum_12 (by decide) (by decide) rfl (by decide) ?_
      refine r_aload_n (pc := 80) dX8_sum_80 rfl rfl ?_
      refine r_gR (pc := 81) h dX8_sum_81 fw_X8_53 rfl (fun r18 h => ?_)
      obtain ⟨a19, ea19, g⟩ := e_nn_some h
      clear h
      subst ea19
      have h := g
      clear g
      refine r_callV (pc := 84) (fun v => some (sj_j v)) (As := []) (rest := []) h dX8_sum_84 mw_X8_320 vw_X4_allStrengths (fun _ _ hc => c_X4_allStrengths hc) rfl ⟨(Nat.le_of_ble_eq_true rfl), (Nat.le_of_ble_eq_true rfl)⟩ (Nat.le_of_ble_eq_true rfl) rfl (fun v21 s20 h => ?_)
      exact r_lret (pc := 87) h rfl dX8_sum_87
    refine r_tdflt (pc := 12) (tgt := 88) hr dX8_sum_12 (by omega) (by decide) ?_
    refine r_ldc2 (n := -10000000000000) (pc := 88) dX8_sum_88 kc_X8_270 ?_
    exact r_lret (pc := 91) h rfl dX8_sum_91
set_option maxHeartbeats 4000000 in
theorem c_X8_sum {X : sj_X} {N : Nat} {a0 : Nat} {x1 : Int} {s : sj_Mem} {q : Int × sj_Mem} (h : f_X8_sum N a0 x1 s = some q) : sj_C X m_X8_sum [sj_r (some a0), sj_i x1] s (some (sj_j q.1), q.2) :=
  sj_C_of (by decide +kernel) (Nat.le_of_ble_eq_true rfl) (lo := [some (sj_r (some a0)), some (sj_i x1)]) rfl (sj_weak (l2 := [some (sj_r (some a0)), some (sj_i x1)]) (⟨rfl, ⟨rfl, trivial⟩⟩) (t_X8_sum_0 a0 x1 s h))
theorem dX8_dry_0 : decode cX8_dry 0 = .ok (.aload_n 0, 1) := by decide +kernel
theorem dX8_dry_1 : decode cX8_dry 1 = .ok (.getfield 12, 3) := by decide +kernel
theorem dX8_dry_4 : decode cX8_dry 4 = .ok (.getfield 106, 3) := by decide +kernel
theorem dX8_dry_7 : decode cX8_dry 7 = .ok (.invokevirtual 192, 3) := by decide +kernel
theorem dX8_dry_10 : decode cX8_dry 10 = .ok (.ifCond .eq 5, 3) := by decide +kernel
theorem dX8_dry_13 : decode cX8_dry 13 = .ok (.iconst (-1), 1) := by decide +kernel
theorem dX8_dry_14 : decode cX8_dry 14 = .ok (.ireturn, 1) := by decide +kernel
theorem dX8_dry_15 : decode cX8_dry 15 = .ok (.aload_n 0, 1) := by decide +kernel
theorem dX8_dry_16 : decode cX8_dry 16 = .ok (.getfield 16, 3) := by decide +kernel
theorem dX8_dry_19 : decode cX8_dry 19 = .ok (.aload_n 0, 1) := by decide +kernel
theorem dX8_dry_20 : decode cX8_dry 20 = .ok (.getfield 12, 3) := by decide +kernel
theorem dX8_dry_23 : decode cX8_dry 23 = .ok (.invokevirtual 148, 3) := by decide +kernel
theorem dX8_dry_26 : decode cX8_dry 26 = .ok (.aload_n 0, 1) := by decide +kernel
theorem dX8_dry_27 : decode cX8_dry 27 = .ok (.getfield 16, 3) := by decide +kernel
theorem dX8_dry_30 : decode cX8_dry 30 = .ok (.invokevirtual 323, 3) := by decide +kernel
theorem dX8_dry_33 : decode cX8_dry 33 = .ok (.aload_n 0, 1) := by decide +kernel
theorem dX8_dry_34 : decode cX8_dry 34 = .ok (.getfield 53, 3) := by decide +kernel
theorem dX8_dry_37 : decode cX8_dry 37 = .ok (.aload_n 0, 1) := by decide +kernel
theorem dX8_dry_38 : decode cX8_dry 38 = .ok (.getfield 16, 3) := by decide +kernel
theorem dX8_dry_41 : decode cX8_dry 41 = .ok (.aload_n 0, 1) := by decide +kernel
theorem dX8_dry_42 : decode cX8_dry 42 = .ok (.getfield 12, 3) := by decide +kernel
theorem dX8_dry_45 : decode cX8_dry 45 = .ok (.getfield 106, 3) := by decide +kernel
theorem dX8_dry_48 : decode cX8_dry 48 = .ok (.invokevirtual 259, 3) := by decide +kernel
theorem dX8_dry_51 : decode cX8_dry 51 = .ok (.aload_n 0, 1) := by decide +kernel
theorem dX8_dry_52 : decode cX8_dry 52 = .ok (.getfield 53, 3) := by decide +kernel
theorem dX8_dry_55 : decode cX8_dry 55 = .ok (.aload_n 0, 1) := by decide +kernel
theorem dX8_dry_56 : decode cX8_dry 56 = .ok (.getfield 16, 3) := by decide +kernel
theorem dX8_dry_59 : decode cX8_dry 59 = .ok (.iconst 0, 1) := by decide +kernel
theorem dX8_dry_60 : decode cX8_dry 60 = .ok (.invokevirtual 263, 3) := by decide +kernel
theorem dX8_dry_63 : decode cX8_dry 63 = .ok (.aload_n 0, 1) := by decide +kernel
theorem dX8_dry_64 : decode cX8_dry 64 = .ok (.getfield 53, 3) := by decide +kernel
theorem dX8_dry_67 : decode cX8_dry 67 = .ok (.sipush 20001, 3) := by decide +kernel
theorem dX8_dry_70 : decode cX8_dry 70 = .ok (.invokevirtual 303, 3) := by decide +kernel
theorem dX8_dry_73 : decode cX8_dry 73 = .ok (.ireturn, 1) := by decide +kernel
set_option maxHeartbeats 4000000 in
theorem t_X8_dry_0 {X : sj_X} {s0 : sj_Mem} {N : Nat} {q : Int × sj_Mem} :
    ∀ (a0 : Nat) (s : sj_Mem), f_X8_dry N a0 s = some q → sj_T X m_X8_dry s0 (some (sj_i q.1), q.2) 0 [some (sj_r (some a0))] [] s := by
  intro a0 s h
  unfold f_X8_dry at h
  refine r_aload_n (pc := 0) dX8_dry_0 rfl rfl ?_
  refine r_gR (pc := 1) h dX8_dry_1 fw_X8_12 rfl (fun r1 h => ?_)
  obtain ⟨a2, ea2, g⟩ := e_nn_some h
  clear h
  subst ea2
  have h := g
  clear g
  refine r_gR (pc := 4) h dX8_dry_4 fw_X8_106 rfl (fun r3 h => ?_)
  obtain ⟨a4, ea4, g⟩ := e_nn_some h
  clear h
  subst ea4
  have h := g
  clear g
  refine r_callV (pc := 7) (fun v => some (sj_i v)) (As := []) (rest := []) h dX8_dry_7 mw_X8_192 vw_X5_isNone (fun _ _ hc => c_X5_isNone hc) rfl ⟨(Nat.le_of_ble_eq_true rfl), (Nat.le_of_ble_eq_true rfl)⟩ (Nat.le_of_ble_eq_true rfl) rfl (fun v6 s5 h => ?_)
  refine r_if_eq (pc := 10) (tgt := 15) h dX8_dry_10 (by decide) (fun h => ?_) (fun h => ?_)
  · refine r_aload_n (pc := 15) dX8_dry_15 rfl rfl ?_
    refine r_gR (pc := 16) h dX8_dry_16 fw_X8_16 rfl (fun r7 h => ?_)
    refine r_aload_n (pc := 19) dX8_dry_19 rfl rfl ?_
    refine r_gR (pc := 20) h dX8_dry_20 fw_X8_12 rfl (fun r8 h => ?_)
    obtain ⟨a9, ea9, g⟩ := e_nn_some h
    clear h
    subst ea9
    have h := g
    clear g
    refine r_callV (pc := 23) (fun _ => none) (As := [sj_r r8]) (rest := []) h dX8_dry_23 mw_X8_148 vw_X0_copy (fun _ _ hc => c_X0_copy hc) rfl ⟨(Nat.le_of_ble_eq_true rfl), (Nat.le_of_ble_eq_true rfl)⟩ (Nat.le_of_ble_eq_true rfl) rfl (fun _u s10 h => ?_)
    refine r_aload_n (pc := 26) dX8_dry_26 rfl rfl ?_
    refine r_gR (pc := 27) h dX8_dry_27 fw_X8_16 rfl (fun r11 h => ?_)
    obtain ⟨a12, ea12, g⟩ := e_nn_some h
    clear h
    subst ea12
    have h := g
    clear g
    refine r_callV (pc := 30) (fun _ => none) (As := []) (rest := []) h dX8_dry_30 mw_X8_323 vw_X0_dryUp (fun _ _ hc => c_X0_dryUp hc) rfl ⟨(Nat.le_of_ble_eq_true rfl), (Nat.le_of_ble_eq_true rfl)⟩ (Nat.le_of_ble_eq_true rfl) rfl (fun _u s13 h => ?_)
    refine r_aload_n (pc := 33) dX8_dry_33 rfl rfl ?_
    refine r_gR (pc := 34) h dX8_dry_34 fw_X8_53 rfl (fun r14 h => ?_)
    refine r_aload_n (pc := 37) dX8_dry_37 rfl rfl ?_
    refine r_gR (pc := 38) h dX8_dry_38 fw_X8_16 rfl (fun r15 h => ?_)
    refine r_aload_n (pc := 41) dX8_dry_41 rfl rfl ?_
    refine r_gR (pc := 42) h dX8_dry_42 fw_X8_12 rfl (fun r16 h => ?_)
    obtain ⟨a17, ea17, g⟩ := e_nn_some h
    clear h
    subst ea17
    have h := g
    clear g
    refine r_gR (pc := 45) h dX8_dry_45 fw_X8_106 rfl (fun r18 h => ?_)
    obtain ⟨a19, ea19, g⟩ := e_nn_some h
    clear h
    subst ea19
    have h := g
    clear g
    refine r_callV (pc := 48) (fun _ => none) (As := [sj_r r15, sj_r r18]) (rest := []) h dX8_dry_48 mw_X8_259 vw_X4_weigh (fun _ _ hc => c_X4_weigh hc) rfl ⟨(Nat.le_of_ble_eq_true rfl), (Nat.le_of_ble_eq_true rfl)⟩ (Nat.le_of_ble_eq_true rfl) rfl (fun _u s20 h => ?_)
    refine r_aload_n (pc := 51) dX8_dry_51 rfl rfl ?_
    refine r_gR (pc := 52) h dX8_dry_52 fw_X8_53 rfl (fun r21 h => ?_)
    refine r_aload_n (pc := 55) dX8_dry_55 rfl rfl ?_
    refine r_gR (pc := 56) h dX8_dry_56 fw_X8_16 rfl (fun r22 h => ?_)
    refine r_iconst (pc := 59) dX8_dry_59 ?_
    obtain ⟨a23, ea23, g⟩ := e_nn_some h
    clear h
    subst ea23
    have h := g
    clear g
    refine r_callV (pc := 60) (fun _ => none) (As := [sj_r r22, sj_i 0]) (rest := []) h dX8_dry_60 mw_X8_263 vw_X4_settle (fun _ _ hc => c_X4_settle hc) rfl ⟨(Nat.le_of_ble_eq_true rfl), (Nat.le_of_ble_eq_true rfl)⟩ (Nat.le_of_ble_eq_true rfl) rfl (fun _u s24 h => ?_)
    refine r_aload_n (pc := 63) dX8_dry_63 rfl rfl ?_
    refine r_gR (pc := 64) h dX8_dry_64 fw_X8_53 rfl (fun r25 h => ?_)
    refine r_sipush (pc := 67) dX8_dry_67 ⟨by decide, by decide⟩ ?_
    obtain ⟨a26, ea26, g⟩ := e_nn_some h
    clear h
    subst ea26
    have h := g
    clear g
    refine r_callV (pc := 70) (fun v => some (sj_i v)) (As := [sj_i 20001]) (rest := []) h dX8_dry_70 mw_X8_303 vw_X4_leastBound (fun _ _ hc => c_X4_leastBound hc) rfl ⟨(Nat.le_of_ble_eq_true rfl), (Nat.le_of_ble_eq_true rfl)⟩ (Nat.le_of_ble_eq_true rfl) rfl (fun v28 s27 h => ?_)
    exact r_iret (pc := 73) h rfl dX8_dry_73
  · refine r_iconst (pc := 13) dX8_dry_13 ?_
    exact r_iret (pc := 14) h rfl dX8_dry_14
set_option maxHeartbeats 4000000 in
theorem c_X8_dry {X : sj_X} {N : Nat} {a0 : Nat} {s : sj_Mem} {q : Int × sj_Mem} (h : f_X8_dry N a0 s = some q) : sj_C X m_X8_dry [sj_r (some a0)] s (some (sj_i q.1), q.2) :=
  sj_C_of (by decide +kernel) (Nat.le_of_ble_eq_true rfl) (lo := [some (sj_r (some a0))]) rfl (sj_weak (l2 := [some (sj_r (some a0))]) (⟨rfl, trivial⟩) (t_X8_dry_0 a0 s h))
theorem dX8_bears_0 : decode cX8_bears 0 = .ok (.iload_n 1, 1) := by decide +kernel
theorem dX8_bears_1 : decode cX8_bears 1 = .ok (.invokestatic 292, 3) := by decide +kernel
theorem dX8_bears_4 : decode cX8_bears 4 = .ok (.ifCond .eq 16, 3) := by decide +kernel
theorem dX8_bears_7 : decode cX8_bears 7 = .ok (.aload_n 0, 1) := by decide +kernel
theorem dX8_bears_8 : decode cX8_bears 8 = .ok (.getfield 12, 3) := by decide +kernel
theorem dX8_bears_11 : decode cX8_bears 11 = .ok (.getfield 106, 3) := by decide +kernel
theorem dX8_bears_14 : decode cX8_bears 14 = .ok (.invokevirtual 192, 3) := by decide +kernel
theorem dX8_bears_17 : decode cX8_bears 17 = .ok (.ifCond .eq 5, 3) := by decide +kernel
theorem dX8_bears_20 : decode cX8_bears 20 = .ok (.iconst (-1), 1) := by decide +kernel
theorem dX8_bears_21 : decode cX8_bears 21 = .ok (.ireturn, 1) := by decide +kernel
theorem dX8_bears_22 : decode cX8_bears 22 = .ok (.aload_n 0, 1) := by decide +kernel
theorem dX8_bears_23 : decode cX8_bears 23 = .ok (.getfield 16, 3) := by decide +kernel
theorem dX8_bears_26 : decode cX8_bears 26 = .ok (.aload_n 0, 1) := by decide +kernel
theorem dX8_bears_27 : decode cX8_bears 27 = .ok (.getfield 12, 3) := by decide +kernel
theorem dX8_bears_30 : decode cX8_bears 30 = .ok (.invokevirtual 148, 3) := by decide +kernel
theorem dX8_bears_33 : decode cX8_bears 33 = .ok (.iconst (-1), 1) := by decide +kernel
theorem dX8_bears_34 : decode cX8_bears 34 = .ok (.istore_n 2, 1) := by decide +kernel
theorem dX8_bears_35 : decode cX8_bears 35 = .ok (.iconst 0, 1) := by decide +kernel
theorem dX8_bears_36 : decode cX8_bears 36 = .ok (.istore_n 3, 1) := by decide +kernel
theorem dX8_bears_37 : decode cX8_bears 37 = .ok (.iload_n 3, 1) := by decide +kernel
theorem dX8_bears_38 : decode cX8_bears 38 = .ok (.bipush 100, 2) := by decide +kernel
theorem dX8_bears_40 : decode cX8_bears 40 = .ok (.if_icmp .gt 61, 3) := by decide +kernel
theorem dX8_bears_43 : decode cX8_bears 43 = .ok (.aload_n 0, 1) := by decide +kernel
theorem dX8_bears_44 : decode cX8_bears 44 = .ok (.getfield 53, 3) := by decide +kernel
theorem dX8_bears_47 : decode cX8_bears 47 = .ok (.aload_n 0, 1) := by decide +kernel
theorem dX8_bears_48 : decode cX8_bears 48 = .ok (.getfield 16, 3) := by decide +kernel
theorem dX8_bears_51 : decode cX8_bears 51 = .ok (.aload_n 0, 1) := by decide +kernel
theorem dX8_bears_52 : decode cX8_bears 52 = .ok (.getfield 12, 3) := by decide +kernel
theorem dX8_bears_55 : decode cX8_bears 55 = .ok (.getfield 106, 3) := by decide +kernel
theorem dX8_bears_58 : decode cX8_bears 58 = .ok (.invokevirtual 259, 3) := by decide +kernel
theorem dX8_bears_61 : decode cX8_bears 61 = .ok (.aload_n 0, 1) := by decide +kernel
theorem dX8_bears_62 : decode cX8_bears 62 = .ok (.getfield 53, 3) := by decide +kernel
theorem dX8_bears_65 : decode cX8_bears 65 = .ok (.aload_n 0, 1) := by decide +kernel
theorem dX8_bears_66 : decode cX8_bears 66 = .ok (.getfield 16, 3) := by decide +kernel
theorem dX8_bears_69 : decode cX8_bears 69 = .ok (.iconst 0, 1) := by decide +kernel
theorem dX8_bears_70 : decode cX8_bears 70 = .ok (.invokevirtual 263, 3) := by decide +kernel
theorem dX8_bears_73 : decode cX8_bears 73 = .ok (.aload_n 0, 1) := by decide +kernel
theorem dX8_bears_74 : decode cX8_bears 74 = .ok (.getfield 53, 3) := by decide +kernel
theorem dX8_bears_77 : decode cX8_bears 77 = .ok (.iload_n 1, 1) := by decide +kernel
theorem dX8_bears_78 : decode cX8_bears 78 = .ok (.invokevirtual 301, 3) := by decide +kernel
theorem dX8_bears_81 : decode cX8_bears 81 = .ok (.ifCond .ne 5, 3) := by decide +kernel
theorem dX8_bears_84 : decode cX8_bears 84 = .ok (.iload_n 2, 1) := by decide +kernel
theorem dX8_bears_85 : decode cX8_bears 85 = .ok (.ireturn, 1) := by decide +kernel
theorem dX8_bears_86 : decode cX8_bears 86 = .ok (.iload_n 3, 1) := by decide +kernel
theorem dX8_bears_87 : decode cX8_bears 87 = .ok (.istore_n 2, 1) := by decide +kernel
theorem dX8_bears_88 : decode cX8_bears 88 = .ok (.aload_n 0, 1) := by decide +kernel
theorem dX8_bears_89 : decode cX8_bears 89 = .ok (.getfield 16, 3) := by decide +kernel
theorem dX8_bears_92 : decode cX8_bears 92 = .ok (.invokevirtual 326, 3) := by decide +kernel
theorem dX8_bears_95 : decode cX8_bears 95 = .ok (.iinc 3 1, 3) := by decide +kernel
theorem dX8_bears_98 : decode cX8_bears 98 = .ok (.goto (-61), 3) := by decide +kernel
theorem dX8_bears_101 : decode cX8_bears 101 = .ok (.iload_n 2, 1) := by decide +kernel
theorem dX8_bears_102 : decode cX8_bears 102 = .ok (.ireturn, 1) := by decide +kernel
set_option maxHeartbeats 4000000 in
theorem t_X8_bears_37_b {X : sj_X} {s0 : sj_Mem} {N : Nat} {q : Int × sj_Mem} {k37 : Nat → Int → Int → Int → sj_Mem → Option (Int × sj_Mem)} (hk37 : ∀ (a0 : Nat) (x1 : Int) (x2 : Int) (x3 : Int) (s : sj_Mem), k37 a0 x1 x2 x3 s = some q → sj_T X m_X8_bears s0 (some (sj_i q.1), q.2) 37 [some (sj_r (some a0)), some (sj_i x1), some (sj_i x2), some (sj_i x3)] [] s) :
    ∀ (a0 : Nat) (x1 : Int) (x2 : Int) (x3 : Int) (s : sj_Mem), f_X8_bears_37_b N k37 a0 x1 x2 x3 s = some q → sj_T X m_X8_bears s0 (some (sj_i q.1), q.2) 37 [some (sj_r (some a0)), some (sj_i x1), some (sj_i x2), some (sj_i x3)] [] s := by
  intro a0 x1 x2 x3 s h
  unfold f_X8_bears_37_b at h
  refine r_iload_n (pc := 37) dX8_bears_37 rfl rfl ?_
  refine r_bipush (pc := 38) dX8_bears_38 ⟨by decide, by decide⟩ ?_
  refine r_icmp_gt (pc := 40) (tgt := 101) h dX8_bears_40 (by decide) (fun h => ?_) (fun h => ?_)
  · refine r_iload_n (pc := 101) dX8_bears_101 rfl rfl ?_
    exact r_iret (pc := 102) h rfl dX8_bears_102
  · refine r_aload_n (pc := 43) dX8_bears_43 rfl rfl ?_
    refine r_gR (pc := 44) h dX8_bears_44 fw_X8_53 rfl (fun r1 h => ?_)
    refine r_aload_n (pc := 47) dX8_bears_47 rfl rfl ?_
    refine r_gR (pc := 48) h dX8_bears_48 fw_X8_16 rfl (fun r2 h => ?_)
    refine r_aload_n (pc := 51) dX8_bears_51 rfl rfl ?_
    refine r_gR (pc := 52) h dX8_bears_52 fw_X8_12 rfl (fun r3 h => ?_)
    obtain ⟨a4, ea4, g⟩ := e_nn_some h
    clear h
    subst ea4
    have h := g
    clear g
    refine r_gR (pc := 55) h dX8_bears_55 fw_X8_106 rfl (fun r5 h => ?_)
    obtain ⟨a6, ea6, g⟩ := e_nn_some h
    clear h
    subst ea6
    have h := g
    clear g
    refine r_callV (pc := 58) (fun _ => none) (As := [sj_r r2, sj_r r5]) (rest := []) h dX8_bears_58 mw_X8_259 vw_X4_weigh (fun _ _ hc => c_X4_weigh hc) rfl ⟨(Nat.le_of_ble_eq_true rfl), (Nat.le_of_ble_eq_true rfl)⟩ (Nat.le_of_ble_eq_true rfl) rfl (fun _u s7 h => ?_)
    refine r_aload_n (pc := 61) dX8_bears_61 rfl rfl ?_
    refine r_gR (pc := 62) h dX8_bears_62 fw_X8_53 rfl (fun r8 h => ?_)
    refine r_aload_n (pc := 65) dX8_bears_65 rfl rfl ?_
    refine r_gR (pc := 66) h dX8_bears_66 fw_X8_16 rfl (fun r9 h => ?_)
    refine r_iconst (pc := 69) dX8_bears_69 ?_
    obtain ⟨a10, ea10, g⟩ := e_nn_some h
    clear h
    subst ea10
    have h := g
    clear g
    refine r_callV (pc := 70) (fun _ => none) (As := [sj_r r9, sj_i 0]) (rest := []) h dX8_bears_70 mw_X8_263 vw_X4_settle (fun _ _ hc => c_X4_settle hc) rfl ⟨(Nat.le_of_ble_eq_true rfl), (Nat.le_of_ble_eq_true rfl)⟩ (Nat.le_of_ble_eq_true rfl) rfl (fun _u s11 h => ?_)
    refine r_aload_n (pc := 73) dX8_bears_73 rfl rfl ?_
    refine r_gR (pc := 74) h dX8_bears_74 fw_X8_53 rfl (fun r12 h => ?_)
    refine r_iload_n (pc := 77) dX8_bears_77 rfl rfl ?_
    obtain ⟨a13, ea13, g⟩ := e_nn_some h
    clear h
    subst ea13
    have h := g
    clear g
    refine r_callV (pc := 78) (fun v => some (sj_i v)) (As := [sj_i x1]) (rest := []) h dX8_bears_78 mw_X8_301 vw_X4_hold (fun _ _ hc => c_X4_hold hc) rfl ⟨(Nat.le_of_ble_eq_true rfl), (Nat.le_of_ble_eq_true rfl)⟩ (Nat.le_of_ble_eq_true rfl) rfl (fun v15 s14 h => ?_)
    refine r_if_ne (pc := 81) (tgt := 86) h dX8_bears_81 (by decide) (fun h => ?_) (fun h => ?_)
    · refine r_iload_n (pc := 84) dX8_bears_84 rfl rfl ?_
      exact r_iret (pc := 85) h rfl dX8_bears_85
    · refine r_iload_n (pc := 86) dX8_bears_86 rfl rfl ?_
      refine r_istore_n (ln := [some (sj_r (some a0)), some (sj_i x1), some (sj_i x3), some (sj_i x3)]) (pc := 87) dX8_bears_87 rfl (Nat.le_of_ble_eq_true rfl) rfl ?_
      refine r_aload_n (pc := 88) dX8_bears_88 rfl rfl ?_
      refine r_gR (pc := 89) h dX8_bears_89 fw_X8_16 rfl (fun r16 h => ?_)
      obtain ⟨a17, ea17, g⟩ := e_nn_some h
      clear h
      subst ea17
      have h := g
      clear g
      refine r_callV (pc := 92) (fun _ => none) (As := []) (rest := []) h dX8_bears_92 mw_X8_326 vw_X0_raiseWater (fun _ _ hc => c_X0_raiseWater hc) rfl ⟨(Nat.le_of_ble_eq_true rfl), (Nat.le_of_ble_eq_true rfl)⟩ (Nat.le_of_ble_eq_true rfl) rfl (fun _u s18 h => ?_)
      refine r_iinc (ln := fun w => [some (sj_r (some a0)), some (sj_i x1), some (sj_i x3), some (sj_i w)]) (pc := 95) h dX8_bears_95 rfl (Nat.le_of_ble_eq_true rfl) (fun _ => rfl) (fun v19 h => ?_)
      refine r_goto (pc := 98) (tgt := 37) dX8_bears_98 (by decide) ?_
      exact sj_weak (l2 := [some (sj_r (some a0)), some (sj_i x1), some (sj_i x3), some (sj_i v19)]) (⟨rfl, ⟨rfl, ⟨rfl, ⟨rfl, trivial⟩⟩⟩⟩) (hk37 a0 x1 x3 v19 s18 h)
set_option maxHeartbeats 4000000 in
theorem t_X8_bears_37 {X : sj_X} {s0 : sj_Mem} {N : Nat} {q : Int × sj_Mem} :
    ∀ (n : Nat) (a0 : Nat) (x1 : Int) (x2 : Int) (x3 : Int) (s : sj_Mem), f_X8_bears_37 N n a0 x1 x2 x3 s = some q → sj_T X m_X8_bears s0 (some (sj_i q.1), q.2) 37 [some (sj_r (some a0)), some (sj_i x1), some (sj_i x2), some (sj_i x3)] [] s := by
  intro n
  induction n with
  | zero => intro a0 x1 x2 x3 s h; exact nomatch h
  | succ n ih => intro a0 x1 x2 x3 s h; exact t_X8_bears_37_b (N := N) ih a0 x1 x2 x3 s h
set_option maxHeartbeats 4000000 in
theorem t_X8_bears_0 {X : sj_X} {s0 : sj_Mem} {N : Nat} {q : Int × sj_Mem} :
    ∀ (a0 : Nat) (x1 : Int) (s : sj_Mem), f_X8_bears N a0 x1 s = some q → sj_T X m_X8_bears s0 (some (sj_i q.1), q.2) 0 [some (sj_r (some a0)), some (sj_i x1), none, none] [] s := by
  intro a0 x1 s h
  unfold f_X8_bears at h
  refine r_iload_n (pc := 0) dX8_bears_0 rfl rfl ?_
  refine r_callS (pc := 1) (fun v => some (sj_i v)) (As := [sj_i x1]) (rest := []) h dX8_bears_1 mw_X8_292 kw_879 (fun _ _ hc => c_X8_isK hc) rfl ⟨(Nat.le_of_ble_eq_true rfl), (Nat.le_of_ble_eq_true rfl)⟩ (Nat.le_of_ble_eq_true rfl) rfl (fun v2 s1 h => ?_)
  refine r_if_eq (pc := 4) (tgt := 20) h dX8_bears_4 (by decide) (fun h => ?_) (fun h => ?_)
  · refine r_iconst (pc := 20) dX8_bears_20 ?_
    exact r_iret (pc := 21) h rfl dX8_bears_21
  · refine r_aload_n (pc := 7) dX8_bears_7 rfl rfl ?_
    refine r_gR (pc := 8) h dX8_bears_8 fw_X8_12 rfl (fun r3 h => ?_)
    obtain ⟨a4, ea4, g⟩ := e_nn_some h
    clear h
    subst ea4
    have h := g
    clear g
    refine r_gR (pc := 11) h dX8_bears_11 fw_X8_106 rfl (fun r5 h => ?_)
    obtain ⟨a6, ea6, g⟩ := e_nn_some h
    clear h
    subst ea6
    have h := g
    clear g
    refine r_callV (pc := 14) (fun v => some (sj_i v)) (As := []) (rest := []) h dX8_bears_14 mw_X8_192 vw_X5_isNone (fun _ _ hc => c_X5_isNone hc) rfl ⟨(Nat.le_of_ble_eq_true rfl), (Nat.le_of_ble_eq_true rfl)⟩ (Nat.le_of_ble_eq_true rfl) rfl (fun v8 s7 h => ?_)
    refine r_if_eq (pc := 17) (tgt := 22) h dX8_bears_17 (by decide) (fun h => ?_) (fun h => ?_)
    · refine r_aload_n (pc := 22) dX8_bears_22 rfl rfl ?_
      refine r_gR (pc := 23) h dX8_bears_23 fw_X8_16 rfl (fun r9 h => ?_)
      refine r_aload_n (pc := 26) dX8_bears_26 rfl rfl ?_
      refine r_gR (pc := 27) h dX8_bears_27 fw_X8_12 rfl (fun r10 h => ?_)
      obtain ⟨a11, ea11, g⟩ := e_nn_some h
      clear h
      subst ea11
      have h := g
      clear g
      refine r_callV (pc := 30) (fun _ => none) (As := [sj_r r10]) (rest := []) h dX8_bears_30 mw_X8_148 vw_X0_copy (fun _ _ hc => c_X0_copy hc) rfl ⟨(Nat.le_of_ble_eq_true rfl), (Nat.le_of_ble_eq_true rfl)⟩ (Nat.le_of_ble_eq_true rfl) rfl (fun _u s12 h => ?_)
      refine r_iconst (pc := 33) dX8_bears_33 ?_
      refine r_istore_n (ln := [some (sj_r (some a0)), some (sj_i x1), some (sj_i ((-1))), none]) (pc := 34) dX8_bears_34 rfl (Nat.le_of_ble_eq_true rfl) rfl ?_
      refine r_iconst (pc := 35) dX8_bears_35 ?_
      refine r_istore_n (ln := [some (sj_r (some a0)), some (sj_i x1), some (sj_i ((-1))), some (sj_i 0)]) (pc := 36) dX8_bears_36 rfl (Nat.le_of_ble_eq_true rfl) rfl ?_
      exact sj_weak (l2 := [some (sj_r (some a0)), some (sj_i x1), some (sj_i ((-1))), some (sj_i 0)]) (⟨rfl, ⟨rfl, ⟨rfl, ⟨rfl, trivial⟩⟩⟩⟩) (t_X8_bears_37 N a0 x1 ((-1)) 0 s12 h)
    · refine r_iconst (pc := 20) dX8_bears_20 ?_
      exact r_iret (pc := 21) h rfl dX8_bears_21
set_option maxHeartbeats 4000000 in
theorem c_X8_bears {X : sj_X} {N : Nat} {a0 : Nat} {x1 : Int} {s : sj_Mem} {q : Int × sj_Mem} (h : f_X8_bears N a0 x1 s = some q) : sj_C X m_X8_bears [sj_r (some a0), sj_i x1] s (some (sj_i q.1), q.2) :=
  sj_C_of (by decide +kernel) (Nat.le_of_ble_eq_true rfl) (lo := [some (sj_r (some a0)), some (sj_i x1), none, none]) rfl (sj_weak (l2 := [some (sj_r (some a0)), some (sj_i x1), none, none]) (⟨rfl, ⟨rfl, trivial⟩⟩) (t_X8_bears_0 a0 x1 s h))
theorem dX8_needs_0 : decode cX8_needs 0 = .ok (.iload_n 1, 1) := by decide +kernel
theorem dX8_needs_1 : decode cX8_needs 1 = .ok (.invokestatic 292, 3) := by decide +kernel
theorem dX8_needs_4 : decode cX8_needs 4 = .ok (.ifCond .eq 10, 3) := by decide +kernel
theorem dX8_needs_7 : decode cX8_needs 7 = .ok (.aload_n 0, 1) := by decide +kernel
theorem dX8_needs_8 : decode cX8_needs 8 = .ok (.invokevirtual 267, 3) := by decide +kernel
theorem dX8_needs_11 : decode cX8_needs 11 = .ok (.ifCond .ne 5, 3) := by decide +kernel
theorem dX8_needs_14 : decode cX8_needs 14 = .ok (.iconst (-1), 1) := by decide +kernel
theorem dX8_needs_15 : decode cX8_needs 15 = .ok (.ireturn, 1) := by decide +kernel
theorem dX8_needs_16 : decode cX8_needs 16 = .ok (.iconst (-1), 1) := by decide +kernel
theorem dX8_needs_17 : decode cX8_needs 17 = .ok (.istore_n 2, 1) := by decide +kernel
theorem dX8_needs_18 : decode cX8_needs 18 = .ok (.sipush 501, 3) := by decide +kernel
theorem dX8_needs_21 : decode cX8_needs 21 = .ok (.istore_n 3, 1) := by decide +kernel
theorem dX8_needs_22 : decode cX8_needs 22 = .ok (.iconst 0, 1) := by decide +kernel
theorem dX8_needs_23 : decode cX8_needs 23 = .ok (.istore 4, 2) := by decide +kernel
theorem dX8_needs_25 : decode cX8_needs 25 = .ok (.iload 4, 2) := by decide +kernel
theorem dX8_needs_27 : decode cX8_needs 27 = .ok (.bipush 15, 2) := by decide +kernel
theorem dX8_needs_29 : decode cX8_needs 29 = .ok (.if_icmp .ge 56, 3) := by decide +kernel
theorem dX8_needs_32 : decode cX8_needs 32 = .ok (.iload_n 3, 1) := by decide +kernel
theorem dX8_needs_33 : decode cX8_needs 33 = .ok (.iload_n 2, 1) := by decide +kernel
theorem dX8_needs_34 : decode cX8_needs 34 = .ok (.isub, 1) := by decide +kernel
theorem dX8_needs_35 : decode cX8_needs 35 = .ok (.iconst 1, 1) := by decide +kernel
theorem dX8_needs_36 : decode cX8_needs 36 = .ok (.if_icmp .le 49, 3) := by decide +kernel
theorem dX8_needs_39 : decode cX8_needs 39 = .ok (.iload_n 2, 1) := by decide +kernel
theorem dX8_needs_40 : decode cX8_needs 40 = .ok (.iload_n 3, 1) := by decide +kernel
theorem dX8_needs_41 : decode cX8_needs 41 = .ok (.iadd, 1) := by decide +kernel
theorem dX8_needs_42 : decode cX8_needs 42 = .ok (.iconst 2, 1) := by decide +kernel
theorem dX8_needs_43 : decode cX8_needs 43 = .ok (.idiv, 1) := by decide +kernel
theorem dX8_needs_44 : decode cX8_needs 44 = .ok (.istore 5, 2) := by decide +kernel
theorem dX8_needs_46 : decode cX8_needs 46 = .ok (.aload_n 0, 1) := by decide +kernel
theorem dX8_needs_47 : decode cX8_needs 47 = .ok (.getfield 53, 3) := by decide +kernel
theorem dX8_needs_50 : decode cX8_needs 50 = .ok (.aload_n 0, 1) := by decide +kernel
theorem dX8_needs_51 : decode cX8_needs 51 = .ok (.getfield 12, 3) := by decide +kernel
theorem dX8_needs_54 : decode cX8_needs 54 = .ok (.iload 5, 2) := by decide +kernel
theorem dX8_needs_56 : decode cX8_needs 56 = .ok (.invokevirtual 263, 3) := by decide +kernel
theorem dX8_needs_59 : decode cX8_needs 59 = .ok (.aload_n 0, 1) := by decide +kernel
theorem dX8_needs_60 : decode cX8_needs 60 = .ok (.getfield 53, 3) := by decide +kernel
theorem dX8_needs_63 : decode cX8_needs 63 = .ok (.iload_n 1, 1) := by decide +kernel
theorem dX8_needs_64 : decode cX8_needs 64 = .ok (.invokevirtual 301, 3) := by decide +kernel
theorem dX8_needs_67 : decode cX8_needs 67 = .ok (.ifCond .eq 9, 3) := by decide +kernel
theorem dX8_needs_70 : decode cX8_needs 70 = .ok (.iload 5, 2) := by decide +kernel
theorem dX8_needs_72 : decode cX8_needs 72 = .ok (.istore_n 3, 1) := by decide +kernel
theorem dX8_needs_73 : decode cX8_needs 73 = .ok (.goto 6, 3) := by decide +kernel
theorem dX8_needs_76 : decode cX8_needs 76 = .ok (.iload 5, 2) := by decide +kernel
theorem dX8_needs_78 : decode cX8_needs 78 = .ok (.istore_n 2, 1) := by decide +kernel
theorem dX8_needs_79 : decode cX8_needs 79 = .ok (.iinc 4 1, 3) := by decide +kernel
theorem dX8_needs_82 : decode cX8_needs 82 = .ok (.goto (-57), 3) := by decide +kernel
theorem dX8_needs_85 : decode cX8_needs 85 = .ok (.iload_n 3, 1) := by decide +kernel
theorem dX8_needs_86 : decode cX8_needs 86 = .ok (.sipush 500, 3) := by decide +kernel
theorem dX8_needs_89 : decode cX8_needs 89 = .ok (.if_icmp .le 7, 3) := by decide +kernel
theorem dX8_needs_92 : decode cX8_needs 92 = .ok (.iconst (-1), 1) := by decide +kernel
theorem dX8_needs_93 : decode cX8_needs 93 = .ok (.goto 4, 3) := by decide +kernel
theorem dX8_needs_96 : decode cX8_needs 96 = .ok (.iload_n 3, 1) := by decide +kernel
theorem dX8_needs_97 : decode cX8_needs 97 = .ok (.ireturn, 1) := by decide +kernel
set_option maxHeartbeats 4000000 in
theorem t_X8_needs_79 {X : sj_X} {s0 : sj_Mem} {N : Nat} {q : Int × sj_Mem} {k25 : Nat → Int → Int → Int → Int → sj_Mem → Option (Int × sj_Mem)} (hk25 : ∀ (a0 : Nat) (x1 : Int) (x2 : Int) (x3 : Int) (x4 : Int) (s : sj_Mem), k25 a0 x1 x2 x3 x4 s = some q → sj_T X m_X8_needs s0 (some (sj_i q.1), q.2) 25 [some (sj_r (some a0)), some (sj_i x1), some (sj_i x2), some (sj_i x3), some (sj_i x4), none] [] s) :
    ∀ (a0 : Nat) (x1 : Int) (x2 : Int) (x3 : Int) (x4 : Int) (s : sj_Mem), f_X8_needs_79 N k25 a0 x1 x2 x3 x4 s = some q → sj_T X m_X8_needs s0 (some (sj_i q.1), q.2) 79 [some (sj_r (some a0)), some (sj_i x1), some (sj_i x2), some (sj_i x3), some (sj_i x4), none] [] s := by
  intro a0 x1 x2 x3 x4 s h
  unfold f_X8_needs_79 at h
  refine r_iinc (ln := fun w => [some (sj_r (some a0)), some (sj_i x1), some (sj_i x2), some (sj_i x3), some (sj_i w), none]) (pc := 79) h dX8_needs_79 rfl (Nat.le_of_ble_eq_true rfl) (fun _ => rfl) (fun v1 h => ?_)
  refine r_goto (pc := 82) (tgt := 25) dX8_needs_82 (by decide) ?_
  exact sj_weak (l2 := [some (sj_r (some a0)), some (sj_i x1), some (sj_i x2), some (sj_i x3), some (sj_i v1), none]) (⟨rfl, ⟨rfl, ⟨rfl, ⟨rfl, ⟨rfl, trivial⟩⟩⟩⟩⟩) (hk25 a0 x1 x2 x3 v1 s h)
set_option maxHeartbeats 4000000 in
theorem t_X8_needs_85 {X : sj_X} {s0 : sj_Mem} {N : Nat} {q : Int × sj_Mem} :
    ∀ (x3 : Int) (s : sj_Mem), f_X8_needs_85 N x3 s = some q → sj_T X m_X8_needs s0 (some (sj_i q.1), q.2) 85 [none, none, none, some (sj_i x3), none, none] [] s := by
  intro x3 s h
  unfold f_X8_needs_85 at h
  refine r_iload_n (pc := 85) dX8_needs_85 rfl rfl ?_
  refine r_sipush (pc := 86) dX8_needs_86 ⟨by decide, by decide⟩ ?_
  refine r_icmp_le (pc := 89) (tgt := 96) h dX8_needs_89 (by decide) (fun h => ?_) (fun h => ?_)
  · refine r_iload_n (pc := 96) dX8_needs_96 rfl rfl ?_
    exact r_iret (pc := 97) h rfl dX8_needs_97
  · refine r_iconst (pc := 92) dX8_needs_92 ?_
    refine r_goto (pc := 93) (tgt := 97) dX8_needs_93 (by decide) ?_
    exact r_iret (pc := 97) h rfl dX8_needs_97
set_option maxHeartbeats 4000000 in
theorem t_X8_needs_25_b {X : sj_X} {s0 : sj_Mem} {N : Nat} {q : Int × sj_Mem} {k25 : Nat → Int → Int → Int → Int → sj_Mem → Option (Int × sj_Mem)} (hk25 : ∀ (a0 : Nat) (x1 : Int) (x2 : Int) (x3 : Int) (x4 : Int) (s : sj_Mem), k25 a0 x1 x2 x3 x4 s = some q → sj_T X m_X8_needs s0 (some (sj_i q.1), q.2) 25 [some (sj_r (some a0)), some (sj_i x1), some (sj_i x2), some (sj_i x3), some (sj_i x4), none] [] s) :
    ∀ (a0 : Nat) (x1 : Int) (x2 : Int) (x3 : Int) (x4 : Int) (s : sj_Mem), f_X8_needs_25_b N k25 a0 x1 x2 x3 x4 s = some q → sj_T X m_X8_needs s0 (some (sj_i q.1), q.2) 25 [some (sj_r (some a0)), some (sj_i x1), some (sj_i x2), some (sj_i x3), some (sj_i x4), none] [] s := by
  intro a0 x1 x2 x3 x4 s h
  unfold f_X8_needs_25_b at h
  refine r_iload (pc := 25) dX8_needs_25 rfl ?_
  refine r_bipush (pc := 27) dX8_needs_27 ⟨by decide, by decide⟩ ?_
  refine r_icmp_ge (pc := 29) (tgt := 85) h dX8_needs_29 (by decide) (fun h => ?_) (fun h => ?_)
  · exact sj_weak (l2 := [none, none, none, some (sj_i x3), none, none]) (⟨rfl, trivial⟩) (t_X8_needs_85 x3 s h)
  · refine r_iload_n (pc := 32) dX8_needs_32 rfl rfl ?_
    refine r_iload_n (pc := 33) dX8_needs_33 rfl rfl ?_
    refine r_isub (pc := 34) dX8_needs_34 ?_
    refine r_iconst (pc := 35) dX8_needs_35 ?_
    refine r_icmp_le (pc := 36) (tgt := 85) h dX8_needs_36 (by decide) (fun h => ?_) (fun h => ?_)
    · exact sj_weak (l2 := [none, none, none, some (sj_i x3), none, none]) (⟨rfl, trivial⟩) (t_X8_needs_85 x3 s h)
    · refine r_iload_n (pc := 39) dX8_needs_39 rfl rfl ?_
      refine r_iload_n (pc := 40) dX8_needs_40 rfl rfl ?_
      refine r_iadd (pc := 41) dX8_needs_41 ?_
      refine r_iconst (pc := 42) dX8_needs_42 ?_
      refine r_idiv (pc := 43) h dX8_needs_43 (fun v1 h => ?_)
      refine r_istore (ln := [some (sj_r (some a0)), some (sj_i x1), some (sj_i x2), some (sj_i x3), some (sj_i x4), some (sj_i v1)]) (pc := 44) dX8_needs_44 (Nat.le_of_ble_eq_true rfl) rfl ?_
      refine r_aload_n (pc := 46) dX8_needs_46 rfl rfl ?_
      refine r_gR (pc := 47) h dX8_needs_47 fw_X8_53 rfl (fun r2 h => ?_)
      refine r_aload_n (pc := 50) dX8_needs_50 rfl rfl ?_
      refine r_gR (pc := 51) h dX8_needs_51 fw_X8_12 rfl (fun r3 h => ?_)
      refine r_iload (pc := 54) dX8_needs_54 rfl ?_
      obtain ⟨a4, ea4, g⟩ := e_nn_some h
      clear h
      subst ea4
      have h := g
      clear g
      refine r_callV (pc := 56) (fun _ => none) (As := [sj_r r3, sj_i v1]) (rest := []) h dX8_needs_56 mw_X8_263 vw_X4_settle (fun _ _ hc => c_X4_settle hc) rfl ⟨(Nat.le_of_ble_eq_true rfl), (Nat.le_of_ble_eq_true rfl)⟩ (Nat.le_of_ble_eq_true rfl) rfl (fun _u s5 h => ?_)
      refine r_aload_n (pc := 59) dX8_needs_59 rfl rfl ?_
      refine r_gR (pc := 60) h dX8_needs_60 fw_X8_53 rfl (fun r6 h => ?_)
      refine r_iload_n (pc := 63) dX8_needs_63 rfl rfl ?_
      obtain ⟨a7, ea7, g⟩ := e_nn_some h
      clear h
      subst ea7
      have h := g
      clear g
      refine r_callV (pc := 64) (fun v => some (sj_i v)) (As := [sj_i x1]) (rest := []) h dX8_needs_64 mw_X8_301 vw_X4_hold (fun _ _ hc => c_X4_hold hc) rfl ⟨(Nat.le_of_ble_eq_true rfl), (Nat.le_of_ble_eq_true rfl)⟩ (Nat.le_of_ble_eq_true rfl) rfl (fun v9 s8 h => ?_)
      refine r_if_eq (pc := 67) (tgt := 76) h dX8_needs_67 (by decide) (fun h => ?_) (fun h => ?_)
      · refine r_iload (pc := 76) dX8_needs_76 rfl ?_
        refine r_istore_n (ln := [some (sj_r (some a0)), some (sj_i x1), some (sj_i v1), some (sj_i x3), some (sj_i x4), some (sj_i v1)]) (pc := 78) dX8_needs_78 rfl (Nat.le_of_ble_eq_true rfl) rfl ?_
        exact sj_weak (l2 := [some (sj_r (some a0)), some (sj_i x1), some (sj_i v1), some (sj_i x3), some (sj_i x4), none]) (⟨rfl, ⟨rfl, ⟨rfl, ⟨rfl, ⟨rfl, trivial⟩⟩⟩⟩⟩) (t_X8_needs_79 hk25 a0 x1 v1 x3 x4 s8 h)
      · refine r_iload (pc := 70) dX8_needs_70 rfl ?_
        refine r_istore_n (ln := [some (sj_r (some a0)), some (sj_i x1), some (sj_i x2), some (sj_i v1), some (sj_i x4), some (sj_i v1)]) (pc := 72) dX8_needs_72 rfl (Nat.le_of_ble_eq_true rfl) rfl ?_
        refine r_goto (pc := 73) (tgt := 79) dX8_needs_73 (by decide) ?_
        exact sj_weak (l2 := [some (sj_r (some a0)), some (sj_i x1), some (sj_i x2), some (sj_i v1), some (sj_i x4), none]) (⟨rfl, ⟨rfl, ⟨rfl, ⟨rfl, ⟨rfl, trivial⟩⟩⟩⟩⟩) (t_X8_needs_79 hk25 a0 x1 x2 v1 x4 s8 h)
set_option maxHeartbeats 4000000 in
theorem t_X8_needs_25 {X : sj_X} {s0 : sj_Mem} {N : Nat} {q : Int × sj_Mem} :
    ∀ (n : Nat) (a0 : Nat) (x1 : Int) (x2 : Int) (x3 : Int) (x4 : Int) (s : sj_Mem), f_X8_needs_25 N n a0 x1 x2 x3 x4 s = some q → sj_T X m_X8_needs s0 (some (sj_i q.1), q.2) 25 [some (sj_r (some a0)), some (sj_i x1), some (sj_i x2), some (sj_i x3), some (sj_i x4), none] [] s := by
  intro n
  induction n with
  | zero => intro a0 x1 x2 x3 x4 s h; exact nomatch h
  | succ n ih => intro a0 x1 x2 x3 x4 s h; exact t_X8_needs_25_b (N := N) ih a0 x1 x2 x3 x4 s h
set_option maxHeartbeats 4000000 in
theorem t_X8_needs_0 {X : sj_X} {s0 : sj_Mem} {N : Nat} {q : Int × sj_Mem} :
    ∀ (a0 : Nat) (x1 : Int) (s : sj_Mem), f_X8_needs N a0 x1 s = some q → sj_T X m_X8_needs s0 (some (sj_i q.1), q.2) 0 [some (sj_r (some a0)), some (sj_i x1), none, none, none, none] [] s := by
  intro a0 x1 s h
  unfold f_X8_needs at h
  refine r_iload_n (pc := 0) dX8_needs_0 rfl rfl ?_
  refine r_callS (pc := 1) (fun v => some (sj_i v)) (As := [sj_i x1]) (rest := []) h dX8_needs_1 mw_X8_292 kw_879 (fun _ _ hc => c_X8_isK hc) rfl ⟨(Nat.le_of_ble_eq_true rfl), (Nat.le_of_ble_eq_true rfl)⟩ (Nat.le_of_ble_eq_true rfl) rfl (fun v2 s1 h => ?_)
  refine r_if_eq (pc := 4) (tgt := 14) h dX8_needs_4 (by decide) (fun h => ?_) (fun h => ?_)
  · refine r_iconst (pc := 14) dX8_needs_14 ?_
    exact r_iret (pc := 15) h rfl dX8_needs_15
  · refine r_aload_n (pc := 7) dX8_needs_7 rfl rfl ?_
    refine r_callV (pc := 8) (fun v => some (sj_i v)) (As := []) (rest := []) h dX8_needs_8 mw_X8_267 vw_X8_cutUp (fun _ _ hc => c_X8_cutUp hc) rfl ⟨(Nat.le_of_ble_eq_true rfl), (Nat.le_of_ble_eq_true rfl)⟩ (Nat.le_of_ble_eq_true rfl) rfl (fun v4 s3 h => ?_)
    refine r_if_ne (pc := 11) (tgt := 16) h dX8_needs_11 (by decide) (fun h => ?_) (fun h => ?_)
    · refine r_iconst (pc := 14) dX8_needs_14 ?_
      exact r_iret (pc := 15) h rfl dX8_needs_15
    · refine r_iconst (pc := 16) dX8_needs_16 ?_
      refine r_istore_n (ln := [some (sj_r (some a0)), some (sj_i x1), some (sj_i ((-1))), none, none, none]) (pc := 17) dX8_needs_17 rfl (Nat.le_of_ble_eq_true rfl) rfl ?_
      refine r_sipush (pc := 18) dX8_needs_18 ⟨by decide, by decide⟩ ?_
      refine r_istore_n (ln := [some (sj_r (some a0)), some (sj_i x1), some (sj_i ((-1))), some (sj_i 501), none, none]) (pc := 21) dX8_needs_21 rfl (Nat.le_of_ble_eq_true rfl) rfl ?_
      refine r_iconst (pc := 22) dX8_needs_22 ?_
      refine r_istore (ln := [some (sj_r (some a0)), some (sj_i x1), some (sj_i ((-1))), some (sj_i 501), some (sj_i 0), none]) (pc := 23) dX8_needs_23 (Nat.le_of_ble_eq_true rfl) rfl ?_
      exact sj_weak (l2 := [some (sj_r (some a0)), some (sj_i x1), some (sj_i ((-1))), some (sj_i 501), some (sj_i 0), none]) (⟨rfl, ⟨rfl, ⟨rfl, ⟨rfl, ⟨rfl, trivial⟩⟩⟩⟩⟩) (t_X8_needs_25 N a0 x1 ((-1)) 501 0 s3 h)
set_option maxHeartbeats 4000000 in
theorem c_X8_needs {X : sj_X} {N : Nat} {a0 : Nat} {x1 : Int} {s : sj_Mem} {q : Int × sj_Mem} (h : f_X8_needs N a0 x1 s = some q) : sj_C X m_X8_needs [sj_r (some a0), sj_i x1] s (some (sj_i q.1), q.2) :=
  sj_C_of (by decide +kernel) (Nat.le_of_ble_eq_true rfl) (lo := [some (sj_r (some a0)), some (sj_i x1), none, none, none, none]) rfl (sj_weak (l2 := [some (sj_r (some a0)), some (sj_i x1), none, none, none, none]) (⟨rfl, ⟨rfl, trivial⟩⟩) (t_X8_needs_0 a0 x1 s h))
theorem dX8_pull_0 : decode cX8_pull 0 = .ok (.iload_n 1, 1) := by decide +kernel
theorem dX8_pull_1 : decode cX8_pull 1 = .ok (.invokestatic 292, 3) := by decide +kernel
theorem dX8_pull_4 : decode cX8_pull 4 = .ok (.ifCond .eq 10, 3) := by decide +kernel
theorem dX8_pull_7 : decode cX8_pull 7 = .ok (.aload_n 0, 1) := by decide +kernel
theorem dX8_pull_8 : decode cX8_pull 8 = .ok (.invokevirtual 267, 3) := by decide +kernel
theorem dX8_pull_11 : decode cX8_pull 11 = .ok (.ifCond .ne 5, 3) := by decide +kernel
theorem dX8_pull_14 : decode cX8_pull 14 = .ok (.iconst (-1), 1) := by decide +kernel
theorem dX8_pull_15 : decode cX8_pull 15 = .ok (.ireturn, 1) := by decide +kernel
theorem dX8_pull_16 : decode cX8_pull 16 = .ok (.aload_n 0, 1) := by decide +kernel
theorem dX8_pull_17 : decode cX8_pull 17 = .ok (.getfield 53, 3) := by decide +kernel
theorem dX8_pull_20 : decode cX8_pull 20 = .ok (.iload_n 1, 1) := by decide +kernel
theorem dX8_pull_21 : decode cX8_pull 21 = .ok (.invokevirtual 329, 3) := by decide +kernel
theorem dX8_pull_24 : decode cX8_pull 24 = .ok (.lstore_n 2, 1) := by decide +kernel
theorem dX8_pull_25 : decode cX8_pull 25 = .ok (.lload_n 2, 1) := by decide +kernel
theorem dX8_pull_26 : decode cX8_pull 26 = .ok (.lconst 0, 1) := by decide +kernel
theorem dX8_pull_27 : decode cX8_pull 27 = .ok (.lcmp, 1) := by decide +kernel
theorem dX8_pull_28 : decode cX8_pull 28 = .ok (.ifCond .gt 5, 3) := by decide +kernel
theorem dX8_pull_31 : decode cX8_pull 31 = .ok (.iconst 0, 1) := by decide +kernel
theorem dX8_pull_32 : decode cX8_pull 32 = .ok (.ireturn, 1) := by decide +kernel
theorem dX8_pull_33 : decode cX8_pull 33 = .ok (.ldc2_w 333, 3) := by decide +kernel
theorem dX8_pull_36 : decode cX8_pull 36 = .ok (.aload_n 0, 1) := by decide +kernel
theorem dX8_pull_37 : decode cX8_pull 37 = .ok (.getfield 12, 3) := by decide +kernel
theorem dX8_pull_40 : decode cX8_pull 40 = .ok (.getfield 235, 3) := by decide +kernel
theorem dX8_pull_43 : decode cX8_pull 43 = .ok (.i2l, 1) := by decide +kernel
theorem dX8_pull_44 : decode cX8_pull 44 = .ok (.lmul, 1) := by decide +kernel
theorem dX8_pull_45 : decode cX8_pull 45 = .ok (.iload_n 1, 1) := by decide +kernel
theorem dX8_pull_46 : decode cX8_pull 46 = .ok (.i2l, 1) := by decide +kernel
theorem dX8_pull_47 : decode cX8_pull 47 = .ok (.lmul, 1) := by decide +kernel
theorem dX8_pull_48 : decode cX8_pull 48 = .ok (.lstore 4, 2) := by decide +kernel
theorem dX8_pull_50 : decode cX8_pull 50 = .ok (.lload 4, 2) := by decide +kernel
theorem dX8_pull_52 : decode cX8_pull 52 = .ok (.lconst 0, 1) := by decide +kernel
theorem dX8_pull_53 : decode cX8_pull 53 = .ok (.lcmp, 1) := by decide +kernel
theorem dX8_pull_54 : decode cX8_pull 54 = .ok (.ifCond .gt 5, 3) := by decide +kernel
theorem dX8_pull_57 : decode cX8_pull 57 = .ok (.iconst (-1), 1) := by decide +kernel
theorem dX8_pull_58 : decode cX8_pull 58 = .ok (.ireturn, 1) := by decide +kernel
theorem dX8_pull_59 : decode cX8_pull 59 = .ok (.lload_n 2, 1) := by decide +kernel
theorem dX8_pull_60 : decode cX8_pull 60 = .ok (.lload 4, 2) := by decide +kernel
theorem dX8_pull_62 : decode cX8_pull 62 = .ok (.ladd, 1) := by decide +kernel
theorem dX8_pull_63 : decode cX8_pull 63 = .ok (.lconst 1, 1) := by decide +kernel
theorem dX8_pull_64 : decode cX8_pull 64 = .ok (.lsub, 1) := by decide +kernel
theorem dX8_pull_65 : decode cX8_pull 65 = .ok (.lload 4, 2) := by decide +kernel
theorem dX8_pull_67 : decode cX8_pull 67 = .ok (.ldiv, 1) := by decide +kernel
theorem dX8_pull_68 : decode cX8_pull 68 = .ok (.lstore 6, 2) := by decide +kernel
theorem dX8_pull_70 : decode cX8_pull 70 = .ok (.lload 6, 2) := by decide +kernel
theorem dX8_pull_72 : decode cX8_pull 72 = .ok (.ldc2_w 335, 3) := by decide +kernel
theorem dX8_pull_75 : decode cX8_pull 75 = .ok (.lcmp, 1) := by decide +kernel
theorem dX8_pull_76 : decode cX8_pull 76 = .ok (.ifCond .le 7, 3) := by decide +kernel
theorem dX8_pull_79 : decode cX8_pull 79 = .ok (.iconst (-1), 1) := by decide +kernel
theorem dX8_pull_80 : decode cX8_pull 80 = .ok (.goto 6, 3) := by decide +kernel
theorem dX8_pull_83 : decode cX8_pull 83 = .ok (.lload 6, 2) := by decide +kernel
theorem dX8_pull_85 : decode cX8_pull 85 = .ok (.l2i, 1) := by decide +kernel
theorem dX8_pull_86 : decode cX8_pull 86 = .ok (.ireturn, 1) := by decide +kernel
set_option maxHeartbeats 4000000 in
theorem t_X8_pull_0 {X : sj_X} {s0 : sj_Mem} {N : Nat} {q : Int × sj_Mem} :
    ∀ (a0 : Nat) (x1 : Int) (s : sj_Mem), f_X8_pull N a0 x1 s = some q → sj_T X m_X8_pull s0 (some (sj_i q.1), q.2) 0 [some (sj_r (some a0)), some (sj_i x1), none, none, none, none, none, none] [] s := by
  intro a0 x1 s h
  unfold f_X8_pull at h
  refine r_iload_n (pc := 0) dX8_pull_0 rfl rfl ?_
  refine r_callS (pc := 1) (fun v => some (sj_i v)) (As := [sj_i x1]) (rest := []) h dX8_pull_1 mw_X8_292 kw_879 (fun _ _ hc => c_X8_isK hc) rfl ⟨(Nat.le_of_ble_eq_true rfl), (Nat.le_of_ble_eq_true rfl)⟩ (Nat.le_of_ble_eq_true rfl) rfl (fun v2 s1 h => ?_)
  refine r_if_eq (pc := 4) (tgt := 14) h dX8_pull_4 (by decide) (fun h => ?_) (fun h => ?_)
  · refine r_iconst (pc := 14) dX8_pull_14 ?_
    exact r_iret (pc := 15) h rfl dX8_pull_15
  · refine r_aload_n (pc := 7) dX8_pull_7 rfl rfl ?_
    refine r_callV (pc := 8) (fun v => some (sj_i v)) (As := []) (rest := []) h dX8_pull_8 mw_X8_267 vw_X8_cutUp (fun _ _ hc => c_X8_cutUp hc) rfl ⟨(Nat.le_of_ble_eq_true rfl), (Nat.le_of_ble_eq_true rfl)⟩ (Nat.le_of_ble_eq_true rfl) rfl (fun v4 s3 h => ?_)
    refine r_if_ne (pc := 11) (tgt := 16) h dX8_pull_11 (by decide) (fun h => ?_) (fun h => ?_)
    · refine r_iconst (pc := 14) dX8_pull_14 ?_
      exact r_iret (pc := 15) h rfl dX8_pull_15
    · refine r_aload_n (pc := 16) dX8_pull_16 rfl rfl ?_
      refine r_gR (pc := 17) h dX8_pull_17 fw_X8_53 rfl (fun r5 h => ?_)
      refine r_iload_n (pc := 20) dX8_pull_20 rfl rfl ?_
      obtain ⟨a6, ea6, g⟩ := e_nn_some h
      clear h
      subst ea6
      have h := g
      clear g
      refine r_callV (pc := 21) (fun v => some (sj_j v)) (As := [sj_i x1]) (rest := []) h dX8_pull_21 mw_X8_329 vw_X4_lack (fun _ _ hc => c_X4_lack hc) rfl ⟨(Nat.le_of_ble_eq_true rfl), (Nat.le_of_ble_eq_true rfl)⟩ (Nat.le_of_ble_eq_true rfl) rfl (fun v8 s7 h => ?_)
      refine r_lstore_n (ln := [some (sj_r (some a0)), some (sj_i x1), some (sj_j v8), none, none, none, none, none]) (pc := 24) dX8_pull_24 rfl (Nat.le_of_ble_eq_true rfl) rfl ?_
      refine r_lload_n (pc := 25) dX8_pull_25 rfl rfl ?_
      refine r_lconst0 (pc := 26) dX8_pull_26 ?_
      refine r_lgt (pc := 27) (tgt := 33) h dX8_pull_27 rfl dX8_pull_28 (by decide) (fun h => ?_) (fun h => ?_)
      · refine r_ldc2 (n := 2000) (pc := 33) dX8_pull_33 kc_X8_333 ?_
        refine r_aload_n (pc := 36) dX8_pull_36 rfl rfl ?_
        refine r_gR (pc := 37) h dX8_pull_37 fw_X8_12 rfl (fun r9 h => ?_)
        obtain ⟨a10, ea10, g⟩ := e_nn_some h
        clear h
        subst ea10
        have h := g
        clear g
        refine r_gI (pc := 40) h dX8_pull_40 fw_X8_235 rfl (fun v11 h => ?_)
        refine r_i2l (pc := 43) h dX8_pull_43 (fun v12 h => ?_)
        refine r_lmul (pc := 44) dX8_pull_44 ?_
        refine r_iload_n (pc := 45) dX8_pull_45 rfl rfl ?_
        refine r_i2l (pc := 46) h dX8_pull_46 (fun v13 h => ?_)
        refine r_lmul (pc := 47) dX8_pull_47 ?_
        refine r_lstoreL (ln := fun w => [some (sj_r (some a0)), some (sj_i x1), some (sj_j v8), none, some (sj_j w), none, none, none]) (pc := 48) h dX8_pull_48 (Nat.le_of_ble_eq_true rfl) (fun _ => rfl) (fun v14 h => ?_)
        refine r_lload (pc := 50) dX8_pull_50 rfl ?_
        refine r_lconst0 (pc := 52) dX8_pull_52 ?_
        refine r_lgt (pc := 53) (tgt := 59) h dX8_pull_53 rfl dX8_pull_54 (by decide) (fun h => ?_) (fun h => ?_)
        · refine r_lload_n (pc := 59) dX8_pull_59 rfl rfl ?_
          refine r_lload (pc := 60) dX8_pull_60 rfl ?_
          refine r_ladd (pc := 62) dX8_pull_62 ?_
          refine r_lconst1 (pc := 63) dX8_pull_63 ?_
          refine r_lsub (pc := 64) dX8_pull_64 ?_
          refine r_lload (pc := 65) dX8_pull_65 rfl ?_
          refine r_ldiv (pc := 67) h dX8_pull_67 (fun v15 h => ?_)
          refine r_lstore (ln := [some (sj_r (some a0)), some (sj_i x1), some (sj_j v8), none, some (sj_j v14), none, some (sj_j v15), none]) (pc := 68) dX8_pull_68 (Nat.le_of_ble_eq_true rfl) rfl ?_
          refine r_lload (pc := 70) dX8_pull_70 rfl ?_
          refine r_ldc2 (n := 20000) (pc := 72) dX8_pull_72 kc_X8_335 ?_
          refine r_lle (pc := 75) (tgt := 83) h dX8_pull_75 rfl dX8_pull_76 (by decide) (fun h => ?_) (fun h => ?_)
          · refine r_lload (pc := 83) dX8_pull_83 rfl ?_
            refine r_l2i (pc := 85) dX8_pull_85 ?_
            exact r_iret (pc := 86) h rfl dX8_pull_86
          · refine r_iconst (pc := 79) dX8_pull_79 ?_
            refine r_goto (pc := 80) (tgt := 86) dX8_pull_80 (by decide) ?_
            exact r_iret (pc := 86) h rfl dX8_pull_86
        · refine r_iconst (pc := 57) dX8_pull_57 ?_
          exact r_iret (pc := 58) h rfl dX8_pull_58
      · refine r_iconst (pc := 31) dX8_pull_31 ?_
        exact r_iret (pc := 32) h rfl dX8_pull_32
set_option maxHeartbeats 4000000 in
theorem c_X8_pull {X : sj_X} {N : Nat} {a0 : Nat} {x1 : Int} {s : sj_Mem} {q : Int × sj_Mem} (h : f_X8_pull N a0 x1 s = some q) : sj_C X m_X8_pull [sj_r (some a0), sj_i x1] s (some (sj_i q.1), q.2) :=
  sj_C_of (by decide +kernel) (Nat.le_of_ble_eq_true rfl) (lo := [some (sj_r (some a0)), some (sj_i x1), none, none, none, none, none, none]) rfl (sj_weak (l2 := [some (sj_r (some a0)), some (sj_i x1), none, none, none, none, none, none]) (⟨rfl, ⟨rfl, trivial⟩⟩) (t_X8_pull_0 a0 x1 s h))
theorem dX8_berm_0 : decode cX8_berm 0 = .ok (.iload_n 3, 1) := by decide +kernel
theorem dX8_berm_1 : decode cX8_berm 1 = .ok (.invokestatic 292, 3) := by decide +kernel
theorem dX8_berm_4 : decode cX8_berm 4 = .ok (.ifCond .eq 37, 3) := by decide +kernel
theorem dX8_berm_7 : decode cX8_berm 7 = .ok (.aload_n 0, 1) := by decide +kernel
theorem dX8_berm_8 : decode cX8_berm 8 = .ok (.getfield 12, 3) := by decide +kernel
theorem dX8_berm_11 : decode cX8_berm 11 = .ok (.iload_n 1, 1) := by decide +kernel
theorem dX8_berm_12 : decode cX8_berm 12 = .ok (.invokevirtual 78, 3) := by decide +kernel
theorem dX8_berm_15 : decode cX8_berm 15 = .ok (.ifCond .eq 26, 3) := by decide +kernel
theorem dX8_berm_18 : decode cX8_berm 18 = .ok (.aload_n 0, 1) := by decide +kernel
theorem dX8_berm_19 : decode cX8_berm 19 = .ok (.getfield 12, 3) := by decide +kernel
theorem dX8_berm_22 : decode cX8_berm 22 = .ok (.iload_n 2, 1) := by decide +kernel
theorem dX8_berm_23 : decode cX8_berm 23 = .ok (.invokevirtual 78, 3) := by decide +kernel
theorem dX8_berm_26 : decode cX8_berm 26 = .ok (.ifCond .eq 15, 3) := by decide +kernel
theorem dX8_berm_29 : decode cX8_berm 29 = .ok (.iload_n 1, 1) := by decide +kernel
theorem dX8_berm_30 : decode cX8_berm 30 = .ok (.iload_n 2, 1) := by decide +kernel
theorem dX8_berm_31 : decode cX8_berm 31 = .ok (.if_icmp .gt 10, 3) := by decide +kernel
theorem dX8_berm_34 : decode cX8_berm 34 = .ok (.aload_n 0, 1) := by decide +kernel
theorem dX8_berm_35 : decode cX8_berm 35 = .ok (.invokevirtual 267, 3) := by decide +kernel
theorem dX8_berm_38 : decode cX8_berm 38 = .ok (.ifCond .ne 5, 3) := by decide +kernel
theorem dX8_berm_41 : decode cX8_berm 41 = .ok (.iconst (-1), 1) := by decide +kernel
theorem dX8_berm_42 : decode cX8_berm 42 = .ok (.ireturn, 1) := by decide +kernel
theorem dX8_berm_43 : decode cX8_berm 43 = .ok (.iconst 0, 1) := by decide +kernel
theorem dX8_berm_44 : decode cX8_berm 44 = .ok (.istore 4, 2) := by decide +kernel
theorem dX8_berm_46 : decode cX8_berm 46 = .ok (.iload 4, 2) := by decide +kernel
theorem dX8_berm_48 : decode cX8_berm 48 = .ok (.sipush 500, 3) := by decide +kernel
theorem dX8_berm_51 : decode cX8_berm 51 = .ok (.if_icmp .gt 54, 3) := by decide +kernel
theorem dX8_berm_54 : decode cX8_berm 54 = .ok (.aload_n 0, 1) := by decide +kernel
theorem dX8_berm_55 : decode cX8_berm 55 = .ok (.getfield 53, 3) := by decide +kernel
theorem dX8_berm_58 : decode cX8_berm 58 = .ok (.iload_n 3, 1) := by decide +kernel
theorem dX8_berm_59 : decode cX8_berm 59 = .ok (.invokevirtual 301, 3) := by decide +kernel
theorem dX8_berm_62 : decode cX8_berm 62 = .ok (.ifCond .eq 6, 3) := by decide +kernel
theorem dX8_berm_65 : decode cX8_berm 65 = .ok (.iload 4, 2) := by decide +kernel
theorem dX8_berm_67 : decode cX8_berm 67 = .ok (.ireturn, 1) := by decide +kernel
theorem dX8_berm_68 : decode cX8_berm 68 = .ok (.aload_n 0, 1) := by decide +kernel
theorem dX8_berm_69 : decode cX8_berm 69 = .ok (.getfield 53, 3) := by decide +kernel
theorem dX8_berm_72 : decode cX8_berm 72 = .ok (.aload_n 0, 1) := by decide +kernel
theorem dX8_berm_73 : decode cX8_berm 73 = .ok (.getfield 12, 3) := by decide +kernel
theorem dX8_berm_76 : decode cX8_berm 76 = .ok (.getfield 106, 3) := by decide +kernel
theorem dX8_berm_79 : decode cX8_berm 79 = .ok (.getfield 241, 3) := by decide +kernel
theorem dX8_berm_82 : decode cX8_berm 82 = .ok (.iload_n 1, 1) := by decide +kernel
theorem dX8_berm_83 : decode cX8_berm 83 = .ok (.iload_n 2, 1) := by decide +kernel
theorem dX8_berm_84 : decode cX8_berm 84 = .ok (.invokevirtual 337, 3) := by decide +kernel
theorem dX8_berm_87 : decode cX8_berm 87 = .ok (.aload_n 0, 1) := by decide +kernel
theorem dX8_berm_88 : decode cX8_berm 88 = .ok (.getfield 53, 3) := by decide +kernel
theorem dX8_berm_91 : decode cX8_berm 91 = .ok (.aload_n 0, 1) := by decide +kernel
theorem dX8_berm_92 : decode cX8_berm 92 = .ok (.getfield 12, 3) := by decide +kernel
theorem dX8_berm_95 : decode cX8_berm 95 = .ok (.iconst 0, 1) := by decide +kernel
theorem dX8_berm_96 : decode cX8_berm 96 = .ok (.invokevirtual 263, 3) := by decide +kernel
theorem dX8_berm_99 : decode cX8_berm 99 = .ok (.iinc 4 1, 3) := by decide +kernel
theorem dX8_berm_102 : decode cX8_berm 102 = .ok (.goto (-56), 3) := by decide +kernel
theorem dX8_berm_105 : decode cX8_berm 105 = .ok (.iconst (-1), 1) := by decide +kernel
theorem dX8_berm_106 : decode cX8_berm 106 = .ok (.ireturn, 1) := by decide +kernel
set_option maxHeartbeats 4000000 in
theorem t_X8_berm_46_b {X : sj_X} {s0 : sj_Mem} {N : Nat} {q : Int × sj_Mem} {k46 : Nat → Int → Int → Int → Int → sj_Mem → Option (Int × sj_Mem)} (hk46 : ∀ (a0 : Nat) (x1 : Int) (x2 : Int) (x3 : Int) (x4 : Int) (s : sj_Mem), k46 a0 x1 x2 x3 x4 s = some q → sj_T X m_X8_berm s0 (some (sj_i q.1), q.2) 46 [some (sj_r (some a0)), some (sj_i x1), some (sj_i x2), some (sj_i x3), some (sj_i x4)] [] s) :
    ∀ (a0 : Nat) (x1 : Int) (x2 : Int) (x3 : Int) (x4 : Int) (s : sj_Mem), f_X8_berm_46_b N k46 a0 x1 x2 x3 x4 s = some q → sj_T X m_X8_berm s0 (some (sj_i q.1), q.2) 46 [some (sj_r (some a0)), some (sj_i x1), some (sj_i x2), some (sj_i x3), some (sj_i x4)] [] s := by
  intro a0 x1 x2 x3 x4 s h
  unfold f_X8_berm_46_b at h
  refine r_iload (pc := 46) dX8_berm_46 rfl ?_
  refine r_sipush (pc := 48) dX8_berm_48 ⟨by decide, by decide⟩ ?_
  refine r_icmp_gt (pc := 51) (tgt := 105) h dX8_berm_51 (by decide) (fun h => ?_) (fun h => ?_)
  · refine r_iconst (pc := 105) dX8_berm_105 ?_
    exact r_iret (pc := 106) h rfl dX8_berm_106
  · refine r_aload_n (pc := 54) dX8_berm_54 rfl rfl ?_
    refine r_gR (pc := 55) h dX8_berm_55 fw_X8_53 rfl (fun r1 h => ?_)
    refine r_iload_n (pc := 58) dX8_berm_58 rfl rfl ?_
    obtain ⟨a2, ea2, g⟩ := e_nn_some h
    clear h
    subst ea2
    have h := g
    clear g
    refine r_callV (pc := 59) (fun v => some (sj_i v)) (As := [sj_i x3]) (rest := []) h dX8_berm_59 mw_X8_301 vw_X4_hold (fun _ _ hc => c_X4_hold hc) rfl ⟨(Nat.le_of_ble_eq_true rfl), (Nat.le_of_ble_eq_true rfl)⟩ (Nat.le_of_ble_eq_true rfl) rfl (fun v4 s3 h => ?_)
    refine r_if_eq (pc := 62) (tgt := 68) h dX8_berm_62 (by decide) (fun h => ?_) (fun h => ?_)
    · refine r_aload_n (pc := 68) dX8_berm_68 rfl rfl ?_
      refine r_gR (pc := 69) h dX8_berm_69 fw_X8_53 rfl (fun r5 h => ?_)
      refine r_aload_n (pc := 72) dX8_berm_72 rfl rfl ?_
      refine r_gR (pc := 73) h dX8_berm_73 fw_X8_12 rfl (fun r6 h => ?_)
      obtain ⟨a7, ea7, g⟩ := e_nn_some h
      clear h
      subst ea7
      have h := g
      clear g
      refine r_gR (pc := 76) h dX8_berm_76 fw_X8_106 rfl (fun r8 h => ?_)
      obtain ⟨a9, ea9, g⟩ := e_nn_some h
      clear h
      subst ea9
      have h := g
      clear g
      refine r_gI (pc := 79) h dX8_berm_79 fw_X8_241 rfl (fun v10 h => ?_)
      refine r_iload_n (pc := 82) dX8_berm_82 rfl rfl ?_
      refine r_iload_n (pc := 83) dX8_berm_83 rfl rfl ?_
      obtain ⟨a11, ea11, g⟩ := e_nn_some h
      clear h
      subst ea11
      have h := g
      clear g
      refine r_callV (pc := 84) (fun _ => none) (As := [sj_i v10, sj_i x1, sj_i x2]) (rest := []) h dX8_berm_84 mw_X8_337 vw_X4_burden (fun _ _ hc => c_X4_burden hc) rfl ⟨(Nat.le_of_ble_eq_true rfl), (Nat.le_of_ble_eq_true rfl)⟩ (Nat.le_of_ble_eq_true rfl) rfl (fun _u s12 h => ?_)
      refine r_aload_n (pc := 87) dX8_berm_87 rfl rfl ?_
      refine r_gR (pc := 88) h dX8_berm_88 fw_X8_53 rfl (fun r13 h => ?_)
      refine r_aload_n (pc := 91) dX8_berm_91 rfl rfl ?_
      refine r_gR (pc := 92) h dX8_berm_92 fw_X8_12 rfl (fun r14 h => ?_)
      refine r_iconst (pc := 95) dX8_berm_95 ?_
      obtain ⟨a15, ea15, g⟩ := e_nn_some h
      clear h
      subst ea15
      have h := g
      clear g
      refine r_callV (pc := 96) (fun _ => none) (As := [sj_r r14, sj_i 0]) (rest := []) h dX8_berm_96 mw_X8_263 vw_X4_settle (fun _ _ hc => c_X4_settle hc) rfl ⟨(Nat.le_of_ble_eq_true rfl), (Nat.le_of_ble_eq_true rfl)⟩ (Nat.le_of_ble_eq_true rfl) rfl (fun _u s16 h => ?_)
      refine r_iinc (ln := fun w => [some (sj_r (some a0)), some (sj_i x1), some (sj_i x2), some (sj_i x3), some (sj_i w)]) (pc := 99) h dX8_berm_99 rfl (Nat.le_of_ble_eq_true rfl) (fun _ => rfl) (fun v17 h => ?_)
      refine r_goto (pc := 102) (tgt := 46) dX8_berm_102 (by decide) ?_
      exact sj_weak (l2 := [some (sj_r (some a0)), some (sj_i x1), some (sj_i x2), some (sj_i x3), some (sj_i v17)]) (⟨rfl, ⟨rfl, ⟨rfl, ⟨rfl, ⟨rfl, trivial⟩⟩⟩⟩⟩) (hk46 a0 x1 x2 x3 v17 s16 h)
    · refine r_iload (pc := 65) dX8_berm_65 rfl ?_
      exact r_iret (pc := 67) h rfl dX8_berm_67
set_option maxHeartbeats 4000000 in
theorem t_X8_berm_46 {X : sj_X} {s0 : sj_Mem} {N : Nat} {q : Int × sj_Mem} :
    ∀ (n : Nat) (a0 : Nat) (x1 : Int) (x2 : Int) (x3 : Int) (x4 : Int) (s : sj_Mem), f_X8_berm_46 N n a0 x1 x2 x3 x4 s = some q → sj_T X m_X8_berm s0 (some (sj_i q.1), q.2) 46 [some (sj_r (some a0)), some (sj_i x1), some (sj_i x2), some (sj_i x3), some (sj_i x4)] [] s := by
  intro n
  induction n with
  | zero => intro a0 x1 x2 x3 x4 s h; exact nomatch h
  | succ n ih => intro a0 x1 x2 x3 x4 s h; exact t_X8_berm_46_b (N := N) ih a0 x1 x2 x3 x4 s h
set_option maxHeartbeats 4000000 in
theorem t_X8_berm_0 {X : sj_X} {s0 : sj_Mem} {N : Nat} {q : Int × sj_Mem} :
    ∀ (a0 : Nat) (x1 : Int) (x2 : Int) (x3 : Int) (s : sj_Mem), f_X8_berm N a0 x1 x2 x3 s = some q → sj_T X m_X8_berm s0 (some (sj_i q.1), q.2) 0 [some (sj_r (some a0)), some (sj_i x1), some (sj_i x2), some (sj_i x3), none] [] s := by
  intro a0 x1 x2 x3 s h
  unfold f_X8_berm at h
  refine r_iload_n (pc := 0) dX8_berm_0 rfl rfl ?_
  refine r_callS (pc := 1) (fun v => some (sj_i v)) (As := [sj_i x3]) (rest := []) h dX8_berm_1 mw_X8_292 kw_879 (fun _ _ hc => c_X8_isK hc) rfl ⟨(Nat.le_of_ble_eq_true rfl), (Nat.le_of_ble_eq_true rfl)⟩ (Nat.le_of_ble_eq_true rfl) rfl (fun v2 s1 h => ?_)
  refine r_if_eq (pc := 4) (tgt := 41) h dX8_berm_4 (by decide) (fun h => ?_) (fun h => ?_)
  · refine r_iconst (pc := 41) dX8_berm_41 ?_
    exact r_iret (pc := 42) h rfl dX8_berm_42
  · refine r_aload_n (pc := 7) dX8_berm_7 rfl rfl ?_
    refine r_gR (pc := 8) h dX8_berm_8 fw_X8_12 rfl (fun r3 h => ?_)
    refine r_iload_n (pc := 11) dX8_berm_11 rfl rfl ?_
    obtain ⟨a4, ea4, g⟩ := e_nn_some h
    clear h
    subst ea4
    have h := g
    clear g
    refine r_callV (pc := 12) (fun v => some (sj_i v)) (As := [sj_i x1]) (rest := []) h dX8_berm_12 mw_X8_78 vw_X0_hasColumn (fun _ _ hc => c_X0_hasColumn hc) rfl ⟨(Nat.le_of_ble_eq_true rfl), (Nat.le_of_ble_eq_true rfl)⟩ (Nat.le_of_ble_eq_true rfl) rfl (fun v6 s5 h => ?_)
    refine r_if_eq (pc := 15) (tgt := 41) h dX8_berm_15 (by decide) (fun h => ?_) (fun h => ?_)
    · refine r_iconst (pc := 41) dX8_berm_41 ?_
      exact r_iret (pc := 42) h rfl dX8_berm_42
    · refine r_aload_n (pc := 18) dX8_berm_18 rfl rfl ?_
      refine r_gR (pc := 19) h dX8_berm_19 fw_X8_12 rfl (fun r7 h => ?_)
      refine r_iload_n (pc := 22) dX8_berm_22 rfl rfl ?_
      obtain ⟨a8, ea8, g⟩ := e_nn_some h
      clear h
      subst ea8
      have h := g
      clear g
      refine r_callV (pc := 23) (fun v => some (sj_i v)) (As := [sj_i x2]) (rest := []) h dX8_berm_23 mw_X8_78 vw_X0_hasColumn (fun _ _ hc => c_X0_hasColumn hc) rfl ⟨(Nat.le_of_ble_eq_true rfl), (Nat.le_of_ble_eq_true rfl)⟩ (Nat.le_of_ble_eq_true rfl) rfl (fun v10 s9 h => ?_)
      refine r_if_eq (pc := 26) (tgt := 41) h dX8_berm_26 (by decide) (fun h => ?_) (fun h => ?_)
      · refine r_iconst (pc := 41) dX8_berm_41 ?_
        exact r_iret (pc := 42) h rfl dX8_berm_42
      · refine r_iload_n (pc := 29) dX8_berm_29 rfl rfl ?_
        refine r_iload_n (pc := 30) dX8_berm_30 rfl rfl ?_
        refine r_icmp_gt (pc := 31) (tgt := 41) h dX8_berm_31 (by decide) (fun h => ?_) (fun h => ?_)
        · refine r_iconst (pc := 41) dX8_berm_41 ?_
          exact r_iret (pc := 42) h rfl dX8_berm_42
        · refine r_aload_n (pc := 34) dX8_berm_34 rfl rfl ?_
          refine r_callV (pc := 35) (fun v => some (sj_i v)) (As := []) (rest := []) h dX8_berm_35 mw_X8_267 vw_X8_cutUp (fun _ _ hc => c_X8_cutUp hc) rfl ⟨(Nat.le_of_ble_eq_true rfl), (Nat.le_of_ble_eq_true rfl)⟩ (Nat.le_of_ble_eq_true rfl) rfl (fun v12 s11 h => ?_)
          refine r_if_ne (pc := 38) (tgt := 43) h dX8_berm_38 (by decide) (fun h => ?_) (fun h => ?_)
          · refine r_iconst (pc := 41) dX8_berm_41 ?_
            exact r_iret (pc := 42) h rfl dX8_berm_42
          · refine r_iconst (pc := 43) dX8_berm_43 ?_
            refine r_istore (ln := [some (sj_r (some a0)), some (sj_i x1), some (sj_i x2), some (sj_i x3), some (sj_i 0)]) (pc := 44) dX8_berm_44 (Nat.le_of_ble_eq_true rfl) rfl ?_
            exact sj_weak (l2 := [some (sj_r (some a0)), some (sj_i x1), some (sj_i x2), some (sj_i x3), some (sj_i 0)]) (⟨rfl, ⟨rfl, ⟨rfl, ⟨rfl, ⟨rfl, trivial⟩⟩⟩⟩⟩) (t_X8_berm_46 N a0 x1 x2 x3 0 s11 h)
set_option maxHeartbeats 4000000 in
theorem c_X8_berm {X : sj_X} {N : Nat} {a0 : Nat} {x1 : Int} {x2 : Int} {x3 : Int} {s : sj_Mem} {q : Int × sj_Mem} (h : f_X8_berm N a0 x1 x2 x3 s = some q) : sj_C X m_X8_berm [sj_r (some a0), sj_i x1, sj_i x2, sj_i x3] s (some (sj_i q.1), q.2) :=
  sj_C_of (by decide +kernel) (Nat.le_of_ble_eq_true rfl) (lo := [some (sj_r (some a0)), some (sj_i x1), some (sj_i x2), some (sj_i x3), none]) rfl (sj_weak (l2 := [some (sj_r (some a0)), some (sj_i x1), some (sj_i x2), some (sj_i x3), none]) (⟨rfl, ⟨rfl, ⟨rfl, ⟨rfl, trivial⟩⟩⟩⟩) (t_X8_berm_0 a0 x1 x2 x3 s h))
theorem dX8_shape_0 : decode cX8_shape 0 = .ok (.aload_n 0, 1) := by decide +kernel
theorem dX8_shape_1 : decode cX8_shape 1 = .ok (.invokevirtual 267, 3) := by decide +kernel
theorem dX8_shape_4 : decode cX8_shape 4 = .ok (.ifCond .ne 5, 3) := by decide +kernel
theorem dX8_shape_7 : decode cX8_shape 7 = .ok (.iconst (-1), 1) := by decide +kernel
theorem dX8_shape_8 : decode cX8_shape 8 = .ok (.ireturn, 1) := by decide +kernel
theorem dX8_shape_9 : decode cX8_shape 9 = .ok (.iload_n 1, 1) := by decide +kernel
theorem dX8_shape_10 : decode cX8_shape 10 = .ok (.tableswitch 96 0 5 #[38, 46, 61, 69, 80, 88], 38) := by decide +kernel
theorem dX8_shape_48 : decode cX8_shape 48 = .ok (.aload_n 0, 1) := by decide +kernel
theorem dX8_shape_49 : decode cX8_shape 49 = .ok (.getfield 12, 3) := by decide +kernel
theorem dX8_shape_52 : decode cX8_shape 52 = .ok (.invokevirtual 341, 3) := by decide +kernel
theorem dX8_shape_55 : decode cX8_shape 55 = .ok (.ireturn, 1) := by decide +kernel
theorem dX8_shape_56 : decode cX8_shape 56 = .ok (.aload_n 0, 1) := by decide +kernel
theorem dX8_shape_57 : decode cX8_shape 57 = .ok (.getfield 12, 3) := by decide +kernel
theorem dX8_shape_60 : decode cX8_shape 60 = .ok (.aload_n 0, 1) := by decide +kernel
theorem dX8_shape_61 : decode cX8_shape 61 = .ok (.getfield 12, 3) := by decide +kernel
theorem dX8_shape_64 : decode cX8_shape 64 = .ok (.invokevirtual 344, 3) := by decide +kernel
theorem dX8_shape_67 : decode cX8_shape 67 = .ok (.invokevirtual 347, 3) := by decide +kernel
theorem dX8_shape_70 : decode cX8_shape 70 = .ok (.ireturn, 1) := by decide +kernel
theorem dX8_shape_71 : decode cX8_shape 71 = .ok (.aload_n 0, 1) := by decide +kernel
theorem dX8_shape_72 : decode cX8_shape 72 = .ok (.getfield 12, 3) := by decide +kernel
theorem dX8_shape_75 : decode cX8_shape 75 = .ok (.invokevirtual 344, 3) := by decide +kernel
theorem dX8_shape_78 : decode cX8_shape 78 = .ok (.ireturn, 1) := by decide +kernel
theorem dX8_shape_79 : decode cX8_shape 79 = .ok (.aload_n 0, 1) := by decide +kernel
theorem dX8_shape_80 : decode cX8_shape 80 = .ok (.getfield 12, 3) := by decide +kernel
theorem dX8_shape_83 : decode cX8_shape 83 = .ok (.getfield 106, 3) := by decide +kernel
theorem dX8_shape_86 : decode cX8_shape 86 = .ok (.invokevirtual 350, 3) := by decide +kernel
theorem dX8_shape_89 : decode cX8_shape 89 = .ok (.ireturn, 1) := by decide +kernel
theorem dX8_shape_90 : decode cX8_shape 90 = .ok (.aload_n 0, 1) := by decide +kernel
theorem dX8_shape_91 : decode cX8_shape 91 = .ok (.getfield 53, 3) := by decide +kernel
theorem dX8_shape_94 : decode cX8_shape 94 = .ok (.invokevirtual 353, 3) := by decide +kernel
theorem dX8_shape_97 : decode cX8_shape 97 = .ok (.ireturn, 1) := by decide +kernel
theorem dX8_shape_98 : decode cX8_shape 98 = .ok (.aload_n 0, 1) := by decide +kernel
theorem dX8_shape_99 : decode cX8_shape 99 = .ok (.getfield 53, 3) := by decide +kernel
theorem dX8_shape_102 : decode cX8_shape 102 = .ok (.invokevirtual 356, 3) := by decide +kernel
theorem dX8_shape_105 : decode cX8_shape 105 = .ok (.ireturn, 1) := by decide +kernel
theorem dX8_shape_106 : decode cX8_shape 106 = .ok (.iconst (-1), 1) := by decide +kernel
theorem dX8_shape_107 : decode cX8_shape 107 = .ok (.ireturn, 1) := by decide +kernel
set_option maxHeartbeats 4000000 in
theorem t_X8_shape_0 {X : sj_X} {s0 : sj_Mem} {N : Nat} {q : Int × sj_Mem} :
    ∀ (a0 : Nat) (x1 : Int) (s : sj_Mem), f_X8_shape N a0 x1 s = some q → sj_T X m_X8_shape s0 (some (sj_i q.1), q.2) 0 [some (sj_r (some a0)), some (sj_i x1)] [] s := by
  intro a0 x1 s h
  unfold f_X8_shape at h
  refine r_aload_n (pc := 0) dX8_shape_0 rfl rfl ?_
  refine r_callV (pc := 1) (fun v => some (sj_i v)) (As := []) (rest := []) h dX8_shape_1 mw_X8_267 vw_X8_cutUp (fun _ _ hc => c_X8_cutUp hc) rfl ⟨(Nat.le_of_ble_eq_true rfl), (Nat.le_of_ble_eq_true rfl)⟩ (Nat.le_of_ble_eq_true rfl) rfl (fun v2 s1 h => ?_)
  refine r_if_ne (pc := 4) (tgt := 9) h dX8_shape_4 (by decide) (fun h => ?_) (fun h => ?_)
  · refine r_iconst (pc := 7) dX8_shape_7 ?_
    exact r_iret (pc := 8) h rfl dX8_shape_8
  · refine r_iload_n (pc := 9) dX8_shape_9 rfl rfl ?_
    obtain ⟨hr, h⟩ := e_sw_some h
    refine sj_if h (fun c0 h => ?_) (fun c0 h => ?_)
    · refine r_tcase (pc := 10) (tgt := 48) (j := 0) hr c0 dX8_shape_10 (by decide) (by decide) rfl (by decide) ?_
      refine r_aload_n (pc := 48) dX8_shape_48 rfl rfl ?_
      refine r_gR (pc := 49) h dX8_shape_49 fw_X8_12 rfl (fun r3 h => ?_)
      obtain ⟨a4, ea4, g⟩ := e_nn_some h
      clear h
      subst ea4
      have h := g
      clear g
      refine r_callV (pc := 52) (fun v => some (sj_i v)) (As := []) (rest := []) h dX8_shape_52 mw_X8_341 vw_X0_slipArea (fun _ _ hc => c_X0_slipArea hc) rfl ⟨(Nat.le_of_ble_eq_true rfl), (Nat.le_of_ble_eq_true rfl)⟩ (Nat.le_of_ble_eq_true rfl) rfl (fun v6 s5 h => ?_)
      exact r_iret (pc := 55) h rfl dX8_shape_55
    refine sj_if h (fun c1 h => ?_) (fun c1 h => ?_)
    · refine r_tcase (pc := 10) (tgt := 56) (j := 1) hr c1 dX8_shape_10 (by decide) (by decide) rfl (by decide) ?_
      refine r_aload_n (pc := 56) dX8_shape_56 rfl rfl ?_
      refine r_gR (pc := 57) h dX8_shape_57 fw_X8_12 rfl (fun r7 h => ?_)
      refine r_aload_n (pc := 60) dX8_shape_60 rfl rfl ?_
      refine r_gR (pc := 61) h dX8_shape_61 fw_X8_12 rfl (fun r8 h => ?_)
      obtain ⟨a9, ea9, g⟩ := e_nn_some h
      clear h
      subst ea9
      have h := g
      clear g
      refine r_callV (pc := 64) (fun v => some (sj_i v)) (As := []) (rest := [(sj_r r7)]) h dX8_shape_64 mw_X8_344 vw_X0_thickest (fun _ _ hc => c_X0_thickest hc) rfl ⟨(Nat.le_of_ble_eq_true rfl), (Nat.le_of_ble_eq_true rfl)⟩ (Nat.le_of_ble_eq_true rfl) rfl (fun v11 s10 h => ?_)
      obtain ⟨a12, ea12, g⟩ := e_nn_some h
      clear h
      subst ea12
      have h := g
      clear g
      refine r_callV (pc := 67) (fun v => some (sj_i v)) (As := [sj_i v11]) (rest := []) h dX8_shape_67 mw_X8_347 vw_X0_thickAt (fun _ _ hc => c_X0_thickAt hc) rfl ⟨(Nat.le_of_ble_eq_true rfl), (Nat.le_of_ble_eq_true rfl)⟩ (Nat.le_of_ble_eq_true rfl) rfl (fun v14 s13 h => ?_)
      exact r_iret (pc := 70) h rfl dX8_shape_70
    refine sj_if h (fun c2 h => ?_) (fun c2 h => ?_)
    · refine r_tcase (pc := 10) (tgt := 71) (j := 2) hr c2 dX8_shape_10 (by decide) (by decide) rfl (by decide) ?_
      refine r_aload_n (pc := 71) dX8_shape_71 rfl rfl ?_
      refine r_gR (pc := 72) h dX8_shape_72 fw_X8_12 rfl (fun r15 h => ?_)
      obtain ⟨a16, ea16, g⟩ := e_nn_some h
      clear h
      subst ea16
      have h := g
      clear g
      refine r_callV (pc := 75) (fun v => some (sj_i v)) (As := []) (rest := []) h dX8_shape_75 mw_X8_344 vw_X0_thickest (fun _ _ hc => c_X0_thickest hc) rfl ⟨(Nat.le_of_ble_eq_true rfl), (Nat.le_of_ble_eq_true rfl)⟩ (Nat.le_of_ble_eq_true rfl) rfl (fun v18 s17 h => ?_)
      exact r_iret (pc := 78) h rfl dX8_shape_78
    refine sj_if h (fun c3 h => ?_) (fun c3 h => ?_)
    · refine r_tcase (pc := 10) (tgt := 79) (j := 3) hr c3 dX8_shape_10 (by decide) (by decide) rfl (by decide) ?_
      refine r_aload_n (pc := 79) dX8_shape_79 rfl rfl ?_
      refine r_gR (pc := 80) h dX8_shape_80 fw_X8_12 rfl (fun r19 h => ?_)
      obtain ⟨a20, ea20, g⟩ := e_nn_some h
      clear h
      subst ea20
      have h := g
      clear g
      refine r_gR (pc := 83) h dX8_shape_83 fw_X8_106 rfl (fun r21 h => ?_)
      obtain ⟨a22, ea22, g⟩ := e_nn_some h
      clear h
      subst ea22
      have h := g
      clear g
      refine r_callV (pc := 86) (fun v => some (sj_i v)) (As := []) (rest := []) h dX8_shape_86 mw_X8_350 vw_X5_leastBase (fun _ _ hc => c_X5_leastBase hc) rfl ⟨(Nat.le_of_ble_eq_true rfl), (Nat.le_of_ble_eq_true rfl)⟩ (Nat.le_of_ble_eq_true rfl) rfl (fun v24 s23 h => ?_)
      exact r_iret (pc := 89) h rfl dX8_shape_89
    refine sj_if h (fun c4 h => ?_) (fun c4 h => ?_)
    · refine r_tcase (pc := 10) (tgt := 90) (j := 4) hr c4 dX8_shape_10 (by decide) (by decide) rfl (by decide) ?_
      refine r_aload_n (pc := 90) dX8_shape_90 rfl rfl ?_
      refine r_gR (pc := 91) h dX8_shape_91 fw_X8_53 rfl (fun r25 h => ?_)
      obtain ⟨a26, ea26, g⟩ := e_nn_some h
      clear h
      subst ea26
      have h := g
      clear g
      refine r_callV (pc := 94) (fun v => some (sj_i v)) (As := []) (rest := []) h dX8_shape_94 mw_X8_353 vw_X4_countFalling (fun _ _ hc => c_X4_countFalling hc) rfl ⟨(Nat.le_of_ble_eq_true rfl), (Nat.le_of_ble_eq_true rfl)⟩ (Nat.le_of_ble_eq_true rfl) rfl (fun v28 s27 h => ?_)
      exact r_iret (pc := 97) h rfl dX8_shape_97
    refine sj_if h (fun c5 h => ?_) (fun c5 h => ?_)
    · refine r_tcase (pc := 10) (tgt := 98) (j := 5) hr c5 dX8_shape_10 (by decide) (by decide) rfl (by decide) ?_
      refine r_aload_n (pc := 98) dX8_shape_98 rfl rfl ?_
      refine r_gR (pc := 99) h dX8_shape_99 fw_X8_53 rfl (fun r29 h => ?_)
      obtain ⟨a30, ea30, g⟩ := e_nn_some h
      clear h
      subst ea30
      have h := g
      clear g
      refine r_callV (pc := 102) (fun v => some (sj_i v)) (As := []) (rest := []) h dX8_shape_102 mw_X8_356 vw_X4_countAfloat (fun _ _ hc => c_X4_countAfloat hc) rfl ⟨(Nat.le_of_ble_eq_true rfl), (Nat.le_of_ble_eq_true rfl)⟩ (Nat.le_of_ble_eq_true rfl) rfl (fun v32 s31 h => ?_)
      exact r_iret (pc := 105) h rfl dX8_shape_105
    refine r_tdflt (pc := 10) (tgt := 106) hr dX8_shape_10 (by omega) (by decide) ?_
    refine r_iconst (pc := 106) dX8_shape_106 ?_
    exact r_iret (pc := 107) h rfl dX8_shape_107
set_option maxHeartbeats 4000000 in
theorem c_X8_shape {X : sj_X} {N : Nat} {a0 : Nat} {x1 : Int} {s : sj_Mem} {q : Int × sj_Mem} (h : f_X8_shape N a0 x1 s = some q) : sj_C X m_X8_shape [sj_r (some a0), sj_i x1] s (some (sj_i q.1), q.2) :=
  sj_C_of (by decide +kernel) (Nat.le_of_ble_eq_true rfl) (lo := [some (sj_r (some a0)), some (sj_i x1)]) rfl (sj_weak (l2 := [some (sj_r (some a0)), some (sj_i x1)]) (⟨rfl, ⟨rfl, trivial⟩⟩) (t_X8_shape_0 a0 x1 s h))
theorem dX8_thrust_0 : decode cX8_thrust 0 = .ok (.iload_n 1, 1) := by decide +kernel
theorem dX8_thrust_1 : decode cX8_thrust 1 = .ok (.ifCond .lt 31, 3) := by decide +kernel
theorem dX8_thrust_4 : decode cX8_thrust 4 = .ok (.iload_n 1, 1) := by decide +kernel
theorem dX8_thrust_5 : decode cX8_thrust 5 = .ok (.aload_n 0, 1) := by decide +kernel
theorem dX8_thrust_6 : decode cX8_thrust 6 = .ok (.getfield 12, 3) := by decide +kernel
theorem dX8_thrust_9 : decode cX8_thrust 9 = .ok (.getfield 106, 3) := by decide +kernel
theorem dX8_thrust_12 : decode cX8_thrust 12 = .ok (.invokevirtual 199, 3) := by decide +kernel
theorem dX8_thrust_15 : decode cX8_thrust 15 = .ok (.if_icmp .ge 17, 3) := by decide +kernel
theorem dX8_thrust_18 : decode cX8_thrust 18 = .ok (.iload_n 2, 1) := by decide +kernel
theorem dX8_thrust_19 : decode cX8_thrust 19 = .ok (.invokestatic 292, 3) := by decide +kernel
theorem dX8_thrust_22 : decode cX8_thrust 22 = .ok (.ifCond .eq 10, 3) := by decide +kernel
theorem dX8_thrust_25 : decode cX8_thrust 25 = .ok (.aload_n 0, 1) := by decide +kernel
theorem dX8_thrust_26 : decode cX8_thrust 26 = .ok (.invokevirtual 267, 3) := by decide +kernel
theorem dX8_thrust_29 : decode cX8_thrust 29 = .ok (.ifCond .ne 7, 3) := by decide +kernel
theorem dX8_thrust_32 : decode cX8_thrust 32 = .ok (.ldc2_w 359, 3) := by decide +kernel
theorem dX8_thrust_35 : decode cX8_thrust 35 = .ok (.lreturn, 1) := by decide +kernel
theorem dX8_thrust_36 : decode cX8_thrust 36 = .ok (.lconst 0, 1) := by decide +kernel
theorem dX8_thrust_37 : decode cX8_thrust 37 = .ok (.lstore_n 3, 1) := by decide +kernel
theorem dX8_thrust_38 : decode cX8_thrust 38 = .ok (.iconst 0, 1) := by decide +kernel
theorem dX8_thrust_39 : decode cX8_thrust 39 = .ok (.istore 5, 2) := by decide +kernel
theorem dX8_thrust_41 : decode cX8_thrust 41 = .ok (.iload 5, 2) := by decide +kernel
theorem dX8_thrust_43 : decode cX8_thrust 43 = .ok (.iload_n 1, 1) := by decide +kernel
theorem dX8_thrust_44 : decode cX8_thrust 44 = .ok (.if_icmp .gt 39, 3) := by decide +kernel
theorem dX8_thrust_47 : decode cX8_thrust 47 = .ok (.aload_n 0, 1) := by decide +kernel
theorem dX8_thrust_48 : decode cX8_thrust 48 = .ok (.getfield 53, 3) := by decide +kernel
theorem dX8_thrust_51 : decode cX8_thrust 51 = .ok (.iload 5, 2) := by decide +kernel
theorem dX8_thrust_53 : decode cX8_thrust 53 = .ok (.iload_n 2, 1) := by decide +kernel
theorem dX8_thrust_54 : decode cX8_thrust 54 = .ok (.invokevirtual 361, 3) := by decide +kernel
theorem dX8_thrust_57 : decode cX8_thrust 57 = .ok (.ifCond .eq 7, 3) := by decide +kernel
theorem dX8_thrust_60 : decode cX8_thrust 60 = .ok (.ldc2_w 359, 3) := by decide +kernel
theorem dX8_thrust_63 : decode cX8_thrust 63 = .ok (.lreturn, 1) := by decide +kernel
theorem dX8_thrust_64 : decode cX8_thrust 64 = .ok (.lload_n 3, 1) := by decide +kernel
theorem dX8_thrust_65 : decode cX8_thrust 65 = .ok (.aload_n 0, 1) := by decide +kernel
theorem dX8_thrust_66 : decode cX8_thrust 66 = .ok (.getfield 53, 3) := by decide +kernel
theorem dX8_thrust_69 : decode cX8_thrust 69 = .ok (.iload 5, 2) := by decide +kernel
theorem dX8_thrust_71 : decode cX8_thrust 71 = .ok (.iload_n 2, 1) := by decide +kernel
theorem dX8_thrust_72 : decode cX8_thrust 72 = .ok (.invokevirtual 364, 3) := by decide +kernel
theorem dX8_thrust_75 : decode cX8_thrust 75 = .ok (.ladd, 1) := by decide +kernel
theorem dX8_thrust_76 : decode cX8_thrust 76 = .ok (.lstore_n 3, 1) := by decide +kernel
theorem dX8_thrust_77 : decode cX8_thrust 77 = .ok (.iinc 5 1, 3) := by decide +kernel
theorem dX8_thrust_80 : decode cX8_thrust 80 = .ok (.goto (-39), 3) := by decide +kernel
theorem dX8_thrust_83 : decode cX8_thrust 83 = .ok (.lload_n 3, 1) := by decide +kernel
theorem dX8_thrust_84 : decode cX8_thrust 84 = .ok (.lreturn, 1) := by decide +kernel
set_option maxHeartbeats 4000000 in
theorem t_X8_thrust_41_b {X : sj_X} {s0 : sj_Mem} {N : Nat} {q : Int × sj_Mem} {k41 : Nat → Int → Int → Int → Int → sj_Mem → Option (Int × sj_Mem)} (hk41 : ∀ (a0 : Nat) (x1 : Int) (x2 : Int) (x3 : Int) (x5 : Int) (s : sj_Mem), k41 a0 x1 x2 x3 x5 s = some q → sj_T X m_X8_thrust s0 (some (sj_j q.1), q.2) 41 [some (sj_r (some a0)), some (sj_i x1), some (sj_i x2), some (sj_j x3), none, some (sj_i x5)] [] s) :
    ∀ (a0 : Nat) (x1 : Int) (x2 : Int) (x3 : Int) (x5 : Int) (s : sj_Mem), f_X8_thrust_41_b N k41 a0 x1 x2 x3 x5 s = some q → sj_T X m_X8_thrust s0 (some (sj_j q.1), q.2) 41 [some (sj_r (some a0)), some (sj_i x1), some (sj_i x2), some (sj_j x3), none, some (sj_i x5)] [] s := by
  intro a0 x1 x2 x3 x5 s h
  unfold f_X8_thrust_41_b at h
  refine r_iload (pc := 41) dX8_thrust_41 rfl ?_
  refine r_iload_n (pc := 43) dX8_thrust_43 rfl rfl ?_
  refine r_icmp_gt (pc := 44) (tgt := 83) h dX8_thrust_44 (by decide) (fun h => ?_) (fun h => ?_)
  · refine r_lload_n (pc := 83) dX8_thrust_83 rfl rfl ?_
    exact r_lret (pc := 84) h rfl dX8_thrust_84
  · refine r_aload_n (pc := 47) dX8_thrust_47 rfl rfl ?_
    refine r_gR (pc := 48) h dX8_thrust_48 fw_X8_53 rfl (fun r1 h => ?_)
    refine r_iload (pc := 51) dX8_thrust_51 rfl ?_
    refine r_iload_n (pc := 53) dX8_thrust_53 rfl rfl ?_
    obtain ⟨a2, ea2, g⟩ := e_nn_some h
    clear h
    subst ea2
    have h := g
    clear g
    refine r_callV (pc := 54) (fun v => some (sj_i v)) (As := [sj_i x5, sj_i x2]) (rest := []) h dX8_thrust_54 mw_X8_361 vw_X4_isFast (fun _ _ hc => c_X4_isFast hc) rfl ⟨(Nat.le_of_ble_eq_true rfl), (Nat.le_of_ble_eq_true rfl)⟩ (Nat.le_of_ble_eq_true rfl) rfl (fun v4 s3 h => ?_)
    refine r_if_eq (pc := 57) (tgt := 64) h dX8_thrust_57 (by decide) (fun h => ?_) (fun h => ?_)
    · refine r_lload_n (pc := 64) dX8_thrust_64 rfl rfl ?_
      refine r_aload_n (pc := 65) dX8_thrust_65 rfl rfl ?_
      refine r_gR (pc := 66) h dX8_thrust_66 fw_X8_53 rfl (fun r5 h => ?_)
      refine r_iload (pc := 69) dX8_thrust_69 rfl ?_
      refine r_iload_n (pc := 71) dX8_thrust_71 rfl rfl ?_
      obtain ⟨a6, ea6, g⟩ := e_nn_some h
      clear h
      subst ea6
      have h := g
      clear g
      refine r_callV (pc := 72) (fun v => some (sj_j v)) (As := [sj_i x5, sj_i x2]) (rest := [(sj_j x3)]) h dX8_thrust_72 mw_X8_364 vw_X4_thrustOf (fun _ _ hc => c_X4_thrustOf hc) rfl ⟨(Nat.le_of_ble_eq_true rfl), (Nat.le_of_ble_eq_true rfl)⟩ (Nat.le_of_ble_eq_true rfl) rfl (fun v8 s7 h => ?_)
      refine r_ladd (pc := 75) dX8_thrust_75 ?_
      refine r_lstore_nL (ln := fun w => [some (sj_r (some a0)), some (sj_i x1), some (sj_i x2), some (sj_j w), none, some (sj_i x5)]) (pc := 76) h dX8_thrust_76 rfl (Nat.le_of_ble_eq_true rfl) (fun _ => rfl) (fun v9 h => ?_)
      refine r_iinc (ln := fun w => [some (sj_r (some a0)), some (sj_i x1), some (sj_i x2), some (sj_j v9), none, some (sj_i w)]) (pc := 77) h dX8_thrust_77 rfl (Nat.le_of_ble_eq_true rfl) (fun _ => rfl) (fun v10 h => ?_)
      refine r_goto (pc := 80) (tgt := 41) dX8_thrust_80 (by decide) ?_
      exact sj_weak (l2 := [some (sj_r (some a0)), some (sj_i x1), some (sj_i x2), some (sj_j v9), none, some (sj_i v10)]) (⟨rfl, ⟨rfl, ⟨rfl, ⟨rfl, ⟨rfl, trivial⟩⟩⟩⟩⟩) (hk41 a0 x1 x2 v9 v10 s7 h)
    · refine r_ldc2 (n := -10000000000000000) (pc := 60) dX8_thrust_60 kc_X8_359 ?_
      exact r_lret (pc := 63) h rfl dX8_thrust_63
set_option maxHeartbeats 4000000 in
theorem t_X8_thrust_41 {X : sj_X} {s0 : sj_Mem} {N : Nat} {q : Int × sj_Mem} :
    ∀ (n : Nat) (a0 : Nat) (x1 : Int) (x2 : Int) (x3 : Int) (x5 : Int) (s : sj_Mem), f_X8_thrust_41 N n a0 x1 x2 x3 x5 s = some q → sj_T X m_X8_thrust s0 (some (sj_j q.1), q.2) 41 [some (sj_r (some a0)), some (sj_i x1), some (sj_i x2), some (sj_j x3), none, some (sj_i x5)] [] s := by
  intro n
  induction n with
  | zero => intro a0 x1 x2 x3 x5 s h; exact nomatch h
  | succ n ih => intro a0 x1 x2 x3 x5 s h; exact t_X8_thrust_41_b (N := N) ih a0 x1 x2 x3 x5 s h
set_option maxHeartbeats 4000000 in
theorem t_X8_thrust_0 {X : sj_X} {s0 : sj_Mem} {N : Nat} {q : Int × sj_Mem} :
    ∀ (a0 : Nat) (x1 : Int) (x2 : Int) (s : sj_Mem), f_X8_thrust N a0 x1 x2 s = some q → sj_T X m_X8_thrust s0 (some (sj_j q.1), q.2) 0 [some (sj_r (some a0)), some (sj_i x1), some (sj_i x2), none, none, none] [] s := by
  intro a0 x1 x2 s h
  unfold f_X8_thrust at h
  refine r_iload_n (pc := 0) dX8_thrust_0 rfl rfl ?_
  refine r_if_lt (pc := 1) (tgt := 32) h dX8_thrust_1 (by decide) (fun h => ?_) (fun h => ?_)
  · refine r_ldc2 (n := -10000000000000000) (pc := 32) dX8_thrust_32 kc_X8_359 ?_
    exact r_lret (pc := 35) h rfl dX8_thrust_35
  · refine r_iload_n (pc := 4) dX8_thrust_4 rfl rfl ?_
    refine r_aload_n (pc := 5) dX8_thrust_5 rfl rfl ?_
    refine r_gR (pc := 6) h dX8_thrust_6 fw_X8_12 rfl (fun r1 h => ?_)
    obtain ⟨a2, ea2, g⟩ := e_nn_some h
    clear h
    subst ea2
    have h := g
    clear g
    refine r_gR (pc := 9) h dX8_thrust_9 fw_X8_106 rfl (fun r3 h => ?_)
    obtain ⟨a4, ea4, g⟩ := e_nn_some h
    clear h
    subst ea4
    have h := g
    clear g
    refine r_callV (pc := 12) (fun v => some (sj_i v)) (As := []) (rest := [(sj_i x1)]) h dX8_thrust_12 mw_X8_199 vw_X5_count (fun _ _ hc => c_X5_count hc) rfl ⟨(Nat.le_of_ble_eq_true rfl), (Nat.le_of_ble_eq_true rfl)⟩ (Nat.le_of_ble_eq_true rfl) rfl (fun v6 s5 h => ?_)
    refine r_icmp_ge (pc := 15) (tgt := 32) h dX8_thrust_15 (by decide) (fun h => ?_) (fun h => ?_)
    · refine r_ldc2 (n := -10000000000000000) (pc := 32) dX8_thrust_32 kc_X8_359 ?_
      exact r_lret (pc := 35) h rfl dX8_thrust_35
    · refine r_iload_n (pc := 18) dX8_thrust_18 rfl rfl ?_
      refine r_callS (pc := 19) (fun v => some (sj_i v)) (As := [sj_i x2]) (rest := []) h dX8_thrust_19 mw_X8_292 kw_879 (fun _ _ hc => c_X8_isK hc) rfl ⟨(Nat.le_of_ble_eq_true rfl), (Nat.le_of_ble_eq_true rfl)⟩ (Nat.le_of_ble_eq_true rfl) rfl (fun v8 s7 h => ?_)
      refine r_if_eq (pc := 22) (tgt := 32) h dX8_thrust_22 (by decide) (fun h => ?_) (fun h => ?_)
      · refine r_ldc2 (n := -10000000000000000) (pc := 32) dX8_thrust_32 kc_X8_359 ?_
        exact r_lret (pc := 35) h rfl dX8_thrust_35
      · refine r_aload_n (pc := 25) dX8_thrust_25 rfl rfl ?_
        refine r_callV (pc := 26) (fun v => some (sj_i v)) (As := []) (rest := []) h dX8_thrust_26 mw_X8_267 vw_X8_cutUp (fun _ _ hc => c_X8_cutUp hc) rfl ⟨(Nat.le_of_ble_eq_true rfl), (Nat.le_of_ble_eq_true rfl)⟩ (Nat.le_of_ble_eq_true rfl) rfl (fun v10 s9 h => ?_)
        refine r_if_ne (pc := 29) (tgt := 36) h dX8_thrust_29 (by decide) (fun h => ?_) (fun h => ?_)
        · refine r_ldc2 (n := -10000000000000000) (pc := 32) dX8_thrust_32 kc_X8_359 ?_
          exact r_lret (pc := 35) h rfl dX8_thrust_35
        · refine r_lconst0 (pc := 36) dX8_thrust_36 ?_
          refine r_lstore_n (ln := [some (sj_r (some a0)), some (sj_i x1), some (sj_i x2), some (sj_j 0), none, none]) (pc := 37) dX8_thrust_37 rfl (Nat.le_of_ble_eq_true rfl) rfl ?_
          refine r_iconst (pc := 38) dX8_thrust_38 ?_
          refine r_istore (ln := [some (sj_r (some a0)), some (sj_i x1), some (sj_i x2), some (sj_j 0), none, some (sj_i 0)]) (pc := 39) dX8_thrust_39 (Nat.le_of_ble_eq_true rfl) rfl ?_
          exact sj_weak (l2 := [some (sj_r (some a0)), some (sj_i x1), some (sj_i x2), some (sj_j 0), none, some (sj_i 0)]) (⟨rfl, ⟨rfl, ⟨rfl, ⟨rfl, ⟨rfl, trivial⟩⟩⟩⟩⟩) (t_X8_thrust_41 N a0 x1 x2 0 0 s9 h)
set_option maxHeartbeats 4000000 in
theorem c_X8_thrust {X : sj_X} {N : Nat} {a0 : Nat} {x1 : Int} {x2 : Int} {s : sj_Mem} {q : Int × sj_Mem} (h : f_X8_thrust N a0 x1 x2 s = some q) : sj_C X m_X8_thrust [sj_r (some a0), sj_i x1, sj_i x2] s (some (sj_j q.1), q.2) :=
  sj_C_of (by decide +kernel) (Nat.le_of_ble_eq_true rfl) (lo := [some (sj_r (some a0)), some (sj_i x1), some (sj_i x2), none, none, none]) rfl (sj_weak (l2 := [some (sj_r (some a0)), some (sj_i x1), some (sj_i x2), none, none, none]) (⟨rfl, ⟨rfl, ⟨rfl, trivial⟩⟩⟩) (t_X8_thrust_0 a0 x1 x2 s h))
theorem dX8_crest_0 : decode cX8_crest 0 = .ok (.iload_n 1, 1) := by decide +kernel
theorem dX8_crest_1 : decode cX8_crest 1 = .ok (.invokestatic 292, 3) := by decide +kernel
theorem dX8_crest_4 : decode cX8_crest 4 = .ok (.ifCond .eq 10, 3) := by decide +kernel
theorem dX8_crest_7 : decode cX8_crest 7 = .ok (.aload_n 0, 1) := by decide +kernel
theorem dX8_crest_8 : decode cX8_crest 8 = .ok (.invokevirtual 267, 3) := by decide +kernel
theorem dX8_crest_11 : decode cX8_crest 11 = .ok (.ifCond .ne 5, 3) := by decide +kernel
theorem dX8_crest_14 : decode cX8_crest 14 = .ok (.iconst (-1), 1) := by decide +kernel
theorem dX8_crest_15 : decode cX8_crest 15 = .ok (.ireturn, 1) := by decide +kernel
theorem dX8_crest_16 : decode cX8_crest 16 = .ok (.lconst 0, 1) := by decide +kernel
theorem dX8_crest_17 : decode cX8_crest 17 = .ok (.lstore_n 2, 1) := by decide +kernel
theorem dX8_crest_18 : decode cX8_crest 18 = .ok (.lconst 0, 1) := by decide +kernel
theorem dX8_crest_19 : decode cX8_crest 19 = .ok (.lstore 4, 2) := by decide +kernel
theorem dX8_crest_21 : decode cX8_crest 21 = .ok (.iconst (-1), 1) := by decide +kernel
theorem dX8_crest_22 : decode cX8_crest 22 = .ok (.istore 6, 2) := by decide +kernel
theorem dX8_crest_24 : decode cX8_crest 24 = .ok (.iconst 0, 1) := by decide +kernel
theorem dX8_crest_25 : decode cX8_crest 25 = .ok (.istore 7, 2) := by decide +kernel
theorem dX8_crest_27 : decode cX8_crest 27 = .ok (.iload 7, 2) := by decide +kernel
theorem dX8_crest_29 : decode cX8_crest 29 = .ok (.aload_n 0, 1) := by decide +kernel
theorem dX8_crest_30 : decode cX8_crest 30 = .ok (.getfield 53, 3) := by decide +kernel
theorem dX8_crest_33 : decode cX8_crest 33 = .ok (.getfield 367, 3) := by decide +kernel
theorem dX8_crest_36 : decode cX8_crest 36 = .ok (.if_icmp .ge 57, 3) := by decide +kernel
theorem dX8_crest_39 : decode cX8_crest 39 = .ok (.aload_n 0, 1) := by decide +kernel
theorem dX8_crest_40 : decode cX8_crest 40 = .ok (.getfield 53, 3) := by decide +kernel
theorem dX8_crest_43 : decode cX8_crest 43 = .ok (.iload 7, 2) := by decide +kernel
theorem dX8_crest_45 : decode cX8_crest 45 = .ok (.iload_n 1, 1) := by decide +kernel
theorem dX8_crest_46 : decode cX8_crest 46 = .ok (.invokevirtual 361, 3) := by decide +kernel
theorem dX8_crest_49 : decode cX8_crest 49 = .ok (.ifCond .eq 5, 3) := by decide +kernel
theorem dX8_crest_52 : decode cX8_crest 52 = .ok (.iconst (-1), 1) := by decide +kernel
theorem dX8_crest_53 : decode cX8_crest 53 = .ok (.ireturn, 1) := by decide +kernel
theorem dX8_crest_54 : decode cX8_crest 54 = .ok (.lload_n 2, 1) := by decide +kernel
theorem dX8_crest_55 : decode cX8_crest 55 = .ok (.aload_n 0, 1) := by decide +kernel
theorem dX8_crest_56 : decode cX8_crest 56 = .ok (.getfield 53, 3) := by decide +kernel
theorem dX8_crest_59 : decode cX8_crest 59 = .ok (.iload 7, 2) := by decide +kernel
theorem dX8_crest_61 : decode cX8_crest 61 = .ok (.iload_n 1, 1) := by decide +kernel
theorem dX8_crest_62 : decode cX8_crest 62 = .ok (.invokevirtual 364, 3) := by decide +kernel
theorem dX8_crest_65 : decode cX8_crest 65 = .ok (.ladd, 1) := by decide +kernel
theorem dX8_crest_66 : decode cX8_crest 66 = .ok (.lstore_n 2, 1) := by decide +kernel
theorem dX8_crest_67 : decode cX8_crest 67 = .ok (.iload 6, 2) := by decide +kernel
theorem dX8_crest_69 : decode cX8_crest 69 = .ok (.iconst (-1), 1) := by decide +kernel
theorem dX8_crest_70 : decode cX8_crest 70 = .ok (.if_icmp .eq 10, 3) := by decide +kernel
theorem dX8_crest_73 : decode cX8_crest 73 = .ok (.lload_n 2, 1) := by decide +kernel
theorem dX8_crest_74 : decode cX8_crest 74 = .ok (.lload 4, 2) := by decide +kernel
theorem dX8_crest_76 : decode cX8_crest 76 = .ok (.lcmp, 1) := by decide +kernel
theorem dX8_crest_77 : decode cX8_crest 77 = .ok (.ifCond .le 10, 3) := by decide +kernel
theorem dX8_crest_80 : decode cX8_crest 80 = .ok (.lload_n 2, 1) := by decide +kernel
theorem dX8_crest_81 : decode cX8_crest 81 = .ok (.lstore 4, 2) := by decide +kernel
theorem dX8_crest_83 : decode cX8_crest 83 = .ok (.iload 7, 2) := by decide +kernel
theorem dX8_crest_85 : decode cX8_crest 85 = .ok (.istore 6, 2) := by decide +kernel
theorem dX8_crest_87 : decode cX8_crest 87 = .ok (.iinc 7 1, 3) := by decide +kernel
theorem dX8_crest_90 : decode cX8_crest 90 = .ok (.goto (-63), 3) := by decide +kernel
theorem dX8_crest_93 : decode cX8_crest 93 = .ok (.iload 6, 2) := by decide +kernel
theorem dX8_crest_95 : decode cX8_crest 95 = .ok (.ireturn, 1) := by decide +kernel
set_option maxHeartbeats 4000000 in
theorem t_X8_crest_87 {X : sj_X} {s0 : sj_Mem} {N : Nat} {q : Int × sj_Mem} {k27 : Nat → Int → Int → Int → Int → Int → sj_Mem → Option (Int × sj_Mem)} (hk27 : ∀ (a0 : Nat) (x1 : Int) (x2 : Int) (x4 : Int) (x6 : Int) (x7 : Int) (s : sj_Mem), k27 a0 x1 x2 x4 x6 x7 s = some q → sj_T X m_X8_crest s0 (some (sj_i q.1), q.2) 27 [some (sj_r (some a0)), some (sj_i x1), some (sj_j x2), none, some (sj_j x4), none, some (sj_i x6), some (sj_i x7)] [] s) :
    ∀ (a0 : Nat) (x1 : Int) (x2 : Int) (x4 : Int) (x6 : Int) (x7 : Int) (s : sj_Mem), f_X8_crest_87 N k27 a0 x1 x2 x4 x6 x7 s = some q → sj_T X m_X8_crest s0 (some (sj_i q.1), q.2) 87 [some (sj_r (some a0)), some (sj_i x1), some (sj_j x2), none, some (sj_j x4), none, some (sj_i x6), some (sj_i x7)] [] s := by
  intro a0 x1 x2 x4 x6 x7 s h
  unfold f_X8_crest_87 at h
  refine r_iinc (ln := fun w => [some (sj_r (some a0)), some (sj_i x1), some (sj_j x2), none, some (sj_j x4), none, some (sj_i x6), some (sj_i w)]) (pc := 87) h dX8_crest_87 rfl (Nat.le_of_ble_eq_true rfl) (fun _ => rfl) (fun v1 h => ?_)
  refine r_goto (pc := 90) (tgt := 27) dX8_crest_90 (by decide) ?_
  exact sj_weak (l2 := [some (sj_r (some a0)), some (sj_i x1), some (sj_j x2), none, some (sj_j x4), none, some (sj_i x6), some (sj_i v1)]) (⟨rfl, ⟨rfl, ⟨rfl, ⟨rfl, ⟨rfl, ⟨rfl, trivial⟩⟩⟩⟩⟩⟩) (hk27 a0 x1 x2 x4 x6 v1 s h)
set_option maxHeartbeats 4000000 in
theorem t_X8_crest_80 {X : sj_X} {s0 : sj_Mem} {N : Nat} {q : Int × sj_Mem} {k27 : Nat → Int → Int → Int → Int → Int → sj_Mem → Option (Int × sj_Mem)} (hk27 : ∀ (a0 : Nat) (x1 : Int) (x2 : Int) (x4 : Int) (x6 : Int) (x7 : Int) (s : sj_Mem), k27 a0 x1 x2 x4 x6 x7 s = some q → sj_T X m_X8_crest s0 (some (sj_i q.1), q.2) 27 [some (sj_r (some a0)), some (sj_i x1), some (sj_j x2), none, some (sj_j x4), none, some (sj_i x6), some (sj_i x7)] [] s) :
    ∀ (a0 : Nat) (x1 : Int) (x2 : Int) (x7 : Int) (s : sj_Mem), f_X8_crest_80 N k27 a0 x1 x2 x7 s = some q → sj_T X m_X8_crest s0 (some (sj_i q.1), q.2) 80 [some (sj_r (some a0)), some (sj_i x1), some (sj_j x2), none, none, none, none, some (sj_i x7)] [] s := by
  intro a0 x1 x2 x7 s h
  unfold f_X8_crest_80 at h
  refine r_lload_n (pc := 80) dX8_crest_80 rfl rfl ?_
  refine r_lstore (ln := [some (sj_r (some a0)), some (sj_i x1), some (sj_j x2), none, some (sj_j x2), none, none, some (sj_i x7)]) (pc := 81) dX8_crest_81 (Nat.le_of_ble_eq_true rfl) rfl ?_
  refine r_iload (pc := 83) dX8_crest_83 rfl ?_
  refine r_istore (ln := [some (sj_r (some a0)), some (sj_i x1), some (sj_j x2), none, some (sj_j x2), none, some (sj_i x7), some (sj_i x7)]) (pc := 85) dX8_crest_85 (Nat.le_of_ble_eq_true rfl) rfl ?_
  exact sj_weak (l2 := [some (sj_r (some a0)), some (sj_i x1), some (sj_j x2), none, some (sj_j x2), none, some (sj_i x7), some (sj_i x7)]) (⟨rfl, ⟨rfl, ⟨rfl, ⟨rfl, ⟨rfl, ⟨rfl, trivial⟩⟩⟩⟩⟩⟩) (t_X8_crest_87 hk27 a0 x1 x2 x2 x7 x7 s h)
set_option maxHeartbeats 4000000 in
theorem t_X8_crest_27_b {X : sj_X} {s0 : sj_Mem} {N : Nat} {q : Int × sj_Mem} {k27 : Nat → Int → Int → Int → Int → Int → sj_Mem → Option (Int × sj_Mem)} (hk27 : ∀ (a0 : Nat) (x1 : Int) (x2 : Int) (x4 : Int) (x6 : Int) (x7 : Int) (s : sj_Mem), k27 a0 x1 x2 x4 x6 x7 s = some q → sj_T X m_X8_crest s0 (some (sj_i q.1), q.2) 27 [some (sj_r (some a0)), some (sj_i x1), some (sj_j x2), none, some (sj_j x4), none, some (sj_i x6), some (sj_i x7)] [] s) :
    ∀ (a0 : Nat) (x1 : Int) (x2 : Int) (x4 : Int) (x6 : Int) (x7 : Int) (s : sj_Mem), f_X8_crest_27_b N k27 a0 x1 x2 x4 x6 x7 s = some q → sj_T X m_X8_crest s0 (some (sj_i q.1), q.2) 27 [some (sj_r (some a0)), some (sj_i x1), some (sj_j x2), none, some (sj_j x4), none, some (sj_i x6), some (sj_i x7)] [] s := by
  intro a0 x1 x2 x4 x6 x7 s h
  unfold f_X8_crest_27_b at h
  refine r_iload (pc := 27) dX8_crest_27 rfl ?_
  refine r_aload_n (pc := 29) dX8_crest_29 rfl rfl ?_
  refine r_gR (pc := 30) h dX8_crest_30 fw_X8_53 rfl (fun r1 h => ?_)
  obtain ⟨a2, ea2, g⟩ := e_nn_some h
  clear h
  subst ea2
  have h := g
  clear g
  refine r_gI (pc := 33) h dX8_crest_33 fw_X8_367 rfl (fun v3 h => ?_)
  refine r_icmp_ge (pc := 36) (tgt := 93) h dX8_crest_36 (by decide) (fun h => ?_) (fun h => ?_)
  · refine r_iload (pc := 93) dX8_crest_93 rfl ?_
    exact r_iret (pc := 95) h rfl dX8_crest_95
  · refine r_aload_n (pc := 39) dX8_crest_39 rfl rfl ?_
    refine r_gR (pc := 40) h dX8_crest_40 fw_X8_53 rfl (fun r4 h => ?_)
    refine r_iload (pc := 43) dX8_crest_43 rfl ?_
    refine r_iload_n (pc := 45) dX8_crest_45 rfl rfl ?_
    obtain ⟨a5, ea5, g⟩ := e_nn_some h
    clear h
    subst ea5
    have h := g
    clear g
    refine r_callV (pc := 46) (fun v => some (sj_i v)) (As := [sj_i x7, sj_i x1]) (rest := []) h dX8_crest_46 mw_X8_361 vw_X4_isFast (fun _ _ hc => c_X4_isFast hc) rfl ⟨(Nat.le_of_ble_eq_true rfl), (Nat.le_of_ble_eq_true rfl)⟩ (Nat.le_of_ble_eq_true rfl) rfl (fun v7 s6 h => ?_)
    refine r_if_eq (pc := 49) (tgt := 54) h dX8_crest_49 (by decide) (fun h => ?_) (fun h => ?_)
    · refine r_lload_n (pc := 54) dX8_crest_54 rfl rfl ?_
      refine r_aload_n (pc := 55) dX8_crest_55 rfl rfl ?_
      refine r_gR (pc := 56) h dX8_crest_56 fw_X8_53 rfl (fun r8 h => ?_)
      refine r_iload (pc := 59) dX8_crest_59 rfl ?_
      refine r_iload_n (pc := 61) dX8_crest_61 rfl rfl ?_
      obtain ⟨a9, ea9, g⟩ := e_nn_some h
      clear h
      subst ea9
      have h := g
      clear g
      refine r_callV (pc := 62) (fun v => some (sj_j v)) (As := [sj_i x7, sj_i x1]) (rest := [(sj_j x2)]) h dX8_crest_62 mw_X8_364 vw_X4_thrustOf (fun _ _ hc => c_X4_thrustOf hc) rfl ⟨(Nat.le_of_ble_eq_true rfl), (Nat.le_of_ble_eq_true rfl)⟩ (Nat.le_of_ble_eq_true rfl) rfl (fun v11 s10 h => ?_)
      refine r_ladd (pc := 65) dX8_crest_65 ?_
      refine r_lstore_nL (ln := fun w => [some (sj_r (some a0)), some (sj_i x1), some (sj_j w), none, some (sj_j x4), none, some (sj_i x6), some (sj_i x7)]) (pc := 66) h dX8_crest_66 rfl (Nat.le_of_ble_eq_true rfl) (fun _ => rfl) (fun v12 h => ?_)
      refine r_iload (pc := 67) dX8_crest_67 rfl ?_
      refine r_iconst (pc := 69) dX8_crest_69 ?_
      refine r_icmp_eq (pc := 70) (tgt := 80) h dX8_crest_70 (by decide) (fun h => ?_) (fun h => ?_)
      · exact sj_weak (l2 := [some (sj_r (some a0)), some (sj_i x1), some (sj_j v12), none, none, none, none, some (sj_i x7)]) (⟨rfl, ⟨rfl, ⟨rfl, ⟨rfl, trivial⟩⟩⟩⟩) (t_X8_crest_80 hk27 a0 x1 v12 x7 s10 h)
      · refine r_lload_n (pc := 73) dX8_crest_73 rfl rfl ?_
        refine r_lload (pc := 74) dX8_crest_74 rfl ?_
        refine r_lle (pc := 76) (tgt := 87) h dX8_crest_76 rfl dX8_crest_77 (by decide) (fun h => ?_) (fun h => ?_)
        · exact sj_weak (l2 := [some (sj_r (some a0)), some (sj_i x1), some (sj_j v12), none, some (sj_j x4), none, some (sj_i x6), some (sj_i x7)]) (⟨rfl, ⟨rfl, ⟨rfl, ⟨rfl, ⟨rfl, ⟨rfl, trivial⟩⟩⟩⟩⟩⟩) (t_X8_crest_87 hk27 a0 x1 v12 x4 x6 x7 s10 h)
        · exact sj_weak (l2 := [some (sj_r (some a0)), some (sj_i x1), some (sj_j v12), none, none, none, none, some (sj_i x7)]) (⟨rfl, ⟨rfl, ⟨rfl, ⟨rfl, trivial⟩⟩⟩⟩) (t_X8_crest_80 hk27 a0 x1 v12 x7 s10 h)
    · refine r_iconst (pc := 52) dX8_crest_52 ?_
      exact r_iret (pc := 53) h rfl dX8_crest_53
set_option maxHeartbeats 4000000 in
theorem t_X8_crest_27 {X : sj_X} {s0 : sj_Mem} {N : Nat} {q : Int × sj_Mem} :
    ∀ (n : Nat) (a0 : Nat) (x1 : Int) (x2 : Int) (x4 : Int) (x6 : Int) (x7 : Int) (s : sj_Mem), f_X8_crest_27 N n a0 x1 x2 x4 x6 x7 s = some q → sj_T X m_X8_crest s0 (some (sj_i q.1), q.2) 27 [some (sj_r (some a0)), some (sj_i x1), some (sj_j x2), none, some (sj_j x4), none, some (sj_i x6), some (sj_i x7)] [] s := by
  intro n
  induction n with
  | zero => intro a0 x1 x2 x4 x6 x7 s h; exact nomatch h
  | succ n ih => intro a0 x1 x2 x4 x6 x7 s h; exact t_X8_crest_27_b (N := N) ih a0 x1 x2 x4 x6 x7 s h
set_option maxHeartbeats 4000000 in
theorem t_X8_crest_0 {X : sj_X} {s0 : sj_Mem} {N : Nat} {q : Int × sj_Mem} :
    ∀ (a0 : Nat) (x1 : Int) (s : sj_Mem), f_X8_crest N a0 x1 s = some q → sj_T X m_X8_crest s0 (some (sj_i q.1), q.2) 0 [some (sj_r (some a0)), some (sj_i x1), none, none, none, none, none, none] [] s := by
  intro a0 x1 s h
  unfold f_X8_crest at h
  refine r_iload_n (pc := 0) dX8_crest_0 rfl rfl ?_
  refine r_callS (pc := 1) (fun v => some (sj_i v)) (As := [sj_i x1]) (rest := []) h dX8_crest_1 mw_X8_292 kw_879 (fun _ _ hc => c_X8_isK hc) rfl ⟨(Nat.le_of_ble_eq_true rfl), (Nat.le_of_ble_eq_true rfl)⟩ (Nat.le_of_ble_eq_true rfl) rfl (fun v2 s1 h => ?_)
  refine r_if_eq (pc := 4) (tgt := 14) h dX8_crest_4 (by decide) (fun h => ?_) (fun h => ?_)
  · refine r_iconst (pc := 14) dX8_crest_14 ?_
    exact r_iret (pc := 15) h rfl dX8_crest_15
  · refine r_aload_n (pc := 7) dX8_crest_7 rfl rfl ?_
    refine r_callV (pc := 8) (fun v => some (sj_i v)) (As := []) (rest := []) h dX8_crest_8 mw_X8_267 vw_X8_cutUp (fun _ _ hc => c_X8_cutUp hc) rfl ⟨(Nat.le_of_ble_eq_true rfl), (Nat.le_of_ble_eq_true rfl)⟩ (Nat.le_of_ble_eq_true rfl) rfl (fun v4 s3 h => ?_)
    refine r_if_ne (pc := 11) (tgt := 16) h dX8_crest_11 (by decide) (fun h => ?_) (fun h => ?_)
    · refine r_iconst (pc := 14) dX8_crest_14 ?_
      exact r_iret (pc := 15) h rfl dX8_crest_15
    · refine r_lconst0 (pc := 16) dX8_crest_16 ?_
      refine r_lstore_n (ln := [some (sj_r (some a0)), some (sj_i x1), some (sj_j 0), none, none, none, none, none]) (pc := 17) dX8_crest_17 rfl (Nat.le_of_ble_eq_true rfl) rfl ?_
      refine r_lconst0 (pc := 18) dX8_crest_18 ?_
      refine r_lstore (ln := [some (sj_r (some a0)), some (sj_i x1), some (sj_j 0), none, some (sj_j 0), none, none, none]) (pc := 19) dX8_crest_19 (Nat.le_of_ble_eq_true rfl) rfl ?_
      refine r_iconst (pc := 21) dX8_crest_21 ?_
      refine r_istore (ln := [some (sj_r (some a0)), some (sj_i x1), some (sj_j 0), none, some (sj_j 0), none, some (sj_i ((-1))), none]) (pc := 22) dX8_crest_22 (Nat.le_of_ble_eq_true rfl) rfl ?_
      refine r_iconst (pc := 24) dX8_crest_24 ?_
      refine r_istore (ln := [some (sj_r (some a0)), some (sj_i x1), some (sj_j 0), none, some (sj_j 0), none, some (sj_i ((-1))), some (sj_i 0)]) (pc := 25) dX8_crest_25 (Nat.le_of_ble_eq_true rfl) rfl ?_
      exact sj_weak (l2 := [some (sj_r (some a0)), some (sj_i x1), some (sj_j 0), none, some (sj_j 0), none, some (sj_i ((-1))), some (sj_i 0)]) (⟨rfl, ⟨rfl, ⟨rfl, ⟨rfl, ⟨rfl, ⟨rfl, trivial⟩⟩⟩⟩⟩⟩) (t_X8_crest_27 N a0 x1 0 0 ((-1)) 0 s3 h)
set_option maxHeartbeats 4000000 in
theorem c_X8_crest {X : sj_X} {N : Nat} {a0 : Nat} {x1 : Int} {s : sj_Mem} {q : Int × sj_Mem} (h : f_X8_crest N a0 x1 s = some q) : sj_C X m_X8_crest [sj_r (some a0), sj_i x1] s (some (sj_i q.1), q.2) :=
  sj_C_of (by decide +kernel) (Nat.le_of_ble_eq_true rfl) (lo := [some (sj_r (some a0)), some (sj_i x1), none, none, none, none, none, none]) rfl (sj_weak (l2 := [some (sj_r (some a0)), some (sj_i x1), none, none, none, none, none, none]) (⟨rfl, ⟨rfl, trivial⟩⟩) (t_X8_crest_0 a0 x1 s h))
theorem dX8_tried_0 : decode cX8_tried 0 = .ok (.aload_n 0, 1) := by decide +kernel
theorem dX8_tried_1 : decode cX8_tried 1 = .ok (.getfield 60, 3) := by decide +kernel
theorem dX8_tried_4 : decode cX8_tried 4 = .ok (.aload_n 0, 1) := by decide +kernel
theorem dX8_tried_5 : decode cX8_tried 5 = .ok (.getfield 12, 3) := by decide +kernel
theorem dX8_tried_8 : decode cX8_tried 8 = .ok (.iload_n 1, 1) := by decide +kernel
theorem dX8_tried_9 : decode cX8_tried 9 = .ok (.iload_n 2, 1) := by decide +kernel
theorem dX8_tried_10 : decode cX8_tried 10 = .ok (.iload_n 3, 1) := by decide +kernel
theorem dX8_tried_11 : decode cX8_tried 11 = .ok (.iload 4, 2) := by decide +kernel
theorem dX8_tried_13 : decode cX8_tried 13 = .ok (.sipush 20001, 3) := by decide +kernel
theorem dX8_tried_16 : decode cX8_tried 16 = .ok (.invokevirtual 369, 3) := by decide +kernel
theorem dX8_tried_19 : decode cX8_tried 19 = .ok (.ireturn, 1) := by decide +kernel
set_option maxHeartbeats 4000000 in
theorem t_X8_tried_0 {X : sj_X} {s0 : sj_Mem} {N : Nat} {q : Int × sj_Mem} :
    ∀ (a0 : Nat) (x1 : Int) (x2 : Int) (x3 : Int) (x4 : Int) (s : sj_Mem), f_X8_tried N a0 x1 x2 x3 x4 s = some q → sj_T X m_X8_tried s0 (some (sj_i q.1), q.2) 0 [some (sj_r (some a0)), some (sj_i x1), some (sj_i x2), some (sj_i x3), some (sj_i x4)] [] s := by
  intro a0 x1 x2 x3 x4 s h
  unfold f_X8_tried at h
  refine r_aload_n (pc := 0) dX8_tried_0 rfl rfl ?_
  refine r_gR (pc := 1) h dX8_tried_1 fw_X8_60 rfl (fun r1 h => ?_)
  refine r_aload_n (pc := 4) dX8_tried_4 rfl rfl ?_
  refine r_gR (pc := 5) h dX8_tried_5 fw_X8_12 rfl (fun r2 h => ?_)
  refine r_iload_n (pc := 8) dX8_tried_8 rfl rfl ?_
  refine r_iload_n (pc := 9) dX8_tried_9 rfl rfl ?_
  refine r_iload_n (pc := 10) dX8_tried_10 rfl rfl ?_
  refine r_iload (pc := 11) dX8_tried_11 rfl ?_
  refine r_sipush (pc := 13) dX8_tried_13 ⟨by decide, by decide⟩ ?_
  obtain ⟨a3, ea3, g⟩ := e_nn_some h
  clear h
  subst ea3
  have h := g
  clear g
  refine r_callV (pc := 16) (fun v => some (sj_i v)) (As := [sj_r r2, sj_i x1, sj_i x2, sj_i x3, sj_i x4, sj_i 20001]) (rest := []) h dX8_tried_16 mw_X8_369 vw_X3_ask (fun _ _ hc => c_X3_ask hc) rfl ⟨(Nat.le_of_ble_eq_true rfl), (Nat.le_of_ble_eq_true rfl)⟩ (Nat.le_of_ble_eq_true rfl) rfl (fun v5 s4 h => ?_)
  exact r_iret (pc := 19) h rfl dX8_tried_19
set_option maxHeartbeats 4000000 in
theorem c_X8_tried {X : sj_X} {N : Nat} {a0 : Nat} {x1 : Int} {x2 : Int} {x3 : Int} {x4 : Int} {s : sj_Mem} {q : Int × sj_Mem} (h : f_X8_tried N a0 x1 x2 x3 x4 s = some q) : sj_C X m_X8_tried [sj_r (some a0), sj_i x1, sj_i x2, sj_i x3, sj_i x4] s (some (sj_i q.1), q.2) :=
  sj_C_of (by decide +kernel) (Nat.le_of_ble_eq_true rfl) (lo := [some (sj_r (some a0)), some (sj_i x1), some (sj_i x2), some (sj_i x3), some (sj_i x4)]) rfl (sj_weak (l2 := [some (sj_r (some a0)), some (sj_i x1), some (sj_i x2), some (sj_i x3), some (sj_i x4)]) (⟨rfl, ⟨rfl, ⟨rfl, ⟨rfl, ⟨rfl, trivial⟩⟩⟩⟩⟩) (t_X8_tried_0 a0 x1 x2 x3 x4 s h))
theorem dX8_boxes_0 : decode cX8_boxes 0 = .ok (.iload_n 1, 1) := by decide +kernel
theorem dX8_boxes_1 : decode cX8_boxes 1 = .ok (.iload_n 2, 1) := by decide +kernel
theorem dX8_boxes_2 : decode cX8_boxes 2 = .ok (.iload_n 3, 1) := by decide +kernel
theorem dX8_boxes_3 : decode cX8_boxes 3 = .ok (.invokestatic 158, 3) := by decide +kernel
theorem dX8_boxes_6 : decode cX8_boxes 6 = .ok (.ifCond .eq 27, 3) := by decide +kernel
theorem dX8_boxes_9 : decode cX8_boxes 9 = .ok (.iload 4, 2) := by decide +kernel
theorem dX8_boxes_11 : decode cX8_boxes 11 = .ok (.iconst 1, 1) := by decide +kernel
theorem dX8_boxes_12 : decode cX8_boxes 12 = .ok (.if_icmp .lt 21, 3) := by decide +kernel
theorem dX8_boxes_15 : decode cX8_boxes 15 = .ok (.iload 4, 2) := by decide +kernel
theorem dX8_boxes_17 : decode cX8_boxes 17 = .ok (.bipush 64, 2) := by decide +kernel
theorem dX8_boxes_19 : decode cX8_boxes 19 = .ok (.if_icmp .gt 14, 3) := by decide +kernel
theorem dX8_boxes_22 : decode cX8_boxes 22 = .ok (.iload 6, 2) := by decide +kernel
theorem dX8_boxes_24 : decode cX8_boxes 24 = .ok (.ifCond .lt 9, 3) := by decide +kernel
theorem dX8_boxes_27 : decode cX8_boxes 27 = .ok (.iload 6, 2) := by decide +kernel
theorem dX8_boxes_29 : decode cX8_boxes 29 = .ok (.iconst 4, 1) := by decide +kernel
theorem dX8_boxes_30 : decode cX8_boxes 30 = .ok (.if_icmp .le 6, 3) := by decide +kernel
theorem dX8_boxes_33 : decode cX8_boxes 33 = .ok (.bipush (-100), 2) := by decide +kernel
theorem dX8_boxes_35 : decode cX8_boxes 35 = .ok (.ireturn, 1) := by decide +kernel
theorem dX8_boxes_36 : decode cX8_boxes 36 = .ok (.aload_n 0, 1) := by decide +kernel
theorem dX8_boxes_37 : decode cX8_boxes 37 = .ok (.getfield 60, 3) := by decide +kernel
theorem dX8_boxes_40 : decode cX8_boxes 40 = .ok (.aload_n 0, 1) := by decide +kernel
theorem dX8_boxes_41 : decode cX8_boxes 41 = .ok (.getfield 12, 3) := by decide +kernel
theorem dX8_boxes_44 : decode cX8_boxes 44 = .ok (.iload_n 1, 1) := by decide +kernel
theorem dX8_boxes_45 : decode cX8_boxes 45 = .ok (.iload_n 2, 1) := by decide +kernel
theorem dX8_boxes_46 : decode cX8_boxes 46 = .ok (.iload_n 3, 1) := by decide +kernel
theorem dX8_boxes_47 : decode cX8_boxes 47 = .ok (.iload 4, 2) := by decide +kernel
theorem dX8_boxes_49 : decode cX8_boxes 49 = .ok (.iload 5, 2) := by decide +kernel
theorem dX8_boxes_51 : decode cX8_boxes 51 = .ok (.invokevirtual 373, 3) := by decide +kernel
theorem dX8_boxes_54 : decode cX8_boxes 54 = .ok (.ifCond .ne 6, 3) := by decide +kernel
theorem dX8_boxes_57 : decode cX8_boxes 57 = .ok (.bipush (-100), 2) := by decide +kernel
theorem dX8_boxes_59 : decode cX8_boxes 59 = .ok (.ireturn, 1) := by decide +kernel
theorem dX8_boxes_60 : decode cX8_boxes 60 = .ok (.iload 6, 2) := by decide +kernel
theorem dX8_boxes_62 : decode cX8_boxes 62 = .ok (.tableswitch 62 0 3 #[30, 38, 46, 54], 30) := by decide +kernel
theorem dX8_boxes_92 : decode cX8_boxes 92 = .ok (.aload_n 0, 1) := by decide +kernel
theorem dX8_boxes_93 : decode cX8_boxes 93 = .ok (.getfield 60, 3) := by decide +kernel
theorem dX8_boxes_96 : decode cX8_boxes 96 = .ok (.getfield 377, 3) := by decide +kernel
theorem dX8_boxes_99 : decode cX8_boxes 99 = .ok (.ireturn, 1) := by decide +kernel
theorem dX8_boxes_100 : decode cX8_boxes 100 = .ok (.aload_n 0, 1) := by decide +kernel
theorem dX8_boxes_101 : decode cX8_boxes 101 = .ok (.getfield 60, 3) := by decide +kernel
theorem dX8_boxes_104 : decode cX8_boxes 104 = .ok (.getfield 380, 3) := by decide +kernel
theorem dX8_boxes_107 : decode cX8_boxes 107 = .ok (.ireturn, 1) := by decide +kernel
theorem dX8_boxes_108 : decode cX8_boxes 108 = .ok (.aload_n 0, 1) := by decide +kernel
theorem dX8_boxes_109 : decode cX8_boxes 109 = .ok (.getfield 60, 3) := by decide +kernel
theorem dX8_boxes_112 : decode cX8_boxes 112 = .ok (.getfield 383, 3) := by decide +kernel
theorem dX8_boxes_115 : decode cX8_boxes 115 = .ok (.ireturn, 1) := by decide +kernel
theorem dX8_boxes_116 : decode cX8_boxes 116 = .ok (.aload_n 0, 1) := by decide +kernel
theorem dX8_boxes_117 : decode cX8_boxes 117 = .ok (.getfield 60, 3) := by decide +kernel
theorem dX8_boxes_120 : decode cX8_boxes 120 = .ok (.getfield 386, 3) := by decide +kernel
theorem dX8_boxes_123 : decode cX8_boxes 123 = .ok (.ireturn, 1) := by decide +kernel
theorem dX8_boxes_124 : decode cX8_boxes 124 = .ok (.aload_n 0, 1) := by decide +kernel
theorem dX8_boxes_125 : decode cX8_boxes 125 = .ok (.getfield 60, 3) := by decide +kernel
theorem dX8_boxes_128 : decode cX8_boxes 128 = .ok (.getfield 389, 3) := by decide +kernel
theorem dX8_boxes_131 : decode cX8_boxes 131 = .ok (.ireturn, 1) := by decide +kernel
set_option maxHeartbeats 4000000 in
theorem t_X8_boxes_0 {X : sj_X} {s0 : sj_Mem} {N : Nat} {q : Int × sj_Mem} :
    ∀ (a0 : Nat) (x1 : Int) (x2 : Int) (x3 : Int) (x4 : Int) (x5 : Int) (x6 : Int) (s : sj_Mem), f_X8_boxes N a0 x1 x2 x3 x4 x5 x6 s = some q → sj_T X m_X8_boxes s0 (some (sj_i q.1), q.2) 0 [some (sj_r (some a0)), some (sj_i x1), some (sj_i x2), some (sj_i x3), some (sj_i x4), some (sj_i x5), some (sj_i x6)] [] s := by
  intro a0 x1 x2 x3 x4 x5 x6 s h
  unfold f_X8_boxes at h
  refine r_iload_n (pc := 0) dX8_boxes_0 rfl rfl ?_
  refine r_iload_n (pc := 1) dX8_boxes_1 rfl rfl ?_
  refine r_iload_n (pc := 2) dX8_boxes_2 rfl rfl ?_
  refine r_callS (pc := 3) (fun v => some (sj_i v)) (As := [sj_i x1, sj_i x2, sj_i x3]) (rest := []) h dX8_boxes_3 mw_X8_158 kw_600 (fun _ _ hc => c_X8_isCircle hc) rfl ⟨(Nat.le_of_ble_eq_true rfl), (Nat.le_of_ble_eq_true rfl)⟩ (Nat.le_of_ble_eq_true rfl) rfl (fun v2 s1 h => ?_)
  refine r_if_eq (pc := 6) (tgt := 33) h dX8_boxes_6 (by decide) (fun h => ?_) (fun h => ?_)
  · refine r_bipush (pc := 33) dX8_boxes_33 ⟨by decide, by decide⟩ ?_
    exact r_iret (pc := 35) h rfl dX8_boxes_35
  · refine r_iload (pc := 9) dX8_boxes_9 rfl ?_
    refine r_iconst (pc := 11) dX8_boxes_11 ?_
    refine r_icmp_lt (pc := 12) (tgt := 33) h dX8_boxes_12 (by decide) (fun h => ?_) (fun h => ?_)
    · refine r_bipush (pc := 33) dX8_boxes_33 ⟨by decide, by decide⟩ ?_
      exact r_iret (pc := 35) h rfl dX8_boxes_35
    · refine r_iload (pc := 15) dX8_boxes_15 rfl ?_
      refine r_bipush (pc := 17) dX8_boxes_17 ⟨by decide, by decide⟩ ?_
      refine r_icmp_gt (pc := 19) (tgt := 33) h dX8_boxes_19 (by decide) (fun h => ?_) (fun h => ?_)
      · refine r_bipush (pc := 33) dX8_boxes_33 ⟨by decide, by decide⟩ ?_
        exact r_iret (pc := 35) h rfl dX8_boxes_35
      · refine r_iload (pc := 22) dX8_boxes_22 rfl ?_
        refine r_if_lt (pc := 24) (tgt := 33) h dX8_boxes_24 (by decide) (fun h => ?_) (fun h => ?_)
        · refine r_bipush (pc := 33) dX8_boxes_33 ⟨by decide, by decide⟩ ?_
          exact r_iret (pc := 35) h rfl dX8_boxes_35
        · refine r_iload (pc := 27) dX8_boxes_27 rfl ?_
          refine r_iconst (pc := 29) dX8_boxes_29 ?_
          refine r_icmp_le (pc := 30) (tgt := 36) h dX8_boxes_30 (by decide) (fun h => ?_) (fun h => ?_)
          · refine r_aload_n (pc := 36) dX8_boxes_36 rfl rfl ?_
            refine r_gR (pc := 37) h dX8_boxes_37 fw_X8_60 rfl (fun r3 h => ?_)
            refine r_aload_n (pc := 40) dX8_boxes_40 rfl rfl ?_
            refine r_gR (pc := 41) h dX8_boxes_41 fw_X8_12 rfl (fun r4 h => ?_)
            refine r_iload_n (pc := 44) dX8_boxes_44 rfl rfl ?_
            refine r_iload_n (pc := 45) dX8_boxes_45 rfl rfl ?_
            refine r_iload_n (pc := 46) dX8_boxes_46 rfl rfl ?_
            refine r_iload (pc := 47) dX8_boxes_47 rfl ?_
            refine r_iload (pc := 49) dX8_boxes_49 rfl ?_
            obtain ⟨a5, ea5, g⟩ := e_nn_some h
            clear h
            subst ea5
            have h := g
            clear g
            refine r_callV (pc := 51) (fun v => some (sj_i v)) (As := [sj_r r4, sj_i x1, sj_i x2, sj_i x3, sj_i x4, sj_i x5]) (rest := []) h dX8_boxes_51 mw_X8_373 vw_X3_seek (fun _ _ hc => c_X3_seek hc) rfl ⟨(Nat.le_of_ble_eq_true rfl), (Nat.le_of_ble_eq_true rfl)⟩ (Nat.le_of_ble_eq_true rfl) rfl (fun v7 s6 h => ?_)
            refine r_if_ne (pc := 54) (tgt := 60) h dX8_boxes_54 (by decide) (fun h => ?_) (fun h => ?_)
            · refine r_bipush (pc := 57) dX8_boxes_57 ⟨by decide, by decide⟩ ?_
              exact r_iret (pc := 59) h rfl dX8_boxes_59
            · refine r_iload (pc := 60) dX8_boxes_60 rfl ?_
              obtain ⟨hr, h⟩ := e_sw_some h
              refine sj_if h (fun c0 h => ?_) (fun c0 h => ?_)
              · refine r_tcase (pc := 62) (tgt := 92) (j := 0) hr c0 dX8_boxes_62 (by decide) (by decide) rfl (by decide) ?_
                refine r_aload_n (pc := 92) dX8_boxes_92 rfl rfl ?_
                refine r_gR (pc := 93) h dX8_boxes_93 fw_X8_60 rfl (fun r8 h => ?_)
                obtain ⟨a9, ea9, g⟩ := e_nn_some h
                clear h
                subst ea9
                have h := g
                clear g
                refine r_gI (pc := 96) h dX8_boxes_96 fw_X8_377 rfl (fun v10 h => ?_)
                exact r_iret (pc := 99) h rfl dX8_boxes_99
              refine sj_if h (fun c1 h => ?_) (fun c1 h => ?_)
              · refine r_tcase (pc := 62) (tgt := 100) (j := 1) hr c1 dX8_boxes_62 (by decide) (by decide) rfl (by decide) ?_
                refine r_aload_n (pc := 100) dX8_boxes_100 rfl rfl ?_
                refine r_gR (pc := 101) h dX8_boxes_101 fw_X8_60 rfl (fun r11 h => ?_)
                obtain ⟨a12, ea12, g⟩ := e_nn_some h
                clear h
                subst ea12
                have h := g
                clear g
                refine r_gI (pc := 104) h dX8_boxes_104 fw_X8_380 rfl (fun v13 h => ?_)
                exact r_iret (pc := 107) h rfl dX8_boxes_107
              refine sj_if h (fun c2 h => ?_) (fun c2 h => ?_)
              · refine r_tcase (pc := 62) (tgt := 108) (j := 2) hr c2 dX8_boxes_62 (by decide) (by decide) rfl (by decide) ?_
                refine r_aload_n (pc := 108) dX8_boxes_108 rfl rfl ?_
                refine r_gR (pc := 109) h dX8_boxes_109 fw_X8_60 rfl (fun r14 h => ?_)
                obtain ⟨a15, ea15, g⟩ := e_nn_some h
                clear h
                subst ea15
                have h := g
                clear g
                refine r_gI (pc := 112) h dX8_boxes_112 fw_X8_383 rfl (fun v16 h => ?_)
                exact r_iret (pc := 115) h rfl dX8_boxes_115
              refine sj_if h (fun c3 h => ?_) (fun c3 h => ?_)
              · refine r_tcase (pc := 62) (tgt := 116) (j := 3) hr c3 dX8_boxes_62 (by decide) (by decide) rfl (by decide) ?_
                refine r_aload_n (pc := 116) dX8_boxes_116 rfl rfl ?_
                refine r_gR (pc := 117) h dX8_boxes_117 fw_X8_60 rfl (fun r17 h => ?_)
                obtain ⟨a18, ea18, g⟩ := e_nn_some h
                clear h
                subst ea18
                have h := g
                clear g
                refine r_gI (pc := 120) h dX8_boxes_120 fw_X8_386 rfl (fun v19 h => ?_)
                exact r_iret (pc := 123) h rfl dX8_boxes_123
              refine r_tdflt (pc := 62) (tgt := 124) hr dX8_boxes_62 (by omega) (by decide) ?_
              refine r_aload_n (pc := 124) dX8_boxes_124 rfl rfl ?_
              refine r_gR (pc := 125) h dX8_boxes_125 fw_X8_60 rfl (fun r20 h => ?_)
              obtain ⟨a21, ea21, g⟩ := e_nn_some h
              clear h
              subst ea21
              have h := g
              clear g
              refine r_gI (pc := 128) h dX8_boxes_128 fw_X8_389 rfl (fun v22 h => ?_)
              exact r_iret (pc := 131) h rfl dX8_boxes_131
          · refine r_bipush (pc := 33) dX8_boxes_33 ⟨by decide, by decide⟩ ?_
            exact r_iret (pc := 35) h rfl dX8_boxes_35
set_option maxHeartbeats 4000000 in
theorem c_X8_boxes {X : sj_X} {N : Nat} {a0 : Nat} {x1 : Int} {x2 : Int} {x3 : Int} {x4 : Int} {x5 : Int} {x6 : Int} {s : sj_Mem} {q : Int × sj_Mem} (h : f_X8_boxes N a0 x1 x2 x3 x4 x5 x6 s = some q) : sj_C X m_X8_boxes [sj_r (some a0), sj_i x1, sj_i x2, sj_i x3, sj_i x4, sj_i x5, sj_i x6] s (some (sj_i q.1), q.2) :=
  sj_C_of (by decide +kernel) (Nat.le_of_ble_eq_true rfl) (lo := [some (sj_r (some a0)), some (sj_i x1), some (sj_i x2), some (sj_i x3), some (sj_i x4), some (sj_i x5), some (sj_i x6)]) rfl (sj_weak (l2 := [some (sj_r (some a0)), some (sj_i x1), some (sj_i x2), some (sj_i x3), some (sj_i x4), some (sj_i x5), some (sj_i x6)]) (⟨rfl, ⟨rfl, ⟨rfl, ⟨rfl, ⟨rfl, ⟨rfl, ⟨rfl, trivial⟩⟩⟩⟩⟩⟩⟩) (t_X8_boxes_0 a0 x1 x2 x3 x4 x5 x6 s h))
theorem dX8_dug_0 : decode cX8_dug 0 = .ok (.iload_n 3, 1) := by decide +kernel
theorem dX8_dug_1 : decode cX8_dug 1 = .ok (.iload 4, 2) := by decide +kernel
theorem dX8_dug_3 : decode cX8_dug 3 = .ok (.iload 5, 2) := by decide +kernel
theorem dX8_dug_5 : decode cX8_dug 5 = .ok (.invokestatic 158, 3) := by decide +kernel
theorem dX8_dug_8 : decode cX8_dug 8 = .ok (.ifCond .eq 15, 3) := by decide +kernel
theorem dX8_dug_11 : decode cX8_dug 11 = .ok (.aload_n 0, 1) := by decide +kernel
theorem dX8_dug_12 : decode cX8_dug 12 = .ok (.getfield 12, 3) := by decide +kernel
theorem dX8_dug_15 : decode cX8_dug 15 = .ok (.iload_n 1, 1) := by decide +kernel
theorem dX8_dug_16 : decode cX8_dug 16 = .ok (.iload_n 2, 1) := by decide +kernel
theorem dX8_dug_17 : decode cX8_dug 17 = .ok (.invokevirtual 112, 3) := by decide +kernel
theorem dX8_dug_20 : decode cX8_dug 20 = .ok (.ifCond .ne 5, 3) := by decide +kernel
theorem dX8_dug_23 : decode cX8_dug 23 = .ok (.iconst (-1), 1) := by decide +kernel
theorem dX8_dug_24 : decode cX8_dug 24 = .ok (.ireturn, 1) := by decide +kernel
theorem dX8_dug_25 : decode cX8_dug 25 = .ok (.aload_n 0, 1) := by decide +kernel
theorem dX8_dug_26 : decode cX8_dug 26 = .ok (.getfield 16, 3) := by decide +kernel
theorem dX8_dug_29 : decode cX8_dug 29 = .ok (.aload_n 0, 1) := by decide +kernel
theorem dX8_dug_30 : decode cX8_dug 30 = .ok (.getfield 12, 3) := by decide +kernel
theorem dX8_dug_33 : decode cX8_dug 33 = .ok (.invokevirtual 148, 3) := by decide +kernel
theorem dX8_dug_36 : decode cX8_dug 36 = .ok (.aload_n 0, 1) := by decide +kernel
theorem dX8_dug_37 : decode cX8_dug 37 = .ok (.getfield 16, 3) := by decide +kernel
theorem dX8_dug_40 : decode cX8_dug 40 = .ok (.getfield 100, 3) := by decide +kernel
theorem dX8_dug_43 : decode cX8_dug 43 = .ok (.iload_n 1, 1) := by decide +kernel
theorem dX8_dug_44 : decode cX8_dug 44 = .ok (.dup2, 1) := by decide +kernel
theorem dX8_dug_45 : decode cX8_dug 45 = .ok (.iaload, 1) := by decide +kernel
theorem dX8_dug_46 : decode cX8_dug 46 = .ok (.iload_n 2, 1) := by decide +kernel
theorem dX8_dug_47 : decode cX8_dug 47 = .ok (.isub, 1) := by decide +kernel
theorem dX8_dug_48 : decode cX8_dug 48 = .ok (.iastore, 1) := by decide +kernel
theorem dX8_dug_49 : decode cX8_dug 49 = .ok (.aload_n 0, 1) := by decide +kernel
theorem dX8_dug_50 : decode cX8_dug 50 = .ok (.getfield 60, 3) := by decide +kernel
theorem dX8_dug_53 : decode cX8_dug 53 = .ok (.aload_n 0, 1) := by decide +kernel
theorem dX8_dug_54 : decode cX8_dug 54 = .ok (.getfield 16, 3) := by decide +kernel
theorem dX8_dug_57 : decode cX8_dug 57 = .ok (.iload_n 3, 1) := by decide +kernel
theorem dX8_dug_58 : decode cX8_dug 58 = .ok (.iload 4, 2) := by decide +kernel
theorem dX8_dug_60 : decode cX8_dug 60 = .ok (.iload 5, 2) := by decide +kernel
theorem dX8_dug_62 : decode cX8_dug 62 = .ok (.bipush 8, 2) := by decide +kernel
theorem dX8_dug_64 : decode cX8_dug 64 = .ok (.iload 6, 2) := by decide +kernel
theorem dX8_dug_66 : decode cX8_dug 66 = .ok (.invokevirtual 373, 3) := by decide +kernel
theorem dX8_dug_69 : decode cX8_dug 69 = .ok (.ifCond .eq 13, 3) := by decide +kernel
theorem dX8_dug_72 : decode cX8_dug 72 = .ok (.aload_n 0, 1) := by decide +kernel
theorem dX8_dug_73 : decode cX8_dug 73 = .ok (.getfield 60, 3) := by decide +kernel
theorem dX8_dug_76 : decode cX8_dug 76 = .ok (.getfield 377, 3) := by decide +kernel
theorem dX8_dug_79 : decode cX8_dug 79 = .ok (.goto 4, 3) := by decide +kernel
theorem dX8_dug_82 : decode cX8_dug 82 = .ok (.iconst (-1), 1) := by decide +kernel
theorem dX8_dug_83 : decode cX8_dug 83 = .ok (.ireturn, 1) := by decide +kernel
set_option maxHeartbeats 4000000 in
theorem t_X8_dug_0 {X : sj_X} {s0 : sj_Mem} {N : Nat} {q : Int × sj_Mem} :
    ∀ (a0 : Nat) (x1 : Int) (x2 : Int) (x3 : Int) (x4 : Int) (x5 : Int) (x6 : Int) (s : sj_Mem), f_X8_dug N a0 x1 x2 x3 x4 x5 x6 s = some q → sj_T X m_X8_dug s0 (some (sj_i q.1), q.2) 0 [some (sj_r (some a0)), some (sj_i x1), some (sj_i x2), some (sj_i x3), some (sj_i x4), some (sj_i x5), some (sj_i x6)] [] s := by
  intro a0 x1 x2 x3 x4 x5 x6 s h
  unfold f_X8_dug at h
  refine r_iload_n (pc := 0) dX8_dug_0 rfl rfl ?_
  refine r_iload (pc := 1) dX8_dug_1 rfl ?_
  refine r_iload (pc := 3) dX8_dug_3 rfl ?_
  refine r_callS (pc := 5) (fun v => some (sj_i v)) (As := [sj_i x3, sj_i x4, sj_i x5]) (rest := []) h dX8_dug_5 mw_X8_158 kw_600 (fun _ _ hc => c_X8_isCircle hc) rfl ⟨(Nat.le_of_ble_eq_true rfl), (Nat.le_of_ble_eq_true rfl)⟩ (Nat.le_of_ble_eq_true rfl) rfl (fun v2 s1 h => ?_)
  refine r_if_eq (pc := 8) (tgt := 23) h dX8_dug_8 (by decide) (fun h => ?_) (fun h => ?_)
  · refine r_iconst (pc := 23) dX8_dug_23 ?_
    exact r_iret (pc := 24) h rfl dX8_dug_24
  · refine r_aload_n (pc := 11) dX8_dug_11 rfl rfl ?_
    refine r_gR (pc := 12) h dX8_dug_12 fw_X8_12 rfl (fun r3 h => ?_)
    refine r_iload_n (pc := 15) dX8_dug_15 rfl rfl ?_
    refine r_iload_n (pc := 16) dX8_dug_16 rfl rfl ?_
    obtain ⟨a4, ea4, g⟩ := e_nn_some h
    clear h
    subst ea4
    have h := g
    clear g
    refine r_callV (pc := 17) (fun v => some (sj_i v)) (As := [sj_i x1, sj_i x2]) (rest := []) h dX8_dug_17 mw_X8_112 vw_X0_canLower (fun _ _ hc => c_X0_canLower hc) rfl ⟨(Nat.le_of_ble_eq_true rfl), (Nat.le_of_ble_eq_true rfl)⟩ (Nat.le_of_ble_eq_true rfl) rfl (fun v6 s5 h => ?_)
    refine r_if_ne (pc := 20) (tgt := 25) h dX8_dug_20 (by decide) (fun h => ?_) (fun h => ?_)
    · refine r_iconst (pc := 23) dX8_dug_23 ?_
      exact r_iret (pc := 24) h rfl dX8_dug_24
    · refine r_aload_n (pc := 25) dX8_dug_25 rfl rfl ?_
      refine r_gR (pc := 26) h dX8_dug_26 fw_X8_16 rfl (fun r7 h => ?_)
      refine r_aload_n (pc := 29) dX8_dug_29 rfl rfl ?_
      refine r_gR (pc := 30) h dX8_dug_30 fw_X8_12 rfl (fun r8 h => ?_)
      obtain ⟨a9, ea9, g⟩ := e_nn_some h
      clear h
      subst ea9
      have h := g
      clear g
      refine r_callV (pc := 33) (fun _ => none) (As := [sj_r r8]) (rest := []) h dX8_dug_33 mw_X8_148 vw_X0_copy (fun _ _ hc => c_X0_copy hc) rfl ⟨(Nat.le_of_ble_eq_true rfl), (Nat.le_of_ble_eq_true rfl)⟩ (Nat.le_of_ble_eq_true rfl) rfl (fun _u s10 h => ?_)
      refine r_aload_n (pc := 36) dX8_dug_36 rfl rfl ?_
      refine r_gR (pc := 37) h dX8_dug_37 fw_X8_16 rfl (fun r11 h => ?_)
      obtain ⟨a12, ea12, g⟩ := e_nn_some h
      clear h
      subst ea12
      have h := g
      clear g
      refine r_gR (pc := 40) h dX8_dug_40 fw_X8_100 rfl (fun r13 h => ?_)
      refine r_iload_n (pc := 43) dX8_dug_43 rfl rfl ?_
      refine r_dup2_11 (pc := 44) dX8_dug_44 rfl rfl ?_
      obtain ⟨a14, ea14, g⟩ := e_nn_some h
      clear h
      subst ea14
      have h := g
      clear g
      refine r_iaload (pc := 45) h dX8_dug_45 (fun v15 h => ?_)
      refine r_iload_n (pc := 46) dX8_dug_46 rfl rfl ?_
      refine r_isub (pc := 47) dX8_dug_47 ?_
      refine r_iastore (pc := 48) h dX8_dug_48 (fun s16 h => ?_)
      refine r_aload_n (pc := 49) dX8_dug_49 rfl rfl ?_
      refine r_gR (pc := 50) h dX8_dug_50 fw_X8_60 rfl (fun r17 h => ?_)
      refine r_aload_n (pc := 53) dX8_dug_53 rfl rfl ?_
      refine r_gR (pc := 54) h dX8_dug_54 fw_X8_16 rfl (fun r18 h => ?_)
      refine r_iload_n (pc := 57) dX8_dug_57 rfl rfl ?_
      refine r_iload (pc := 58) dX8_dug_58 rfl ?_
      refine r_iload (pc := 60) dX8_dug_60 rfl ?_
      refine r_bipush (pc := 62) dX8_dug_62 ⟨by decide, by decide⟩ ?_
      refine r_iload (pc := 64) dX8_dug_64 rfl ?_
      obtain ⟨a19, ea19, g⟩ := e_nn_some h
      clear h
      subst ea19
      have h := g
      clear g
      refine r_callV (pc := 66) (fun v => some (sj_i v)) (As := [sj_r r18, sj_i x3, sj_i x4, sj_i x5, sj_i 8, sj_i x6]) (rest := []) h dX8_dug_66 mw_X8_373 vw_X3_seek (fun _ _ hc => c_X3_seek hc) rfl ⟨(Nat.le_of_ble_eq_true rfl), (Nat.le_of_ble_eq_true rfl)⟩ (Nat.le_of_ble_eq_true rfl) rfl (fun v21 s20 h => ?_)
      refine r_if_eq (pc := 69) (tgt := 82) h dX8_dug_69 (by decide) (fun h => ?_) (fun h => ?_)
      · refine r_iconst (pc := 82) dX8_dug_82 ?_
        exact r_iret (pc := 83) h rfl dX8_dug_83
      · refine r_aload_n (pc := 72) dX8_dug_72 rfl rfl ?_
        refine r_gR (pc := 73) h dX8_dug_73 fw_X8_60 rfl (fun r22 h => ?_)
        obtain ⟨a23, ea23, g⟩ := e_nn_some h
        clear h
        subst ea23
        have h := g
        clear g
        refine r_gI (pc := 76) h dX8_dug_76 fw_X8_377 rfl (fun v24 h => ?_)
        refine r_goto (pc := 79) (tgt := 83) dX8_dug_79 (by decide) ?_
        exact r_iret (pc := 83) h rfl dX8_dug_83
set_option maxHeartbeats 4000000 in
theorem c_X8_dug {X : sj_X} {N : Nat} {a0 : Nat} {x1 : Int} {x2 : Int} {x3 : Int} {x4 : Int} {x5 : Int} {x6 : Int} {s : sj_Mem} {q : Int × sj_Mem} (h : f_X8_dug N a0 x1 x2 x3 x4 x5 x6 s = some q) : sj_C X m_X8_dug [sj_r (some a0), sj_i x1, sj_i x2, sj_i x3, sj_i x4, sj_i x5, sj_i x6] s (some (sj_i q.1), q.2) :=
  sj_C_of (by decide +kernel) (Nat.le_of_ble_eq_true rfl) (lo := [some (sj_r (some a0)), some (sj_i x1), some (sj_i x2), some (sj_i x3), some (sj_i x4), some (sj_i x5), some (sj_i x6)]) rfl (sj_weak (l2 := [some (sj_r (some a0)), some (sj_i x1), some (sj_i x2), some (sj_i x3), some (sj_i x4), some (sj_i x5), some (sj_i x6)]) (⟨rfl, ⟨rfl, ⟨rfl, ⟨rfl, ⟨rfl, ⟨rfl, ⟨rfl, trivial⟩⟩⟩⟩⟩⟩⟩) (t_X8_dug_0 a0 x1 x2 x3 x4 x5 x6 s h))
theorem dX8_deep_0 : decode cX8_deep 0 = .ok (.iload_n 3, 1) := by decide +kernel
theorem dX8_deep_1 : decode cX8_deep 1 = .ok (.iload 4, 2) := by decide +kernel
theorem dX8_deep_3 : decode cX8_deep 3 = .ok (.iload 5, 2) := by decide +kernel
theorem dX8_deep_5 : decode cX8_deep 5 = .ok (.invokestatic 158, 3) := by decide +kernel
theorem dX8_deep_8 : decode cX8_deep 8 = .ok (.ifCond .eq 21, 3) := by decide +kernel
theorem dX8_deep_11 : decode cX8_deep 11 = .ok (.iload_n 2, 1) := by decide +kernel
theorem dX8_deep_12 : decode cX8_deep 12 = .ok (.invokestatic 292, 3) := by decide +kernel
theorem dX8_deep_15 : decode cX8_deep 15 = .ok (.ifCond .eq 14, 3) := by decide +kernel
theorem dX8_deep_18 : decode cX8_deep 18 = .ok (.aload_n 0, 1) := by decide +kernel
theorem dX8_deep_19 : decode cX8_deep 19 = .ok (.getfield 12, 3) := by decide +kernel
theorem dX8_deep_22 : decode cX8_deep 22 = .ok (.iload_n 1, 1) := by decide +kernel
theorem dX8_deep_23 : decode cX8_deep 23 = .ok (.invokevirtual 78, 3) := by decide +kernel
theorem dX8_deep_26 : decode cX8_deep 26 = .ok (.ifCond .ne 5, 3) := by decide +kernel
theorem dX8_deep_29 : decode cX8_deep 29 = .ok (.iconst (-1), 1) := by decide +kernel
theorem dX8_deep_30 : decode cX8_deep 30 = .ok (.ireturn, 1) := by decide +kernel
theorem dX8_deep_31 : decode cX8_deep 31 = .ok (.iconst 5, 1) := by decide +kernel
theorem dX8_deep_32 : decode cX8_deep 32 = .ok (.aload_n 0, 1) := by decide +kernel
theorem dX8_deep_33 : decode cX8_deep 33 = .ok (.getfield 12, 3) := by decide +kernel
theorem dX8_deep_36 : decode cX8_deep 36 = .ok (.getfield 100, 3) := by decide +kernel
theorem dX8_deep_39 : decode cX8_deep 39 = .ok (.iload_n 1, 1) := by decide +kernel
theorem dX8_deep_40 : decode cX8_deep 40 = .ok (.iaload, 1) := by decide +kernel
theorem dX8_deep_41 : decode cX8_deep 41 = .ok (.aload_n 0, 1) := by decide +kernel
theorem dX8_deep_42 : decode cX8_deep 42 = .ok (.getfield 12, 3) := by decide +kernel
theorem dX8_deep_45 : decode cX8_deep 45 = .ok (.getfield 103, 3) := by decide +kernel
theorem dX8_deep_48 : decode cX8_deep 48 = .ok (.iload_n 1, 1) := by decide +kernel
theorem dX8_deep_49 : decode cX8_deep 49 = .ok (.iaload, 1) := by decide +kernel
theorem dX8_deep_50 : decode cX8_deep 50 = .ok (.isub, 1) := by decide +kernel
theorem dX8_deep_51 : decode cX8_deep 51 = .ok (.invokestatic 392, 3) := by decide +kernel
theorem dX8_deep_54 : decode cX8_deep 54 = .ok (.istore 7, 2) := by decide +kernel
theorem dX8_deep_56 : decode cX8_deep 56 = .ok (.aload_n 0, 1) := by decide +kernel
theorem dX8_deep_57 : decode cX8_deep 57 = .ok (.getfield 16, 3) := by decide +kernel
theorem dX8_deep_60 : decode cX8_deep 60 = .ok (.aload_n 0, 1) := by decide +kernel
theorem dX8_deep_61 : decode cX8_deep 61 = .ok (.getfield 12, 3) := by decide +kernel
theorem dX8_deep_64 : decode cX8_deep 64 = .ok (.invokevirtual 148, 3) := by decide +kernel
theorem dX8_deep_67 : decode cX8_deep 67 = .ok (.iconst (-1), 1) := by decide +kernel
theorem dX8_deep_68 : decode cX8_deep 68 = .ok (.istore 8, 2) := by decide +kernel
theorem dX8_deep_70 : decode cX8_deep 70 = .ok (.iconst 0, 1) := by decide +kernel
theorem dX8_deep_71 : decode cX8_deep 71 = .ok (.istore 9, 2) := by decide +kernel
theorem dX8_deep_73 : decode cX8_deep 73 = .ok (.iload 9, 2) := by decide +kernel
theorem dX8_deep_75 : decode cX8_deep 75 = .ok (.iload 7, 2) := by decide +kernel
theorem dX8_deep_77 : decode cX8_deep 77 = .ok (.if_icmp .gt 71, 3) := by decide +kernel
theorem dX8_deep_80 : decode cX8_deep 80 = .ok (.aload_n 0, 1) := by decide +kernel
theorem dX8_deep_81 : decode cX8_deep 81 = .ok (.getfield 16, 3) := by decide +kernel
theorem dX8_deep_84 : decode cX8_deep 84 = .ok (.getfield 100, 3) := by decide +kernel
theorem dX8_deep_87 : decode cX8_deep 87 = .ok (.iload_n 1, 1) := by decide +kernel
theorem dX8_deep_88 : decode cX8_deep 88 = .ok (.aload_n 0, 1) := by decide +kernel
theorem dX8_deep_89 : decode cX8_deep 89 = .ok (.getfield 12, 3) := by decide +kernel
theorem dX8_deep_92 : decode cX8_deep 92 = .ok (.getfield 100, 3) := by decide +kernel
theorem dX8_deep_95 : decode cX8_deep 95 = .ok (.iload_n 1, 1) := by decide +kernel
theorem dX8_deep_96 : decode cX8_deep 96 = .ok (.iaload, 1) := by decide +kernel
theorem dX8_deep_97 : decode cX8_deep 97 = .ok (.iload 9, 2) := by decide +kernel
theorem dX8_deep_99 : decode cX8_deep 99 = .ok (.isub, 1) := by decide +kernel
theorem dX8_deep_100 : decode cX8_deep 100 = .ok (.iastore, 1) := by decide +kernel
theorem dX8_deep_101 : decode cX8_deep 101 = .ok (.aload_n 0, 1) := by decide +kernel
theorem dX8_deep_102 : decode cX8_deep 102 = .ok (.getfield 60, 3) := by decide +kernel
theorem dX8_deep_105 : decode cX8_deep 105 = .ok (.aload_n 0, 1) := by decide +kernel
theorem dX8_deep_106 : decode cX8_deep 106 = .ok (.getfield 16, 3) := by decide +kernel
theorem dX8_deep_109 : decode cX8_deep 109 = .ok (.iload_n 3, 1) := by decide +kernel
theorem dX8_deep_110 : decode cX8_deep 110 = .ok (.iload 4, 2) := by decide +kernel
theorem dX8_deep_112 : decode cX8_deep 112 = .ok (.iload 5, 2) := by decide +kernel
theorem dX8_deep_114 : decode cX8_deep 114 = .ok (.bipush 8, 2) := by decide +kernel
theorem dX8_deep_116 : decode cX8_deep 116 = .ok (.iload 6, 2) := by decide +kernel
theorem dX8_deep_118 : decode cX8_deep 118 = .ok (.invokevirtual 373, 3) := by decide +kernel
theorem dX8_deep_121 : decode cX8_deep 121 = .ok (.ifCond .eq 17, 3) := by decide +kernel
theorem dX8_deep_124 : decode cX8_deep 124 = .ok (.aload_n 0, 1) := by decide +kernel
theorem dX8_deep_125 : decode cX8_deep 125 = .ok (.getfield 60, 3) := by decide +kernel
theorem dX8_deep_128 : decode cX8_deep 128 = .ok (.getfield 377, 3) := by decide +kernel
theorem dX8_deep_131 : decode cX8_deep 131 = .ok (.iload_n 2, 1) := by decide +kernel
theorem dX8_deep_132 : decode cX8_deep 132 = .ok (.if_icmp .ge 6, 3) := by decide +kernel
theorem dX8_deep_135 : decode cX8_deep 135 = .ok (.iload 8, 2) := by decide +kernel
theorem dX8_deep_137 : decode cX8_deep 137 = .ok (.ireturn, 1) := by decide +kernel
theorem dX8_deep_138 : decode cX8_deep 138 = .ok (.iload 9, 2) := by decide +kernel
theorem dX8_deep_140 : decode cX8_deep 140 = .ok (.istore 8, 2) := by decide +kernel
theorem dX8_deep_142 : decode cX8_deep 142 = .ok (.iinc 9 1, 3) := by decide +kernel
theorem dX8_deep_145 : decode cX8_deep 145 = .ok (.goto (-72), 3) := by decide +kernel
theorem dX8_deep_148 : decode cX8_deep 148 = .ok (.iload 8, 2) := by decide +kernel
theorem dX8_deep_150 : decode cX8_deep 150 = .ok (.ireturn, 1) := by decide +kernel
set_option maxHeartbeats 4000000 in
theorem t_X8_deep_138 {X : sj_X} {s0 : sj_Mem} {N : Nat} {q : Int × sj_Mem} {k73 : Nat → Int → Int → Int → Int → Int → Int → Int → Int → Int → sj_Mem → Option (Int × sj_Mem)} (hk73 : ∀ (a0 : Nat) (x1 : Int) (x2 : Int) (x3 : Int) (x4 : Int) (x5 : Int) (x6 : Int) (x7 : Int) (x8 : Int) (x9 : Int) (s : sj_Mem), k73 a0 x1 x2 x3 x4 x5 x6 x7 x8 x9 s = some q → sj_T X m_X8_deep s0 (some (sj_i q.1), q.2) 73 [some (sj_r (some a0)), some (sj_i x1), some (sj_i x2), some (sj_i x3), some (sj_i x4), some (sj_i x5), some (sj_i x6), some (sj_i x7), some (sj_i x8), some (sj_i x9)] [] s) :
    ∀ (a0 : Nat) (x1 : Int) (x2 : Int) (x3 : Int) (x4 : Int) (x5 : Int) (x6 : Int) (x7 : Int) (x9 : Int) (s : sj_Mem), f_X8_deep_138 N k73 a0 x1 x2 x3 x4 x5 x6 x7 x9 s = some q → sj_T X m_X8_deep s0 (some (sj_i q.1), q.2) 138 [some (sj_r (some a0)), some (sj_i x1), some (sj_i x2), some (sj_i x3), some (sj_i x4), some (sj_i x5), some (sj_i x6), some (sj_i x7), none, some (sj_i x9)] [] s := by
  intro a0 x1 x2 x3 x4 x5 x6 x7 x9 s h
  unfold f_X8_deep_138 at h
  refine r_iload (pc := 138) dX8_deep_138 rfl ?_
  refine r_istore (ln := [some (sj_r (some a0)), some (sj_i x1), some (sj_i x2), some (sj_i x3), some (sj_i x4), some (sj_i x5), some (sj_i x6), some (sj_i x7), some (sj_i x9), some (sj_i x9)]) (pc := 140) dX8_deep_140 (Nat.le_of_ble_eq_true rfl) rfl ?_
  refine r_iinc (ln := fun w => [some (sj_r (some a0)), some (sj_i x1), some (sj_i x2), some (sj_i x3), some (sj_i x4), some (sj_i x5), some (sj_i x6), some (sj_i x7), some (sj_i x9), some (sj_i w)]) (pc := 142) h dX8_deep_142 rfl (Nat.le_of_ble_eq_true rfl) (fun _ => rfl) (fun v1 h => ?_)
  refine r_goto (pc := 145) (tgt := 73) dX8_deep_145 (by decide) ?_
  exact sj_weak (l2 := [some (sj_r (some a0)), some (sj_i x1), some (sj_i x2), some (sj_i x3), some (sj_i x4), some (sj_i x5), some (sj_i x6), some (sj_i x7), some (sj_i x9), some (sj_i v1)]) (⟨rfl, ⟨rfl, ⟨rfl, ⟨rfl, ⟨rfl, ⟨rfl, ⟨rfl, ⟨rfl, ⟨rfl, ⟨rfl, trivial⟩⟩⟩⟩⟩⟩⟩⟩⟩⟩) (hk73 a0 x1 x2 x3 x4 x5 x6 x7 x9 v1 s h)
set_option maxHeartbeats 4000000 in
theorem t_X8_deep_73_b {X : sj_X} {s0 : sj_Mem} {N : Nat} {q : Int × sj_Mem} {k73 : Nat → Int → Int → Int → Int → Int → Int → Int → Int → Int → sj_Mem → Option (Int × sj_Mem)} (hk73 : ∀ (a0 : Nat) (x1 : Int) (x2 : Int) (x3 : Int) (x4 : Int) (x5 : Int) (x6 : Int) (x7 : Int) (x8 : Int) (x9 : Int) (s : sj_Mem), k73 a0 x1 x2 x3 x4 x5 x6 x7 x8 x9 s = some q → sj_T X m_X8_deep s0 (some (sj_i q.1), q.2) 73 [some (sj_r (some a0)), some (sj_i x1), some (sj_i x2), some (sj_i x3), some (sj_i x4), some (sj_i x5), some (sj_i x6), some (sj_i x7), some (sj_i x8), some (sj_i x9)] [] s) :
    ∀ (a0 : Nat) (x1 : Int) (x2 : Int) (x3 : Int) (x4 : Int) (x5 : Int) (x6 : Int) (x7 : Int) (x8 : Int) (x9 : Int) (s : sj_Mem), f_X8_deep_73_b N k73 a0 x1 x2 x3 x4 x5 x6 x7 x8 x9 s = some q → sj_T X m_X8_deep s0 (some (sj_i q.1), q.2) 73 [some (sj_r (some a0)), some (sj_i x1), some (sj_i x2), some (sj_i x3), some (sj_i x4), some (sj_i x5), some (sj_i x6), some (sj_i x7), some (sj_i x8), some (sj_i x9)] [] s := by
  intro a0 x1 x2 x3 x4 x5 x6 x7 x8 x9 s h
  unfold f_X8_deep_73_b at h
  refine r_iload (pc := 73) dX8_deep_73 rfl ?_
  refine r_iload (pc := 75) dX8_deep_75 rfl ?_
  refine r_icmp_gt (pc := 77) (tgt := 148) h dX8_deep_77 (by decide) (fun h => ?_) (fun h => ?_)
  · refine r_iload (pc := 148) dX8_deep_148 rfl ?_
    exact r_iret (pc := 150) h rfl dX8_deep_150
  · refine r_aload_n (pc := 80) dX8_deep_80 rfl rfl ?_
    refine r_gR (pc := 81) h dX8_deep_81 fw_X8_16 rfl (fun r1 h => ?_)
    obtain ⟨a2, ea2, g⟩ := e_nn_some h
    clear h
    subst ea2
    have h := g
    clear g
    refine r_gR (pc := 84) h dX8_deep_84 fw_X8_100 rfl (fun r3 h => ?_)
    refine r_iload_n (pc := 87) dX8_deep_87 rfl rfl ?_
    refine r_aload_n (pc := 88) dX8_deep_88 rfl rfl ?_
    refine r_gR (pc := 89) h dX8_deep_89 fw_X8_12 rfl (fun r4 h => ?_)
    obtain ⟨a5, ea5, g⟩ := e_nn_some h
    clear h
    subst ea5
    have h := g
    clear g
    refine r_gR (pc := 92) h dX8_deep_92 fw_X8_100 rfl (fun r6 h => ?_)
    refine r_iload_n (pc := 95) dX8_deep_95 rfl rfl ?_
    obtain ⟨a7, ea7, g⟩ := e_nn_some h
    clear h
    subst ea7
    have h := g
    clear g
    refine r_iaload (pc := 96) h dX8_deep_96 (fun v8 h => ?_)
    refine r_iload (pc := 97) dX8_deep_97 rfl ?_
    refine r_isub (pc := 99) dX8_deep_99 ?_
    obtain ⟨a9, ea9, g⟩ := e_nn_some h
    clear h
    subst ea9
    have h := g
    clear g
    refine r_iastore (pc := 100) h dX8_deep_100 (fun s10 h => ?_)
    refine r_aload_n (pc := 101) dX8_deep_101 rfl rfl ?_
    refine r_gR (pc := 102) h dX8_deep_102 fw_X8_60 rfl (fun r11 h => ?_)
    refine r_aload_n (pc := 105) dX8_deep_105 rfl rfl ?_
    refine r_gR (pc := 106) h dX8_deep_106 fw_X8_16 rfl (fun r12 h => ?_)
    refine r_iload_n (pc := 109) dX8_deep_109 rfl rfl ?_
    refine r_iload (pc := 110) dX8_deep_110 rfl ?_
    refine r_iload (pc := 112) dX8_deep_112 rfl ?_
    refine r_bipush (pc := 114) dX8_deep_114 ⟨by decide, by decide⟩ ?_
    refine r_iload (pc := 116) dX8_deep_116 rfl ?_
    obtain ⟨a13, ea13, g⟩ := e_nn_some h
    clear h
    subst ea13
    have h := g
    clear g
    refine r_callV (pc := 118) (fun v => some (sj_i v)) (As := [sj_r r12, sj_i x3, sj_i x4, sj_i x5, sj_i 8, sj_i x6]) (rest := []) h dX8_deep_118 mw_X8_373 vw_X3_seek (fun _ _ hc => c_X3_seek hc) rfl ⟨(Nat.le_of_ble_eq_true rfl), (Nat.le_of_ble_eq_true rfl)⟩ (Nat.le_of_ble_eq_true rfl) rfl (fun v15 s14 h => ?_)
    refine r_if_eq (pc := 121) (tgt := 138) h dX8_deep_121 (by decide) (fun h => ?_) (fun h => ?_)
    · exact sj_weak (l2 := [some (sj_r (some a0)), some (sj_i x1), some (sj_i x2), some (sj_i x3), some (sj_i x4), some (sj_i x5), some (sj_i x6), some (sj_i x7), none, some (sj_i x9)]) (⟨rfl, ⟨rfl, ⟨rfl, ⟨rfl, ⟨rfl, ⟨rfl, ⟨rfl, ⟨rfl, ⟨rfl, trivial⟩⟩⟩⟩⟩⟩⟩⟩⟩) (t_X8_deep_138 hk73 a0 x1 x2 x3 x4 x5 x6 x7 x9 s14 h)
    · refine r_aload_n (pc := 124) dX8_deep_124 rfl rfl ?_
      refine r_gR (pc := 125) h dX8_deep_125 fw_X8_60 rfl (fun r16 h => ?_)
      obtain ⟨a17, ea17, g⟩ := e_nn_some h
      clear h
      subst ea17
      have h := g
      clear g
      refine r_gI (pc := 128) h dX8_deep_128 fw_X8_377 rfl (fun v18 h => ?_)
      refine r_iload_n (pc := 131) dX8_deep_131 rfl rfl ?_
      refine r_icmp_ge (pc := 132) (tgt := 138) h dX8_deep_132 (by decide) (fun h => ?_) (fun h => ?_)
      · exact sj_weak (l2 := [some (sj_r (some a0)), some (sj_i x1), some (sj_i x2), some (sj_i x3), some (sj_i x4), some (sj_i x5), some (sj_i x6), some (sj_i x7), none, some (sj_i x9)]) (⟨rfl, ⟨rfl, ⟨rfl, ⟨rfl, ⟨rfl, ⟨rfl, ⟨rfl, ⟨rfl, ⟨rfl, trivial⟩⟩⟩⟩⟩⟩⟩⟩⟩) (t_X8_deep_138 hk73 a0 x1 x2 x3 x4 x5 x6 x7 x9 s14 h)
      · refine r_iload (pc := 135) dX8_deep_135 rfl ?_
        exact r_iret (pc := 137) h rfl dX8_deep_137
set_option maxHeartbeats 4000000 in
theorem t_X8_deep_73 {X : sj_X} {s0 : sj_Mem} {N : Nat} {q : Int × sj_Mem} :
    ∀ (n : Nat) (a0 : Nat) (x1 : Int) (x2 : Int) (x3 : Int) (x4 : Int) (x5 : Int) (x6 : Int) (x7 : Int) (x8 : Int) (x9 : Int) (s : sj_Mem), f_X8_deep_73 N n a0 x1 x2 x3 x4 x5 x6 x7 x8 x9 s = some q → sj_T X m_X8_deep s0 (some (sj_i q.1), q.2) 73 [some (sj_r (some a0)), some (sj_i x1), some (sj_i x2), some (sj_i x3), some (sj_i x4), some (sj_i x5), some (sj_i x6), some (sj_i x7), some (sj_i x8), some (sj_i x9)] [] s := by
  intro n
  induction n with
  | zero => intro a0 x1 x2 x3 x4 x5 x6 x7 x8 x9 s h; exact nomatch h
  | succ n ih => intro a0 x1 x2 x3 x4 x5 x6 x7 x8 x9 s h; exact t_X8_deep_73_b (N := N) ih a0 x1 x2 x3 x4 x5 x6 x7 x8 x9 s h
set_option maxHeartbeats 4000000 in
theorem t_X8_deep_0 {X : sj_X} {s0 : sj_Mem} {N : Nat} {q : Int × sj_Mem} :
    ∀ (a0 : Nat) (x1 : Int) (x2 : Int) (x3 : Int) (x4 : Int) (x5 : Int) (x6 : Int) (s : sj_Mem), f_X8_deep N a0 x1 x2 x3 x4 x5 x6 s = some q → sj_T X m_X8_deep s0 (some (sj_i q.1), q.2) 0 [some (sj_r (some a0)), some (sj_i x1), some (sj_i x2), some (sj_i x3), some (sj_i x4), some (sj_i x5), some (sj_i x6), none, none, none] [] s := by
  intro a0 x1 x2 x3 x4 x5 x6 s h
  unfold f_X8_deep at h
  refine r_iload_n (pc := 0) dX8_deep_0 rfl rfl ?_
  refine r_iload (pc := 1) dX8_deep_1 rfl ?_
  refine r_iload (pc := 3) dX8_deep_3 rfl ?_
  refine r_callS (pc := 5) (fun v => some (sj_i v)) (As := [sj_i x3, sj_i x4, sj_i x5]) (rest := []) h dX8_deep_5 mw_X8_158 kw_600 (fun _ _ hc => c_X8_isCircle hc) rfl ⟨(Nat.le_of_ble_eq_true rfl), (Nat.le_of_ble_eq_true rfl)⟩ (Nat.le_of_ble_eq_true rfl) rfl (fun v2 s1 h => ?_)
  refine r_if_eq (pc := 8) (tgt := 29) h dX8_deep_8 (by decide) (fun h => ?_) (fun h => ?_)
  · refine r_iconst (pc := 29) dX8_deep_29 ?_
    exact r_iret (pc := 30) h rfl dX8_deep_30
  · refine r_iload_n (pc := 11) dX8_deep_11 rfl rfl ?_
    refine r_callS (pc := 12) (fun v => some (sj_i v)) (As := [sj_i x2]) (rest := []) h dX8_deep_12 mw_X8_292 kw_879 (fun _ _ hc => c_X8_isK hc) rfl ⟨(Nat.le_of_ble_eq_true rfl), (Nat.le_of_ble_eq_true rfl)⟩ (Nat.le_of_ble_eq_true rfl) rfl (fun v4 s3 h => ?_)
    refine r_if_eq (pc := 15) (tgt := 29) h dX8_deep_15 (by decide) (fun h => ?_) (fun h => ?_)
    · refine r_iconst (pc := 29) dX8_deep_29 ?_
      exact r_iret (pc := 30) h rfl dX8_deep_30
    · refine r_aload_n (pc := 18) dX8_deep_18 rfl rfl ?_
      refine r_gR (pc := 19) h dX8_deep_19 fw_X8_12 rfl (fun r5 h => ?_)
      refine r_iload_n (pc := 22) dX8_deep_22 rfl rfl ?_
      obtain ⟨a6, ea6, g⟩ := e_nn_some h
      clear h
      subst ea6
      have h := g
      clear g
      refine r_callV (pc := 23) (fun v => some (sj_i v)) (As := [sj_i x1]) (rest := []) h dX8_deep_23 mw_X8_78 vw_X0_hasColumn (fun _ _ hc => c_X0_hasColumn hc) rfl ⟨(Nat.le_of_ble_eq_true rfl), (Nat.le_of_ble_eq_true rfl)⟩ (Nat.le_of_ble_eq_true rfl) rfl (fun v8 s7 h => ?_)
      refine r_if_ne (pc := 26) (tgt := 31) h dX8_deep_26 (by decide) (fun h => ?_) (fun h => ?_)
      · refine r_iconst (pc := 29) dX8_deep_29 ?_
        exact r_iret (pc := 30) h rfl dX8_deep_30
      · refine r_iconst (pc := 31) dX8_deep_31 ?_
        refine r_aload_n (pc := 32) dX8_deep_32 rfl rfl ?_
        refine r_gR (pc := 33) h dX8_deep_33 fw_X8_12 rfl (fun r9 h => ?_)
        obtain ⟨a10, ea10, g⟩ := e_nn_some h
        clear h
        subst ea10
        have h := g
        clear g
        refine r_gR (pc := 36) h dX8_deep_36 fw_X8_100 rfl (fun r11 h => ?_)
        refine r_iload_n (pc := 39) dX8_deep_39 rfl rfl ?_
        obtain ⟨a12, ea12, g⟩ := e_nn_some h
        clear h
        subst ea12
        have h := g
        clear g
        refine r_iaload (pc := 40) h dX8_deep_40 (fun v13 h => ?_)
        refine r_aload_n (pc := 41) dX8_deep_41 rfl rfl ?_
        refine r_gR (pc := 42) h dX8_deep_42 fw_X8_12 rfl (fun r14 h => ?_)
        obtain ⟨a15, ea15, g⟩ := e_nn_some h
        clear h
        subst ea15
        have h := g
        clear g
        refine r_gR (pc := 45) h dX8_deep_45 fw_X8_103 rfl (fun r16 h => ?_)
        refine r_iload_n (pc := 48) dX8_deep_48 rfl rfl ?_
        obtain ⟨a17, ea17, g⟩ := e_nn_some h
        clear h
        subst ea17
        have h := g
        clear g
        refine r_iaload (pc := 49) h dX8_deep_49 (fun v18 h => ?_)
        refine r_isub (pc := 50) dX8_deep_50 ?_
        refine r_mmin (pc := 51) h dX8_deep_51 mx_X8_392 (Nat.le_of_ble_eq_true rfl) (Nat.le_of_ble_eq_true rfl) (fun v19 h => ?_)
        refine r_istore (ln := [some (sj_r (some a0)), some (sj_i x1), some (sj_i x2), some (sj_i x3), some (sj_i x4), some (sj_i x5), some (sj_i x6), some (sj_i v19), none, none]) (pc := 54) dX8_deep_54 (Nat.le_of_ble_eq_true rfl) rfl ?_
        refine r_aload_n (pc := 56) dX8_deep_56 rfl rfl ?_
        refine r_gR (pc := 57) h dX8_deep_57 fw_X8_16 rfl (fun r20 h => ?_)
        refine r_aload_n (pc := 60) dX8_deep_60 rfl rfl ?_
        refine r_gR (pc := 61) h dX8_deep_61 fw_X8_12 rfl (fun r21 h => ?_)
        obtain ⟨a22, ea22, g⟩ := e_nn_some h
        clear h
        subst ea22
        have h := g
        clear g
        refine r_callV (pc := 64) (fun _ => none) (As := [sj_r r21]) (rest := []) h dX8_deep_64 mw_X8_148 vw_X0_copy (fun _ _ hc => c_X0_copy hc) rfl ⟨(Nat.le_of_ble_eq_true rfl), (Nat.le_of_ble_eq_true rfl)⟩ (Nat.le_of_ble_eq_true rfl) rfl (fun _u s23 h => ?_)
        refine r_iconst (pc := 67) dX8_deep_67 ?_
        refine r_istore (ln := [some (sj_r (some a0)), some (sj_i x1), some (sj_i x2), some (sj_i x3), some (sj_i x4), some (sj_i x5), some (sj_i x6), some (sj_i v19), some (sj_i ((-1))), none]) (pc := 68) dX8_deep_68 (Nat.le_of_ble_eq_true rfl) rfl ?_
        refine r_iconst (pc := 70) dX8_deep_70 ?_
        refine r_istore (ln := [some (sj_r (some a0)), some (sj_i x1), some (sj_i x2), some (sj_i x3), some (sj_i x4), some (sj_i x5), some (sj_i x6), some (sj_i v19), some (sj_i ((-1))), some (sj_i 0)]) (pc := 71) dX8_deep_71 (Nat.le_of_ble_eq_true rfl) rfl ?_
        exact sj_weak (l2 := [some (sj_r (some a0)), some (sj_i x1), some (sj_i x2), some (sj_i x3), some (sj_i x4), some (sj_i x5), some (sj_i x6), some (sj_i v19), some (sj_i ((-1))), some (sj_i 0)]) (⟨rfl, ⟨rfl, ⟨rfl, ⟨rfl, ⟨rfl, ⟨rfl, ⟨rfl, ⟨rfl, ⟨rfl, ⟨rfl, trivial⟩⟩⟩⟩⟩⟩⟩⟩⟩⟩) (t_X8_deep_73 N a0 x1 x2 x3 x4 x5 x6 v19 ((-1)) 0 s23 h)
set_option maxHeartbeats 4000000 in
theorem c_X8_deep {X : sj_X} {N : Nat} {a0 : Nat} {x1 : Int} {x2 : Int} {x3 : Int} {x4 : Int} {x5 : Int} {x6 : Int} {s : sj_Mem} {q : Int × sj_Mem} (h : f_X8_deep N a0 x1 x2 x3 x4 x5 x6 s = some q) : sj_C X m_X8_deep [sj_r (some a0), sj_i x1, sj_i x2, sj_i x3, sj_i x4, sj_i x5, sj_i x6] s (some (sj_i q.1), q.2) :=
  sj_C_of (by decide +kernel) (Nat.le_of_ble_eq_true rfl) (lo := [some (sj_r (some a0)), some (sj_i x1), some (sj_i x2), some (sj_i x3), some (sj_i x4), some (sj_i x5), some (sj_i x6), none, none, none]) rfl (sj_weak (l2 := [some (sj_r (some a0)), some (sj_i x1), some (sj_i x2), some (sj_i x3), some (sj_i x4), some (sj_i x5), some (sj_i x6), none, none, none]) (⟨rfl, ⟨rfl, ⟨rfl, ⟨rfl, ⟨rfl, ⟨rfl, ⟨rfl, trivial⟩⟩⟩⟩⟩⟩⟩) (t_X8_deep_0 a0 x1 x2 x3 x4 x5 x6 s h))
theorem dX8_scan_0 : decode cX8_scan 0 = .ok (.iload_n 1, 1) := by decide +kernel
theorem dX8_scan_1 : decode cX8_scan 1 = .ok (.iload_n 2, 1) := by decide +kernel
theorem dX8_scan_2 : decode cX8_scan 2 = .ok (.iload_n 3, 1) := by decide +kernel
theorem dX8_scan_3 : decode cX8_scan 3 = .ok (.invokestatic 158, 3) := by decide +kernel
theorem dX8_scan_6 : decode cX8_scan 6 = .ok (.ifCond .eq 35, 3) := by decide +kernel
theorem dX8_scan_9 : decode cX8_scan 9 = .ok (.iload 4, 2) := by decide +kernel
theorem dX8_scan_11 : decode cX8_scan 11 = .ok (.iconst 1, 1) := by decide +kernel
theorem dX8_scan_12 : decode cX8_scan 12 = .ok (.if_icmp .lt 29, 3) := by decide +kernel
theorem dX8_scan_15 : decode cX8_scan 15 = .ok (.iload 4, 2) := by decide +kernel
theorem dX8_scan_17 : decode cX8_scan 17 = .ok (.bipush 64, 2) := by decide +kernel
theorem dX8_scan_19 : decode cX8_scan 19 = .ok (.if_icmp .gt 22, 3) := by decide +kernel
theorem dX8_scan_22 : decode cX8_scan 22 = .ok (.iload 6, 2) := by decide +kernel
theorem dX8_scan_24 : decode cX8_scan 24 = .ok (.invokestatic 292, 3) := by decide +kernel
theorem dX8_scan_27 : decode cX8_scan 27 = .ok (.ifCond .eq 14, 3) := by decide +kernel
theorem dX8_scan_30 : decode cX8_scan 30 = .ok (.iload 7, 2) := by decide +kernel
theorem dX8_scan_32 : decode cX8_scan 32 = .ok (.ifCond .lt 9, 3) := by decide +kernel
theorem dX8_scan_35 : decode cX8_scan 35 = .ok (.iload 7, 2) := by decide +kernel
theorem dX8_scan_37 : decode cX8_scan 37 = .ok (.iconst 1, 1) := by decide +kernel
theorem dX8_scan_38 : decode cX8_scan 38 = .ok (.if_icmp .le 5, 3) := by decide +kernel
theorem dX8_scan_41 : decode cX8_scan 41 = .ok (.iconst (-1), 1) := by decide +kernel
theorem dX8_scan_42 : decode cX8_scan 42 = .ok (.ireturn, 1) := by decide +kernel
theorem dX8_scan_43 : decode cX8_scan 43 = .ok (.iconst 0, 1) := by decide +kernel
theorem dX8_scan_44 : decode cX8_scan 44 = .ok (.istore 8, 2) := by decide +kernel
theorem dX8_scan_46 : decode cX8_scan 46 = .ok (.iconst 0, 1) := by decide +kernel
theorem dX8_scan_47 : decode cX8_scan 47 = .ok (.istore 9, 2) := by decide +kernel
theorem dX8_scan_49 : decode cX8_scan 49 = .ok (.iconst 0, 1) := by decide +kernel
theorem dX8_scan_50 : decode cX8_scan 50 = .ok (.istore 10, 2) := by decide +kernel
theorem dX8_scan_52 : decode cX8_scan 52 = .ok (.iload 10, 2) := by decide +kernel
theorem dX8_scan_54 : decode cX8_scan 54 = .ok (.bipush 125, 2) := by decide +kernel
theorem dX8_scan_56 : decode cX8_scan 56 = .ok (.if_icmp .ge 90, 3) := by decide +kernel
theorem dX8_scan_59 : decode cX8_scan 59 = .ok (.aload_n 0, 1) := by decide +kernel
theorem dX8_scan_60 : decode cX8_scan 60 = .ok (.getfield 60, 3) := by decide +kernel
theorem dX8_scan_63 : decode cX8_scan 63 = .ok (.aload_n 0, 1) := by decide +kernel
theorem dX8_scan_64 : decode cX8_scan 64 = .ok (.getfield 12, 3) := by decide +kernel
theorem dX8_scan_67 : decode cX8_scan 67 = .ok (.iload_n 1, 1) := by decide +kernel
theorem dX8_scan_68 : decode cX8_scan 68 = .ok (.iload 10, 2) := by decide +kernel
theorem dX8_scan_70 : decode cX8_scan 70 = .ok (.bipush 25, 2) := by decide +kernel
theorem dX8_scan_72 : decode cX8_scan 72 = .ok (.idiv, 1) := by decide +kernel
theorem dX8_scan_73 : decode cX8_scan 73 = .ok (.iconst 2, 1) := by decide +kernel
theorem dX8_scan_74 : decode cX8_scan 74 = .ok (.isub, 1) := by decide +kernel
theorem dX8_scan_75 : decode cX8_scan 75 = .ok (.iload 4, 2) := by decide +kernel
theorem dX8_scan_77 : decode cX8_scan 77 = .ok (.imul, 1) := by decide +kernel
theorem dX8_scan_78 : decode cX8_scan 78 = .ok (.iadd, 1) := by decide +kernel
theorem dX8_scan_79 : decode cX8_scan 79 = .ok (.iload_n 2, 1) := by decide +kernel
theorem dX8_scan_80 : decode cX8_scan 80 = .ok (.iload 10, 2) := by decide +kernel
theorem dX8_scan_82 : decode cX8_scan 82 = .ok (.iconst 5, 1) := by decide +kernel
theorem dX8_scan_83 : decode cX8_scan 83 = .ok (.idiv, 1) := by decide +kernel
theorem dX8_scan_84 : decode cX8_scan 84 = .ok (.iconst 5, 1) := by decide +kernel
theorem dX8_scan_85 : decode cX8_scan 85 = .ok (.irem, 1) := by decide +kernel
theorem dX8_scan_86 : decode cX8_scan 86 = .ok (.iconst 2, 1) := by decide +kernel
theorem dX8_scan_87 : decode cX8_scan 87 = .ok (.isub, 1) := by decide +kernel
theorem dX8_scan_88 : decode cX8_scan 88 = .ok (.iload 4, 2) := by decide +kernel
theorem dX8_scan_90 : decode cX8_scan 90 = .ok (.imul, 1) := by decide +kernel
theorem dX8_scan_91 : decode cX8_scan 91 = .ok (.iadd, 1) := by decide +kernel
theorem dX8_scan_92 : decode cX8_scan 92 = .ok (.iload_n 3, 1) := by decide +kernel
theorem dX8_scan_93 : decode cX8_scan 93 = .ok (.iload 10, 2) := by decide +kernel
theorem dX8_scan_95 : decode cX8_scan 95 = .ok (.iconst 5, 1) := by decide +kernel
theorem dX8_scan_96 : decode cX8_scan 96 = .ok (.irem, 1) := by decide +kernel
theorem dX8_scan_97 : decode cX8_scan 97 = .ok (.iconst 2, 1) := by decide +kernel
theorem dX8_scan_98 : decode cX8_scan 98 = .ok (.isub, 1) := by decide +kernel
theorem dX8_scan_99 : decode cX8_scan 99 = .ok (.iload 4, 2) := by decide +kernel
theorem dX8_scan_101 : decode cX8_scan 101 = .ok (.imul, 1) := by decide +kernel
theorem dX8_scan_102 : decode cX8_scan 102 = .ok (.iadd, 1) := by decide +kernel
theorem dX8_scan_103 : decode cX8_scan 103 = .ok (.iload 5, 2) := by decide +kernel
theorem dX8_scan_105 : decode cX8_scan 105 = .ok (.iload 7, 2) := by decide +kernel
theorem dX8_scan_107 : decode cX8_scan 107 = .ok (.ifCond .ne 7, 3) := by decide +kernel
theorem dX8_scan_110 : decode cX8_scan 110 = .ok (.iconst 0, 1) := by decide +kernel
theorem dX8_scan_111 : decode cX8_scan 111 = .ok (.goto 5, 3) := by decide +kernel
theorem dX8_scan_114 : decode cX8_scan 114 = .ok (.iload 6, 2) := by decide +kernel
theorem dX8_scan_116 : decode cX8_scan 116 = .ok (.invokevirtual 369, 3) := by decide +kernel
theorem dX8_scan_119 : decode cX8_scan 119 = .ok (.istore 11, 2) := by decide +kernel
theorem dX8_scan_121 : decode cX8_scan 121 = .ok (.iload 11, 2) := by decide +kernel
theorem dX8_scan_123 : decode cX8_scan 123 = .ok (.iconst (-1), 1) := by decide +kernel
theorem dX8_scan_124 : decode cX8_scan 124 = .ok (.if_icmp .eq 16, 3) := by decide +kernel
theorem dX8_scan_127 : decode cX8_scan 127 = .ok (.iinc 8 1, 3) := by decide +kernel
theorem dX8_scan_130 : decode cX8_scan 130 = .ok (.iload 11, 2) := by decide +kernel
theorem dX8_scan_132 : decode cX8_scan 132 = .ok (.iload 6, 2) := by decide +kernel
theorem dX8_scan_134 : decode cX8_scan 134 = .ok (.if_icmp .ge 6, 3) := by decide +kernel
theorem dX8_scan_137 : decode cX8_scan 137 = .ok (.iinc 9 1, 3) := by decide +kernel
theorem dX8_scan_140 : decode cX8_scan 140 = .ok (.iinc 10 1, 3) := by decide +kernel
theorem dX8_scan_143 : decode cX8_scan 143 = .ok (.goto (-91), 3) := by decide +kernel
theorem dX8_scan_146 : decode cX8_scan 146 = .ok (.iload 7, 2) := by decide +kernel
theorem dX8_scan_148 : decode cX8_scan 148 = .ok (.ifCond .ne 8, 3) := by decide +kernel
theorem dX8_scan_151 : decode cX8_scan 151 = .ok (.iload 8, 2) := by decide +kernel
theorem dX8_scan_153 : decode cX8_scan 153 = .ok (.goto 5, 3) := by decide +kernel
theorem dX8_scan_156 : decode cX8_scan 156 = .ok (.iload 9, 2) := by decide +kernel
theorem dX8_scan_158 : decode cX8_scan 158 = .ok (.ireturn, 1) := by decide +kernel
set_option maxHeartbeats 4000000 in
theorem t_X8_scan_140 {X : sj_X} {s0 : sj_Mem} {N : Nat} {q : Int × sj_Mem} {k52 : Nat → Int → Int → Int → Int → Int → Int → Int → Int → Int → Int → sj_Mem → Option (Int × sj_Mem)} (hk52 : ∀ (a0 : Nat) (x1 : Int) (x2 : Int) (x3 : Int) (x4 : Int) (x5 : Int) (x6 : Int) (x7 : Int) (x8 : Int) (x9 : Int) (x10 : Int) (s : sj_Mem), k52 a0 x1 x2 x3 x4 x5 x6 x7 x8 x9 x10 s = some q → sj_T X m_X8_scan s0 (some (sj_i q.1), q.2) 52 [some (sj_r (some a0)), some (sj_i x1), some (sj_i x2), some (sj_i x3), some (sj_i x4), some (sj_i x5), some (sj_i x6), some (sj_i x7), some (sj_i x8), some (sj_i x9), some (sj_i x10), none] [] s) :
    ∀ (a0 : Nat) (x1 : Int) (x2 : Int) (x3 : Int) (x4 : Int) (x5 : Int) (x6 : Int) (x7 : Int) (x8 : Int) (x9 : Int) (x10 : Int) (s : sj_Mem), f_X8_scan_140 N k52 a0 x1 x2 x3 x4 x5 x6 x7 x8 x9 x10 s = some q → sj_T X m_X8_scan s0 (some (sj_i q.1), q.2) 140 [some (sj_r (some a0)), some (sj_i x1), some (sj_i x2), some (sj_i x3), some (sj_i x4), some (sj_i x5), some (sj_i x6), some (sj_i x7), some (sj_i x8), some (sj_i x9), some (sj_i x10), none] [] s := by
  intro a0 x1 x2 x3 x4 x5 x6 x7 x8 x9 x10 s h
  unfold f_X8_scan_140 at h
  refine r_iinc (ln := fun w => [some (sj_r (some a0)), some (sj_i x1), some (sj_i x2), some (sj_i x3), some (sj_i x4), some (sj_i x5), some (sj_i x6), some (sj_i x7), some (sj_i x8), some (sj_i x9), some (sj_i w), none]) (pc := 140) h dX8_scan_140 rfl (Nat.le_of_ble_eq_true rfl) (fun _ => rfl) (fun v1 h => ?_)
  refine r_goto (pc := 143) (tgt := 52) dX8_scan_143 (by decide) ?_
  exact sj_weak (l2 := [some (sj_r (some a0)), some (sj_i x1), some (sj_i x2), some (sj_i x3), some (sj_i x4), some (sj_i x5), some (sj_i x6), some (sj_i x7), some (sj_i x8), some (sj_i x9), some (sj_i v1), none]) (⟨rfl, ⟨rfl, ⟨rfl, ⟨rfl, ⟨rfl, ⟨rfl, ⟨rfl, ⟨rfl, ⟨rfl, ⟨rfl, ⟨rfl, trivial⟩⟩⟩⟩⟩⟩⟩⟩⟩⟩⟩) (hk52 a0 x1 x2 x3 x4 x5 x6 x7 x8 x9 v1 s h)
set_option maxHeartbeats 4000000 in
theorem t_X8_scan_116 {X : sj_X} {s0 : sj_Mem} {N : Nat} {q : Int × sj_Mem} {k52 : Nat → Int → Int → Int → Int → Int → Int → Int → Int → Int → Int → sj_Mem → Option (Int × sj_Mem)} (hk52 : ∀ (a0 : Nat) (x1 : Int) (x2 : Int) (x3 : Int) (x4 : Int) (x5 : Int) (x6 : Int) (x7 : Int) (x8 : Int) (x9 : Int) (x10 : Int) (s : sj_Mem), k52 a0 x1 x2 x3 x4 x5 x6 x7 x8 x9 x10 s = some q → sj_T X m_X8_scan s0 (some (sj_i q.1), q.2) 52 [some (sj_r (some a0)), some (sj_i x1), some (sj_i x2), some (sj_i x3), some (sj_i x4), some (sj_i x5), some (sj_i x6), some (sj_i x7), some (sj_i x8), some (sj_i x9), some (sj_i x10), none] [] s) :
    ∀ (a0 : Nat) (x1 : Int) (x2 : Int) (x3 : Int) (x4 : Int) (x5 : Int) (x6 : Int) (x7 : Int) (x8 : Int) (x9 : Int) (x10 : Int) (y0 : Int) (y1 : Int) (y2 : Int) (y3 : Int) (y4 : Int) (y5 : Option Nat) (y6 : Option Nat) (s : sj_Mem), f_X8_scan_116 N k52 a0 x1 x2 x3 x4 x5 x6 x7 x8 x9 x10 y0 y1 y2 y3 y4 y5 y6 s = some q → sj_T X m_X8_scan s0 (some (sj_i q.1), q.2) 116 [some (sj_r (some a0)), some (sj_i x1), some (sj_i x2), some (sj_i x3), some (sj_i x4), some (sj_i x5), some (sj_i x6), some (sj_i x7), some (sj_i x8), some (sj_i x9), some (sj_i x10), none] [(sj_i y0), (sj_i y1), (sj_i y2), (sj_i y3), (sj_i y4), (sj_r y5), (sj_r y6)] s := by
  intro a0 x1 x2 x3 x4 x5 x6 x7 x8 x9 x10 y0 y1 y2 y3 y4 y5 y6 s h
  unfold f_X8_scan_116 at h
  obtain ⟨a1, ea1, g⟩ := e_nn_some h
  clear h
  subst ea1
  have h := g
  clear g
  refine r_callV (pc := 116) (fun v => some (sj_i v)) (As := [sj_r y5, sj_i y4, sj_i y3, sj_i y2, sj_i y1, sj_i y0]) (rest := []) h dX8_scan_116 mw_X8_369 vw_X3_ask (fun _ _ hc => c_X3_ask hc) rfl ⟨(Nat.le_of_ble_eq_true rfl), (Nat.le_of_ble_eq_true rfl)⟩ (Nat.le_of_ble_eq_true rfl) rfl (fun v3 s2 h => ?_)
  refine r_istore (ln := [some (sj_r (some a0)), some (sj_i x1), some (sj_i x2), some (sj_i x3), some (sj_i x4), some (sj_i x5), some (sj_i x6), some (sj_i x7), some (sj_i x8), some (sj_i x9), some (sj_i x10), some (sj_i v3)]) (pc := 119) dX8_scan_119 (Nat.le_of_ble_eq_true rfl) rfl ?_
  refine r_iload (pc := 121) dX8_scan_121 rfl ?_
  refine r_iconst (pc := 123) dX8_scan_123 ?_
  refine r_icmp_eq (pc := 124) (tgt := 140) h dX8_scan_124 (by decide) (fun h => ?_) (fun h => ?_)
  · exact sj_weak (l2 := [some (sj_r (some a0)), some (sj_i x1), some (sj_i x2), some (sj_i x3), some (sj_i x4), some (sj_i x5), some (sj_i x6), some (sj_i x7), some (sj_i x8), some (sj_i x9), some (sj_i x10), none]) (⟨rfl, ⟨rfl, ⟨rfl, ⟨rfl, ⟨rfl, ⟨rfl, ⟨rfl, ⟨rfl, ⟨rfl, ⟨rfl, ⟨rfl, trivial⟩⟩⟩⟩⟩⟩⟩⟩⟩⟩⟩) (t_X8_scan_140 hk52 a0 x1 x2 x3 x4 x5 x6 x7 x8 x9 x10 s2 h)
  · refine r_iinc (ln := fun w => [some (sj_r (some a0)), some (sj_i x1), some (sj_i x2), some (sj_i x3), some (sj_i x4), some (sj_i x5), some (sj_i x6), some (sj_i x7), some (sj_i w), some (sj_i x9), some (sj_i x10), some (sj_i v3)]) (pc := 127) h dX8_scan_127 rfl (Nat.le_of_ble_eq_true rfl) (fun _ => rfl) (fun v4 h => ?_)
    refine r_iload (pc := 130) dX8_scan_130 rfl ?_
    refine r_iload (pc := 132) dX8_scan_132 rfl ?_
    refine r_icmp_ge (pc := 134) (tgt := 140) h dX8_scan_134 (by decide) (fun h => ?_) (fun h => ?_)
    · exact sj_weak (l2 := [some (sj_r (some a0)), some (sj_i x1), some (sj_i x2), some (sj_i x3), some (sj_i x4), some (sj_i x5), some (sj_i x6), some (sj_i x7), some (sj_i v4), some (sj_i x9), some (sj_i x10), none]) (⟨rfl, ⟨rfl, ⟨rfl, ⟨rfl, ⟨rfl, ⟨rfl, ⟨rfl, ⟨rfl, ⟨rfl, ⟨rfl, ⟨rfl, trivial⟩⟩⟩⟩⟩⟩⟩⟩⟩⟩⟩) (t_X8_scan_140 hk52 a0 x1 x2 x3 x4 x5 x6 x7 v4 x9 x10 s2 h)
    · refine r_iinc (ln := fun w => [some (sj_r (some a0)), some (sj_i x1), some (sj_i x2), some (sj_i x3), some (sj_i x4), some (sj_i x5), some (sj_i x6), some (sj_i x7), some (sj_i v4), some (sj_i w), some (sj_i x10), some (sj_i v3)]) (pc := 137) h dX8_scan_137 rfl (Nat.le_of_ble_eq_true rfl) (fun _ => rfl) (fun v5 h => ?_)
      exact sj_weak (l2 := [some (sj_r (some a0)), some (sj_i x1), some (sj_i x2), some (sj_i x3), some (sj_i x4), some (sj_i x5), some (sj_i x6), some (sj_i x7), some (sj_i v4), some (sj_i v5), some (sj_i x10), none]) (⟨rfl, ⟨rfl, ⟨rfl, ⟨rfl, ⟨rfl, ⟨rfl, ⟨rfl, ⟨rfl, ⟨rfl, ⟨rfl, ⟨rfl, trivial⟩⟩⟩⟩⟩⟩⟩⟩⟩⟩⟩) (t_X8_scan_140 hk52 a0 x1 x2 x3 x4 x5 x6 x7 v4 v5 x10 s2 h)
set_option maxHeartbeats 4000000 in
theorem t_X8_scan_52_b {X : sj_X} {s0 : sj_Mem} {N : Nat} {q : Int × sj_Mem} {k52 : Nat → Int → Int → Int → Int → Int → Int → Int → Int → Int → Int → sj_Mem → Option (Int × sj_Mem)} (hk52 : ∀ (a0 : Nat) (x1 : Int) (x2 : Int) (x3 : Int) (x4 : Int) (x5 : Int) (x6 : Int) (x7 : Int) (x8 : Int) (x9 : Int) (x10 : Int) (s : sj_Mem), k52 a0 x1 x2 x3 x4 x5 x6 x7 x8 x9 x10 s = some q → sj_T X m_X8_scan s0 (some (sj_i q.1), q.2) 52 [some (sj_r (some a0)), some (sj_i x1), some (sj_i x2), some (sj_i x3), some (sj_i x4), some (sj_i x5), some (sj_i x6), some (sj_i x7), some (sj_i x8), some (sj_i x9), some (sj_i x10), none] [] s) :
    ∀ (a0 : Nat) (x1 : Int) (x2 : Int) (x3 : Int) (x4 : Int) (x5 : Int) (x6 : Int) (x7 : Int) (x8 : Int) (x9 : Int) (x10 : Int) (s : sj_Mem), f_X8_scan_52_b N k52 a0 x1 x2 x3 x4 x5 x6 x7 x8 x9 x10 s = some q → sj_T X m_X8_scan s0 (some (sj_i q.1), q.2) 52 [some (sj_r (some a0)), some (sj_i x1), some (sj_i x2), some (sj_i x3), some (sj_i x4), some (sj_i x5), some (sj_i x6), some (sj_i x7), some (sj_i x8), some (sj_i x9), some (sj_i x10), none] [] s := by
  intro a0 x1 x2 x3 x4 x5 x6 x7 x8 x9 x10 s h
  unfold f_X8_scan_52_b at h
  refine r_iload (pc := 52) dX8_scan_52 rfl ?_
  refine r_bipush (pc := 54) dX8_scan_54 ⟨by decide, by decide⟩ ?_
  refine r_icmp_ge (pc := 56) (tgt := 146) h dX8_scan_56 (by decide) (fun h => ?_) (fun h => ?_)
  · refine r_iload (pc := 146) dX8_scan_146 rfl ?_
    refine r_if_ne (pc := 148) (tgt := 156) h dX8_scan_148 (by decide) (fun h => ?_) (fun h => ?_)
    · refine r_iload (pc := 151) dX8_scan_151 rfl ?_
      refine r_goto (pc := 153) (tgt := 158) dX8_scan_153 (by decide) ?_
      exact r_iret (pc := 158) h rfl dX8_scan_158
    · refine r_iload (pc := 156) dX8_scan_156 rfl ?_
      exact r_iret (pc := 158) h rfl dX8_scan_158
  · refine r_aload_n (pc := 59) dX8_scan_59 rfl rfl ?_
    refine r_gR (pc := 60) h dX8_scan_60 fw_X8_60 rfl (fun r1 h => ?_)
    refine r_aload_n (pc := 63) dX8_scan_63 rfl rfl ?_
    refine r_gR (pc := 64) h dX8_scan_64 fw_X8_12 rfl (fun r2 h => ?_)
    refine r_iload_n (pc := 67) dX8_scan_67 rfl rfl ?_
    refine r_iload (pc := 68) dX8_scan_68 rfl ?_
    refine r_bipush (pc := 70) dX8_scan_70 ⟨by decide, by decide⟩ ?_
    refine r_idiv (pc := 72) h dX8_scan_72 (fun v3 h => ?_)
    refine r_iconst (pc := 73) dX8_scan_73 ?_
    refine r_isub (pc := 74) dX8_scan_74 ?_
    refine r_iload (pc := 75) dX8_scan_75 rfl ?_
    refine r_imul (pc := 77) dX8_scan_77 ?_
    refine r_iadd (pc := 78) dX8_scan_78 ?_
    refine r_iload_n (pc := 79) dX8_scan_79 rfl rfl ?_
    refine r_iload (pc := 80) dX8_scan_80 rfl ?_
    refine r_iconst (pc := 82) dX8_scan_82 ?_
    refine r_idiv (pc := 83) h dX8_scan_83 (fun v4 h => ?_)
    refine r_iconst (pc := 84) dX8_scan_84 ?_
    refine r_irem (pc := 85) h dX8_scan_85 (fun v5 h => ?_)
    refine r_iconst (pc := 86) dX8_scan_86 ?_
    refine r_isub (pc := 87) dX8_scan_87 ?_
    refine r_iload (pc := 88) dX8_scan_88 rfl ?_
    refine r_imul (pc := 90) dX8_scan_90 ?_
    refine r_iadd (pc := 91) dX8_scan_91 ?_
    refine r_iload_n (pc := 92) dX8_scan_92 rfl rfl ?_
    refine r_iload (pc := 93) dX8_scan_93 rfl ?_
    refine r_iconst (pc := 95) dX8_scan_95 ?_
    refine r_irem (pc := 96) h dX8_scan_96 (fun v6 h => ?_)
    refine r_iconst (pc := 97) dX8_scan_97 ?_
    refine r_isub (pc := 98) dX8_scan_98 ?_
    refine r_iload (pc := 99) dX8_scan_99 rfl ?_
    refine r_imul (pc := 101) dX8_scan_101 ?_
    refine r_iadd (pc := 102) dX8_scan_102 ?_
    refine r_iload (pc := 103) dX8_scan_103 rfl ?_
    refine r_iload (pc := 105) dX8_scan_105 rfl ?_
    refine r_if_ne (pc := 107) (tgt := 114) h dX8_scan_107 (by decide) (fun h => ?_) (fun h => ?_)
    · refine r_iconst (pc := 110) dX8_scan_110 ?_
      refine r_goto (pc := 111) (tgt := 116) dX8_scan_111 (by decide) ?_
      exact sj_weak (l2 := [some (sj_r (some a0)), some (sj_i x1), some (sj_i x2), some (sj_i x3), some (sj_i x4), some (sj_i x5), some (sj_i x6), some (sj_i x7), some (sj_i x8), some (sj_i x9), some (sj_i x10), none]) (⟨rfl, ⟨rfl, ⟨rfl, ⟨rfl, ⟨rfl, ⟨rfl, ⟨rfl, ⟨rfl, ⟨rfl, ⟨rfl, ⟨rfl, trivial⟩⟩⟩⟩⟩⟩⟩⟩⟩⟩⟩) (t_X8_scan_116 hk52 a0 x1 x2 x3 x4 x5 x6 x7 x8 x9 x10 0 x5 (x3 + ((v6 - 2) * x4)) (x2 + ((v5 - 2) * x4)) (x1 + ((v3 - 2) * x4)) r2 r1 s h)
    · refine r_iload (pc := 114) dX8_scan_114 rfl ?_
      exact sj_weak (l2 := [some (sj_r (some a0)), some (sj_i x1), some (sj_i x2), some (sj_i x3), some (sj_i x4), some (sj_i x5), some (sj_i x6), some (sj_i x7), some (sj_i x8), some (sj_i x9), some (sj_i x10), none]) (⟨rfl, ⟨rfl, ⟨rfl, ⟨rfl, ⟨rfl, ⟨rfl, ⟨rfl, ⟨rfl, ⟨rfl, ⟨rfl, ⟨rfl, trivial⟩⟩⟩⟩⟩⟩⟩⟩⟩⟩⟩) (t_X8_scan_116 hk52 a0 x1 x2 x3 x4 x5 x6 x7 x8 x9 x10 x6 x5 (x3 + ((v6 - 2) * x4)) (x2 + ((v5 - 2) * x4)) (x1 + ((v3 - 2) * x4)) r2 r1 s h)
set_option maxHeartbeats 4000000 in
theorem t_X8_scan_52 {X : sj_X} {s0 : sj_Mem} {N : Nat} {q : Int × sj_Mem} :
    ∀ (n : Nat) (a0 : Nat) (x1 : Int) (x2 : Int) (x3 : Int) (x4 : Int) (x5 : Int) (x6 : Int) (x7 : Int) (x8 : Int) (x9 : Int) (x10 : Int) (s : sj_Mem), f_X8_scan_52 N n a0 x1 x2 x3 x4 x5 x6 x7 x8 x9 x10 s = some q → sj_T X m_X8_scan s0 (some (sj_i q.1), q.2) 52 [some (sj_r (some a0)), some (sj_i x1), some (sj_i x2), some (sj_i x3), some (sj_i x4), some (sj_i x5), some (sj_i x6), some (sj_i x7), some (sj_i x8), some (sj_i x9), some (sj_i x10), none] [] s := by
  intro n
  induction n with
  | zero => intro a0 x1 x2 x3 x4 x5 x6 x7 x8 x9 x10 s h; exact nomatch h
  | succ n ih => intro a0 x1 x2 x3 x4 x5 x6 x7 x8 x9 x10 s h; exact t_X8_scan_52_b (N := N) ih a0 x1 x2 x3 x4 x5 x6 x7 x8 x9 x10 s h
set_option maxHeartbeats 4000000 in
theorem t_X8_scan_0 {X : sj_X} {s0 : sj_Mem} {N : Nat} {q : Int × sj_Mem} :
    ∀ (a0 : Nat) (x1 : Int) (x2 : Int) (x3 : Int) (x4 : Int) (x5 : Int) (x6 : Int) (x7 : Int) (s : sj_Mem), f_X8_scan N a0 x1 x2 x3 x4 x5 x6 x7 s = some q → sj_T X m_X8_scan s0 (some (sj_i q.1), q.2) 0 [some (sj_r (some a0)), some (sj_i x1), some (sj_i x2), some (sj_i x3), some (sj_i x4), some (sj_i x5), some (sj_i x6), some (sj_i x7), none, none, none, none] [] s := by
  intro a0 x1 x2 x3 x4 x5 x6 x7 s h
  unfold f_X8_scan at h
  refine r_iload_n (pc := 0) dX8_scan_0 rfl rfl ?_
  refine r_iload_n (pc := 1) dX8_scan_1 rfl rfl ?_
  refine r_iload_n (pc := 2) dX8_scan_2 rfl rfl ?_
  refine r_callS (pc := 3) (fun v => some (sj_i v)) (As := [sj_i x1, sj_i x2, sj_i x3]) (rest := []) h dX8_scan_3 mw_X8_158 kw_600 (fun _ _ hc => c_X8_isCircle hc) rfl ⟨(Nat.le_of_ble_eq_true rfl), (Nat.le_of_ble_eq_true rfl)⟩ (Nat.le_of_ble_eq_true rfl) rfl (fun v2 s1 h => ?_)
  refine r_if_eq (pc := 6) (tgt := 41) h dX8_scan_6 (by decide) (fun h => ?_) (fun h => ?_)
  · refine r_iconst (pc := 41) dX8_scan_41 ?_
    exact r_iret (pc := 42) h rfl dX8_scan_42
  · refine r_iload (pc := 9) dX8_scan_9 rfl ?_
    refine r_iconst (pc := 11) dX8_scan_11 ?_
    refine r_icmp_lt (pc := 12) (tgt := 41) h dX8_scan_12 (by decide) (fun h => ?_) (fun h => ?_)
    · refine r_iconst (pc := 41) dX8_scan_41 ?_
      exact r_iret (pc := 42) h rfl dX8_scan_42
    · refine r_iload (pc := 15) dX8_scan_15 rfl ?_
      refine r_bipush (pc := 17) dX8_scan_17 ⟨by decide, by decide⟩ ?_
      refine r_icmp_gt (pc := 19) (tgt := 41) h dX8_scan_19 (by decide) (fun h => ?_) (fun h => ?_)
      · refine r_iconst (pc := 41) dX8_scan_41 ?_
        exact r_iret (pc := 42) h rfl dX8_scan_42
      · refine r_iload (pc := 22) dX8_scan_22 rfl ?_
        refine r_callS (pc := 24) (fun v => some (sj_i v)) (As := [sj_i x6]) (rest := []) h dX8_scan_24 mw_X8_292 kw_879 (fun _ _ hc => c_X8_isK hc) rfl ⟨(Nat.le_of_ble_eq_true rfl), (Nat.le_of_ble_eq_true rfl)⟩ (Nat.le_of_ble_eq_true rfl) rfl (fun v4 s3 h => ?_)
        refine r_if_eq (pc := 27) (tgt := 41) h dX8_scan_27 (by decide) (fun h => ?_) (fun h => ?_)
        · refine r_iconst (pc := 41) dX8_scan_41 ?_
          exact r_iret (pc := 42) h rfl dX8_scan_42
        · refine r_iload (pc := 30) dX8_scan_30 rfl ?_
          refine r_if_lt (pc := 32) (tgt := 41) h dX8_scan_32 (by decide) (fun h => ?_) (fun h => ?_)
          · refine r_iconst (pc := 41) dX8_scan_41 ?_
            exact r_iret (pc := 42) h rfl dX8_scan_42
          · refine r_iload (pc := 35) dX8_scan_35 rfl ?_
            refine r_iconst (pc := 37) dX8_scan_37 ?_
            refine r_icmp_le (pc := 38) (tgt := 43) h dX8_scan_38 (by decide) (fun h => ?_) (fun h => ?_)
            · refine r_iconst (pc := 43) dX8_scan_43 ?_
              refine r_istore (ln := [some (sj_r (some a0)), some (sj_i x1), some (sj_i x2), some (sj_i x3), some (sj_i x4), some (sj_i x5), some (sj_i x6), some (sj_i x7), some (sj_i 0), none, none, none]) (pc := 44) dX8_scan_44 (Nat.le_of_ble_eq_true rfl) rfl ?_
              refine r_iconst (pc := 46) dX8_scan_46 ?_
              refine r_istore (ln := [some (sj_r (some a0)), some (sj_i x1), some (sj_i x2), some (sj_i x3), some (sj_i x4), some (sj_i x5), some (sj_i x6), some (sj_i x7), some (sj_i 0), some (sj_i 0), none, none]) (pc := 47) dX8_scan_47 (Nat.le_of_ble_eq_true rfl) rfl ?_
              refine r_iconst (pc := 49) dX8_scan_49 ?_
              refine r_istore (ln := [some (sj_r (some a0)), some (sj_i x1), some (sj_i x2), some (sj_i x3), some (sj_i x4), some (sj_i x5), some (sj_i x6), some (sj_i x7), some (sj_i 0), some (sj_i 0), some (sj_i 0), none]) (pc := 50) dX8_scan_50 (Nat.le_of_ble_eq_true rfl) rfl ?_
              exact sj_weak (l2 := [some (sj_r (some a0)), some (sj_i x1), some (sj_i x2), some (sj_i x3), some (sj_i x4), some (sj_i x5), some (sj_i x6), some (sj_i x7), some (sj_i 0), some (sj_i 0), some (sj_i 0), none]) (⟨rfl, ⟨rfl, ⟨rfl, ⟨rfl, ⟨rfl, ⟨rfl, ⟨rfl, ⟨rfl, ⟨rfl, ⟨rfl, ⟨rfl, trivial⟩⟩⟩⟩⟩⟩⟩⟩⟩⟩⟩) (t_X8_scan_52 N a0 x1 x2 x3 x4 x5 x6 x7 0 0 0 s3 h)
            · refine r_iconst (pc := 41) dX8_scan_41 ?_
              exact r_iret (pc := 42) h rfl dX8_scan_42
set_option maxHeartbeats 4000000 in
theorem c_X8_scan {X : sj_X} {N : Nat} {a0 : Nat} {x1 : Int} {x2 : Int} {x3 : Int} {x4 : Int} {x5 : Int} {x6 : Int} {x7 : Int} {s : sj_Mem} {q : Int × sj_Mem} (h : f_X8_scan N a0 x1 x2 x3 x4 x5 x6 x7 s = some q) : sj_C X m_X8_scan [sj_r (some a0), sj_i x1, sj_i x2, sj_i x3, sj_i x4, sj_i x5, sj_i x6, sj_i x7] s (some (sj_i q.1), q.2) :=
  sj_C_of (by decide +kernel) (Nat.le_of_ble_eq_true rfl) (lo := [some (sj_r (some a0)), some (sj_i x1), some (sj_i x2), some (sj_i x3), some (sj_i x4), some (sj_i x5), some (sj_i x6), some (sj_i x7), none, none, none, none]) rfl (sj_weak (l2 := [some (sj_r (some a0)), some (sj_i x1), some (sj_i x2), some (sj_i x3), some (sj_i x4), some (sj_i x5), some (sj_i x6), some (sj_i x7), none, none, none, none]) (⟨rfl, ⟨rfl, ⟨rfl, ⟨rfl, ⟨rfl, ⟨rfl, ⟨rfl, ⟨rfl, trivial⟩⟩⟩⟩⟩⟩⟩⟩) (t_X8_scan_0 a0 x1 x2 x3 x4 x5 x6 x7 s h))
theorem dX8_tables_0 : decode cX8_tables 0 = .ok (.iload_n 1, 1) := by decide +kernel
theorem dX8_tables_1 : decode cX8_tables 1 = .ok (.iconst 1, 1) := by decide +kernel
theorem dX8_tables_2 : decode cX8_tables 2 = .ok (.if_icmp .lt 30, 3) := by decide +kernel
theorem dX8_tables_5 : decode cX8_tables 5 = .ok (.iload_n 1, 1) := by decide +kernel
theorem dX8_tables_6 : decode cX8_tables 6 = .ok (.bipush 12, 2) := by decide +kernel
theorem dX8_tables_8 : decode cX8_tables 8 = .ok (.if_icmp .gt 24, 3) := by decide +kernel
theorem dX8_tables_11 : decode cX8_tables 11 = .ok (.iload_n 3, 1) := by decide +kernel
theorem dX8_tables_12 : decode cX8_tables 12 = .ok (.ifCond .lt 20, 3) := by decide +kernel
theorem dX8_tables_15 : decode cX8_tables 15 = .ok (.iload_n 3, 1) := by decide +kernel
theorem dX8_tables_16 : decode cX8_tables 16 = .ok (.bipush 50, 2) := by decide +kernel
theorem dX8_tables_18 : decode cX8_tables 18 = .ok (.if_icmp .gt 14, 3) := by decide +kernel
theorem dX8_tables_21 : decode cX8_tables 21 = .ok (.iload_n 3, 1) := by decide +kernel
theorem dX8_tables_22 : decode cX8_tables 22 = .ok (.iconst 2, 1) := by decide +kernel
theorem dX8_tables_23 : decode cX8_tables 23 = .ok (.if_icmp .le 11, 3) := by decide +kernel
theorem dX8_tables_26 : decode cX8_tables 26 = .ok (.iload_n 3, 1) := by decide +kernel
theorem dX8_tables_27 : decode cX8_tables 27 = .ok (.bipush 10, 2) := by decide +kernel
theorem dX8_tables_29 : decode cX8_tables 29 = .ok (.if_icmp .ge 5, 3) := by decide +kernel
theorem dX8_tables_32 : decode cX8_tables 32 = .ok (.iconst (-1), 1) := by decide +kernel
theorem dX8_tables_33 : decode cX8_tables 33 = .ok (.ireturn, 1) := by decide +kernel
theorem dX8_tables_34 : decode cX8_tables 34 = .ok (.aload_n 0, 1) := by decide +kernel
theorem dX8_tables_35 : decode cX8_tables 35 = .ok (.iload_n 1, 1) := by decide +kernel
theorem dX8_tables_36 : decode cX8_tables 36 = .ok (.iload_n 2, 1) := by decide +kernel
theorem dX8_tables_37 : decode cX8_tables 37 = .ok (.invokevirtual 183, 3) := by decide +kernel
theorem dX8_tables_40 : decode cX8_tables 40 = .ok (.astore 4, 2) := by decide +kernel
theorem dX8_tables_42 : decode cX8_tables 42 = .ok (.iload_n 3, 1) := by decide +kernel
theorem dX8_tables_43 : decode cX8_tables 43 = .ok (.ifCond .ne 9, 3) := by decide +kernel
theorem dX8_tables_46 : decode cX8_tables 46 = .ok (.aload 4, 2) := by decide +kernel
theorem dX8_tables_48 : decode cX8_tables 48 = .ok (.getfield 406, 3) := by decide +kernel
theorem dX8_tables_51 : decode cX8_tables 51 = .ok (.ireturn, 1) := by decide +kernel
theorem dX8_tables_52 : decode cX8_tables 52 = .ok (.iload_n 3, 1) := by decide +kernel
theorem dX8_tables_53 : decode cX8_tables 53 = .ok (.iconst 1, 1) := by decide +kernel
theorem dX8_tables_54 : decode cX8_tables 54 = .ok (.if_icmp .ne 12, 3) := by decide +kernel
theorem dX8_tables_57 : decode cX8_tables 57 = .ok (.aload 4, 2) := by decide +kernel
theorem dX8_tables_59 : decode cX8_tables 59 = .ok (.getfield 187, 3) := by decide +kernel
theorem dX8_tables_62 : decode cX8_tables 62 = .ok (.getfield 241, 3) := by decide +kernel
theorem dX8_tables_65 : decode cX8_tables 65 = .ok (.ireturn, 1) := by decide +kernel
theorem dX8_tables_66 : decode cX8_tables 66 = .ok (.iload_n 3, 1) := by decide +kernel
theorem dX8_tables_67 : decode cX8_tables 67 = .ok (.iconst 2, 1) := by decide +kernel
theorem dX8_tables_68 : decode cX8_tables 68 = .ok (.if_icmp .ne 14, 3) := by decide +kernel
theorem dX8_tables_71 : decode cX8_tables 71 = .ok (.aload 4, 2) := by decide +kernel
theorem dX8_tables_73 : decode cX8_tables 73 = .ok (.getfield 187, 3) := by decide +kernel
theorem dX8_tables_76 : decode cX8_tables 76 = .ok (.getfield 244, 3) := by decide +kernel
theorem dX8_tables_79 : decode cX8_tables 79 = .ok (.goto 15, 3) := by decide +kernel
theorem dX8_tables_82 : decode cX8_tables 82 = .ok (.aload 4, 2) := by decide +kernel
theorem dX8_tables_84 : decode cX8_tables 84 = .ok (.getfield 187, 3) := by decide +kernel
theorem dX8_tables_87 : decode cX8_tables 87 = .ok (.iload_n 3, 1) := by decide +kernel
theorem dX8_tables_88 : decode cX8_tables 88 = .ok (.bipush 10, 2) := by decide +kernel
theorem dX8_tables_90 : decode cX8_tables 90 = .ok (.isub, 1) := by decide +kernel
theorem dX8_tables_91 : decode cX8_tables 91 = .ok (.invokevirtual 225, 3) := by decide +kernel
theorem dX8_tables_94 : decode cX8_tables 94 = .ok (.ireturn, 1) := by decide +kernel
set_option maxHeartbeats 4000000 in
theorem t_X8_tables_34 {X : sj_X} {s0 : sj_Mem} {N : Nat} {q : Int × sj_Mem} :
    ∀ (a0 : Nat) (x1 : Int) (x2 : Int) (x3 : Int) (s : sj_Mem), f_X8_tables_34 N a0 x1 x2 x3 s = some q → sj_T X m_X8_tables s0 (some (sj_i q.1), q.2) 34 [some (sj_r (some a0)), some (sj_i x1), some (sj_i x2), some (sj_i x3), none] [] s := by
  intro a0 x1 x2 x3 s h
  unfold f_X8_tables_34 at h
  refine r_aload_n (pc := 34) dX8_tables_34 rfl rfl ?_
  refine r_iload_n (pc := 35) dX8_tables_35 rfl rfl ?_
  refine r_iload_n (pc := 36) dX8_tables_36 rfl rfl ?_
  refine r_callV (pc := 37) (fun v => some (sj_r v)) (As := [sj_i x1, sj_i x2]) (rest := []) h dX8_tables_37 mw_X8_183 vw_X8_tableOf (fun _ _ hc => c_X8_tableOf hc) rfl ⟨(Nat.le_of_ble_eq_true rfl), (Nat.le_of_ble_eq_true rfl)⟩ (Nat.le_of_ble_eq_true rfl) rfl (fun r2 s1 h => ?_)
  refine r_astore (ln := [some (sj_r (some a0)), some (sj_i x1), some (sj_i x2), some (sj_i x3), some (sj_r r2)]) (pc := 40) dX8_tables_40 (Nat.le_of_ble_eq_true rfl) rfl ?_
  refine r_iload_n (pc := 42) dX8_tables_42 rfl rfl ?_
  refine r_if_ne (pc := 43) (tgt := 52) h dX8_tables_43 (by decide) (fun h => ?_) (fun h => ?_)
  · refine r_aload (pc := 46) dX8_tables_46 rfl ?_
    obtain ⟨a16, ea16, g⟩ := e_nn_some h
    clear h
    subst ea16
    have h := g
    clear g
    refine r_gI (pc := 48) h dX8_tables_48 fw_X8_406 rfl (fun v17 h => ?_)
    exact r_iret (pc := 51) h rfl dX8_tables_51
  · refine r_iload_n (pc := 52) dX8_tables_52 rfl rfl ?_
    refine r_iconst (pc := 53) dX8_tables_53 ?_
    refine r_icmp_ne (pc := 54) (tgt := 66) h dX8_tables_54 (by decide) (fun h => ?_) (fun h => ?_)
    · refine r_aload (pc := 57) dX8_tables_57 rfl ?_
      obtain ⟨a12, ea12, g⟩ := e_nn_some h
      clear h
      subst ea12
      have h := g
      clear g
      refine r_gR (pc := 59) h dX8_tables_59 fw_X8_187 rfl (fun r13 h => ?_)
      obtain ⟨a14, ea14, g⟩ := e_nn_some h
      clear h
      subst ea14
      have h := g
      clear g
      refine r_gI (pc := 62) h dX8_tables_62 fw_X8_241 rfl (fun v15 h => ?_)
      exact r_iret (pc := 65) h rfl dX8_tables_65
    · refine r_iload_n (pc := 66) dX8_tables_66 rfl rfl ?_
      refine r_iconst (pc := 67) dX8_tables_67 ?_
      refine r_icmp_ne (pc := 68) (tgt := 82) h dX8_tables_68 (by decide) (fun h => ?_) (fun h => ?_)
      · refine r_aload (pc := 71) dX8_tables_71 rfl ?_
        obtain ⟨a8, ea8, g⟩ := e_nn_some h
        clear h
        subst ea8
        have h := g
        clear g
        refine r_gR (pc := 73) h dX8_tables_73 fw_X8_187 rfl (fun r9 h => ?_)
        obtain ⟨a10, ea10, g⟩ := e_nn_some h
        clear h
        subst ea10
        have h := g
        clear g
        refine r_gI (pc := 76) h dX8_tables_76 fw_X8_244 rfl (fun v11 h => ?_)
        refine r_goto (pc := 79) (tgt := 94) dX8_tables_79 (by decide) ?_
        exact r_iret (pc := 94) h rfl dX8_tables_94
      · refine r_aload (pc := 82) dX8_tables_82 rfl ?_
        obtain ⟨a3, ea3, g⟩ := e_nn_some h
        clear h
        subst ea3
        have h := g
        clear g
        refine r_gR (pc := 84) h dX8_tables_84 fw_X8_187 rfl (fun r4 h => ?_)
        refine r_iload_n (pc := 87) dX8_tables_87 rfl rfl ?_
        refine r_bipush (pc := 88) dX8_tables_88 ⟨by decide, by decide⟩ ?_
        refine r_isub (pc := 90) dX8_tables_90 ?_
        obtain ⟨a5, ea5, g⟩ := e_nn_some h
        clear h
        subst ea5
        have h := g
        clear g
        refine r_callV (pc := 91) (fun v => some (sj_i v)) (As := [sj_i (x3 - 10)]) (rest := []) h dX8_tables_91 mw_X8_225 vw_X5_baseAt (fun _ _ hc => c_X5_baseAt hc) rfl ⟨(Nat.le_of_ble_eq_true rfl), (Nat.le_of_ble_eq_true rfl)⟩ (Nat.le_of_ble_eq_true rfl) rfl (fun v7 s6 h => ?_)
        exact r_iret (pc := 94) h rfl dX8_tables_94
set_option maxHeartbeats 4000000 in
theorem t_X8_tables_0 {X : sj_X} {s0 : sj_Mem} {N : Nat} {q : Int × sj_Mem} :
    ∀ (a0 : Nat) (x1 : Int) (x2 : Int) (x3 : Int) (s : sj_Mem), f_X8_tables N a0 x1 x2 x3 s = some q → sj_T X m_X8_tables s0 (some (sj_i q.1), q.2) 0 [some (sj_r (some a0)), some (sj_i x1), some (sj_i x2), some (sj_i x3), none] [] s := by
  intro a0 x1 x2 x3 s h
  unfold f_X8_tables at h
  refine r_iload_n (pc := 0) dX8_tables_0 rfl rfl ?_
  refine r_iconst (pc := 1) dX8_tables_1 ?_
  refine r_icmp_lt (pc := 2) (tgt := 32) h dX8_tables_2 (by decide) (fun h => ?_) (fun h => ?_)
  · refine r_iconst (pc := 32) dX8_tables_32 ?_
    exact r_iret (pc := 33) h rfl dX8_tables_33
  · refine r_iload_n (pc := 5) dX8_tables_5 rfl rfl ?_
    refine r_bipush (pc := 6) dX8_tables_6 ⟨by decide, by decide⟩ ?_
    refine r_icmp_gt (pc := 8) (tgt := 32) h dX8_tables_8 (by decide) (fun h => ?_) (fun h => ?_)
    · refine r_iconst (pc := 32) dX8_tables_32 ?_
      exact r_iret (pc := 33) h rfl dX8_tables_33
    · refine r_iload_n (pc := 11) dX8_tables_11 rfl rfl ?_
      refine r_if_lt (pc := 12) (tgt := 32) h dX8_tables_12 (by decide) (fun h => ?_) (fun h => ?_)
      · refine r_iconst (pc := 32) dX8_tables_32 ?_
        exact r_iret (pc := 33) h rfl dX8_tables_33
      · refine r_iload_n (pc := 15) dX8_tables_15 rfl rfl ?_
        refine r_bipush (pc := 16) dX8_tables_16 ⟨by decide, by decide⟩ ?_
        refine r_icmp_gt (pc := 18) (tgt := 32) h dX8_tables_18 (by decide) (fun h => ?_) (fun h => ?_)
        · refine r_iconst (pc := 32) dX8_tables_32 ?_
          exact r_iret (pc := 33) h rfl dX8_tables_33
        · refine r_iload_n (pc := 21) dX8_tables_21 rfl rfl ?_
          refine r_iconst (pc := 22) dX8_tables_22 ?_
          refine r_icmp_le (pc := 23) (tgt := 34) h dX8_tables_23 (by decide) (fun h => ?_) (fun h => ?_)
          · exact sj_weak (l2 := [some (sj_r (some a0)), some (sj_i x1), some (sj_i x2), some (sj_i x3), none]) (⟨rfl, ⟨rfl, ⟨rfl, ⟨rfl, trivial⟩⟩⟩⟩) (t_X8_tables_34 a0 x1 x2 x3 s h)
          · refine r_iload_n (pc := 26) dX8_tables_26 rfl rfl ?_
            refine r_bipush (pc := 27) dX8_tables_27 ⟨by decide, by decide⟩ ?_
            refine r_icmp_ge (pc := 29) (tgt := 34) h dX8_tables_29 (by decide) (fun h => ?_) (fun h => ?_)
            · exact sj_weak (l2 := [some (sj_r (some a0)), some (sj_i x1), some (sj_i x2), some (sj_i x3), none]) (⟨rfl, ⟨rfl, ⟨rfl, ⟨rfl, trivial⟩⟩⟩⟩) (t_X8_tables_34 a0 x1 x2 x3 s h)
            · refine r_iconst (pc := 32) dX8_tables_32 ?_
              exact r_iret (pc := 33) h rfl dX8_tables_33
set_option maxHeartbeats 4000000 in
theorem c_X8_tables {X : sj_X} {N : Nat} {a0 : Nat} {x1 : Int} {x2 : Int} {x3 : Int} {s : sj_Mem} {q : Int × sj_Mem} (h : f_X8_tables N a0 x1 x2 x3 s = some q) : sj_C X m_X8_tables [sj_r (some a0), sj_i x1, sj_i x2, sj_i x3] s (some (sj_i q.1), q.2) :=
  sj_C_of (by decide +kernel) (Nat.le_of_ble_eq_true rfl) (lo := [some (sj_r (some a0)), some (sj_i x1), some (sj_i x2), some (sj_i x3), none]) rfl (sj_weak (l2 := [some (sj_r (some a0)), some (sj_i x1), some (sj_i x2), some (sj_i x3), none]) (⟨rfl, ⟨rfl, ⟨rfl, ⟨rfl, trivial⟩⟩⟩⟩) (t_X8_tables_0 a0 x1 x2 x3 s h))
theorem dX8_state_0 : decode cX8_state 0 = .ok (.aload_n 0, 1) := by decide +kernel
theorem dX8_state_1 : decode cX8_state 1 = .ok (.getfield 25, 3) := by decide +kernel
theorem dX8_state_4 : decode cX8_state 4 = .ok (.getfield 256, 3) := by decide +kernel
theorem dX8_state_7 : decode cX8_state 7 = .ok (.istore_n 2, 1) := by decide +kernel
theorem dX8_state_8 : decode cX8_state 8 = .ok (.aload_n 0, 1) := by decide +kernel
theorem dX8_state_9 : decode cX8_state 9 = .ok (.getfield 25, 3) := by decide +kernel
theorem dX8_state_12 : decode cX8_state 12 = .ok (.iload_n 1, 1) := by decide +kernel
theorem dX8_state_13 : decode cX8_state 13 = .ok (.putfield 256, 3) := by decide +kernel
theorem dX8_state_16 : decode cX8_state 16 = .ok (.iload_n 2, 1) := by decide +kernel
theorem dX8_state_17 : decode cX8_state 17 = .ok (.ireturn, 1) := by decide +kernel
set_option maxHeartbeats 4000000 in
theorem t_X8_state_0 {X : sj_X} {s0 : sj_Mem} {N : Nat} {q : Int × sj_Mem} :
    ∀ (a0 : Nat) (x1 : Int) (s : sj_Mem), f_X8_state N a0 x1 s = some q → sj_T X m_X8_state s0 (some (sj_i q.1), q.2) 0 [some (sj_r (some a0)), some (sj_i x1), none] [] s := by
  intro a0 x1 s h
  unfold f_X8_state at h
  refine r_aload_n (pc := 0) dX8_state_0 rfl rfl ?_
  refine r_gR (pc := 1) h dX8_state_1 fw_X8_25 rfl (fun r1 h => ?_)
  obtain ⟨a2, ea2, g⟩ := e_nn_some h
  clear h
  subst ea2
  have h := g
  clear g
  refine r_gI (pc := 4) h dX8_state_4 fw_X8_256 rfl (fun v3 h => ?_)
  refine r_istore_n (ln := [some (sj_r (some a0)), some (sj_i x1), some (sj_i v3)]) (pc := 7) dX8_state_7 rfl (Nat.le_of_ble_eq_true rfl) rfl ?_
  refine r_aload_n (pc := 8) dX8_state_8 rfl rfl ?_
  refine r_gR (pc := 9) h dX8_state_9 fw_X8_25 rfl (fun r4 h => ?_)
  refine r_iload_n (pc := 12) dX8_state_12 rfl rfl ?_
  obtain ⟨a5, ea5, g⟩ := e_nn_some h
  clear h
  subst ea5
  have h := g
  clear g
  refine r_pI (pc := 13) h dX8_state_13 fw_X8_256 rfl rfl (fun _ hq => by cases hq; rfl) (fun s6 h => ?_)
  refine r_iload_n (pc := 16) dX8_state_16 rfl rfl ?_
  exact r_iret (pc := 17) h rfl dX8_state_17
set_option maxHeartbeats 4000000 in
theorem c_X8_state {X : sj_X} {N : Nat} {a0 : Nat} {x1 : Int} {s : sj_Mem} {q : Int × sj_Mem} (h : f_X8_state N a0 x1 s = some q) : sj_C X m_X8_state [sj_r (some a0), sj_i x1] s (some (sj_i q.1), q.2) :=
  sj_C_of (by decide +kernel) (Nat.le_of_ble_eq_true rfl) (lo := [some (sj_r (some a0)), some (sj_i x1), none]) rfl (sj_weak (l2 := [some (sj_r (some a0)), some (sj_i x1), none]) (⟨rfl, ⟨rfl, trivial⟩⟩) (t_X8_state_0 a0 x1 s h))
