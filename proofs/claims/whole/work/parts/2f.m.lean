theorem dX8_chance_0 : decode cX8_chance 0 = .ok (.iload_n 1, 1) := by decide +kernel
theorem dX8_chance_1 : decode cX8_chance 1 = .ok (.iconst 1, 1) := by decide +kernel
theorem dX8_chance_2 : decode cX8_chance 2 = .ok (.if_icmp .lt 33, 3) := by decide +kernel
theorem dX8_chance_5 : decode cX8_chance 5 = .ok (.iload_n 1, 1) := by decide +kernel
theorem dX8_chance_6 : decode cX8_chance 6 = .ok (.bipush 40, 2) := by decide +kernel
theorem dX8_chance_8 : decode cX8_chance 8 = .ok (.if_icmp .gt 27, 3) := by decide +kernel
theorem dX8_chance_11 : decode cX8_chance 11 = .ok (.iload_n 2, 1) := by decide +kernel
theorem dX8_chance_12 : decode cX8_chance 12 = .ok (.ifCond .lt 23, 3) := by decide +kernel
theorem dX8_chance_15 : decode cX8_chance 15 = .ok (.iload_n 2, 1) := by decide +kernel
theorem dX8_chance_16 : decode cX8_chance 16 = .ok (.bipush 50, 2) := by decide +kernel
theorem dX8_chance_18 : decode cX8_chance 18 = .ok (.if_icmp .gt 17, 3) := by decide +kernel
theorem dX8_chance_21 : decode cX8_chance 21 = .ok (.iload_n 3, 1) := by decide +kernel
theorem dX8_chance_22 : decode cX8_chance 22 = .ok (.invokestatic 292, 3) := by decide +kernel
theorem dX8_chance_25 : decode cX8_chance 25 = .ok (.ifCond .eq 10, 3) := by decide +kernel
theorem dX8_chance_28 : decode cX8_chance 28 = .ok (.aload_n 0, 1) := by decide +kernel
theorem dX8_chance_29 : decode cX8_chance 29 = .ok (.invokevirtual 267, 3) := by decide +kernel
theorem dX8_chance_32 : decode cX8_chance 32 = .ok (.ifCond .ne 5, 3) := by decide +kernel
theorem dX8_chance_35 : decode cX8_chance 35 = .ok (.iconst (-1), 1) := by decide +kernel
theorem dX8_chance_36 : decode cX8_chance 36 = .ok (.ireturn, 1) := by decide +kernel
theorem dX8_chance_37 : decode cX8_chance 37 = .ok (.aload_n 0, 1) := by decide +kernel
theorem dX8_chance_38 : decode cX8_chance 38 = .ok (.getfield 16, 3) := by decide +kernel
theorem dX8_chance_41 : decode cX8_chance 41 = .ok (.aload_n 0, 1) := by decide +kernel
theorem dX8_chance_42 : decode cX8_chance 42 = .ok (.getfield 12, 3) := by decide +kernel
theorem dX8_chance_45 : decode cX8_chance 45 = .ok (.invokevirtual 148, 3) := by decide +kernel
theorem dX8_chance_48 : decode cX8_chance 48 = .ok (.iconst 0, 1) := by decide +kernel
theorem dX8_chance_49 : decode cX8_chance 49 = .ok (.istore 4, 2) := by decide +kernel
theorem dX8_chance_51 : decode cX8_chance 51 = .ok (.iconst 0, 1) := by decide +kernel
theorem dX8_chance_52 : decode cX8_chance 52 = .ok (.istore 5, 2) := by decide +kernel
theorem dX8_chance_54 : decode cX8_chance 54 = .ok (.iload 5, 2) := by decide +kernel
theorem dX8_chance_56 : decode cX8_chance 56 = .ok (.iload_n 1, 1) := by decide +kernel
theorem dX8_chance_57 : decode cX8_chance 57 = .ok (.if_icmp .ge 132, 3) := by decide +kernel
theorem dX8_chance_60 : decode cX8_chance 60 = .ok (.iconst 0, 1) := by decide +kernel
theorem dX8_chance_61 : decode cX8_chance 61 = .ok (.istore 6, 2) := by decide +kernel
theorem dX8_chance_63 : decode cX8_chance 63 = .ok (.iload 6, 2) := by decide +kernel
theorem dX8_chance_65 : decode cX8_chance 65 = .ok (.iconst 4, 1) := by decide +kernel
theorem dX8_chance_66 : decode cX8_chance 66 = .ok (.if_icmp .ge 91, 3) := by decide +kernel
theorem dX8_chance_69 : decode cX8_chance 69 = .ok (.aload_n 0, 1) := by decide +kernel
theorem dX8_chance_70 : decode cX8_chance 70 = .ok (.getfield 16, 3) := by decide +kernel
theorem dX8_chance_73 : decode cX8_chance 73 = .ok (.getfield 118, 3) := by decide +kernel
theorem dX8_chance_76 : decode cX8_chance 76 = .ok (.iload 6, 2) := by decide +kernel
theorem dX8_chance_78 : decode cX8_chance 78 = .ok (.aload_n 0, 1) := by decide +kernel
theorem dX8_chance_79 : decode cX8_chance 79 = .ok (.getfield 12, 3) := by decide +kernel
theorem dX8_chance_82 : decode cX8_chance 82 = .ok (.getfield 118, 3) := by decide +kernel
theorem dX8_chance_85 : decode cX8_chance 85 = .ok (.iload 6, 2) := by decide +kernel
theorem dX8_chance_87 : decode cX8_chance 87 = .ok (.iaload, 1) := by decide +kernel
theorem dX8_chance_88 : decode cX8_chance 88 = .ok (.bipush 100, 2) := by decide +kernel
theorem dX8_chance_90 : decode cX8_chance 90 = .ok (.iload_n 2, 1) := by decide +kernel
theorem dX8_chance_91 : decode cX8_chance 91 = .ok (.isub, 1) := by decide +kernel
theorem dX8_chance_92 : decode cX8_chance 92 = .ok (.aload_n 0, 1) := by decide +kernel
theorem dX8_chance_93 : decode cX8_chance 93 = .ok (.getfield 25, 3) := by decide +kernel
theorem dX8_chance_96 : decode cX8_chance 96 = .ok (.iconst 2, 1) := by decide +kernel
theorem dX8_chance_97 : decode cX8_chance 97 = .ok (.iload_n 2, 1) := by decide +kernel
theorem dX8_chance_98 : decode cX8_chance 98 = .ok (.imul, 1) := by decide +kernel
theorem dX8_chance_99 : decode cX8_chance 99 = .ok (.iconst 1, 1) := by decide +kernel
theorem dX8_chance_100 : decode cX8_chance 100 = .ok (.iadd, 1) := by decide +kernel
theorem dX8_chance_101 : decode cX8_chance 101 = .ok (.invokevirtual 409, 3) := by decide +kernel
theorem dX8_chance_104 : decode cX8_chance 104 = .ok (.iadd, 1) := by decide +kernel
theorem dX8_chance_105 : decode cX8_chance 105 = .ok (.imul, 1) := by decide +kernel
theorem dX8_chance_106 : decode cX8_chance 106 = .ok (.bipush 100, 2) := by decide +kernel
theorem dX8_chance_108 : decode cX8_chance 108 = .ok (.idiv, 1) := by decide +kernel
theorem dX8_chance_109 : decode cX8_chance 109 = .ok (.iastore, 1) := by decide +kernel
theorem dX8_chance_110 : decode cX8_chance 110 = .ok (.aload_n 0, 1) := by decide +kernel
theorem dX8_chance_111 : decode cX8_chance 111 = .ok (.getfield 16, 3) := by decide +kernel
theorem dX8_chance_114 : decode cX8_chance 114 = .ok (.getfield 121, 3) := by decide +kernel
theorem dX8_chance_117 : decode cX8_chance 117 = .ok (.iload 6, 2) := by decide +kernel
theorem dX8_chance_119 : decode cX8_chance 119 = .ok (.aload_n 0, 1) := by decide +kernel
theorem dX8_chance_120 : decode cX8_chance 120 = .ok (.getfield 12, 3) := by decide +kernel
theorem dX8_chance_123 : decode cX8_chance 123 = .ok (.getfield 121, 3) := by decide +kernel
theorem dX8_chance_126 : decode cX8_chance 126 = .ok (.iload 6, 2) := by decide +kernel
theorem dX8_chance_128 : decode cX8_chance 128 = .ok (.iaload, 1) := by decide +kernel
theorem dX8_chance_129 : decode cX8_chance 129 = .ok (.bipush 100, 2) := by decide +kernel
theorem dX8_chance_131 : decode cX8_chance 131 = .ok (.iload_n 2, 1) := by decide +kernel
theorem dX8_chance_132 : decode cX8_chance 132 = .ok (.isub, 1) := by decide +kernel
theorem dX8_chance_133 : decode cX8_chance 133 = .ok (.aload_n 0, 1) := by decide +kernel
theorem dX8_chance_134 : decode cX8_chance 134 = .ok (.getfield 25, 3) := by decide +kernel
theorem dX8_chance_137 : decode cX8_chance 137 = .ok (.iconst 2, 1) := by decide +kernel
theorem dX8_chance_138 : decode cX8_chance 138 = .ok (.iload_n 2, 1) := by decide +kernel
theorem dX8_chance_139 : decode cX8_chance 139 = .ok (.imul, 1) := by decide +kernel
theorem dX8_chance_140 : decode cX8_chance 140 = .ok (.iconst 1, 1) := by decide +kernel
theorem dX8_chance_141 : decode cX8_chance 141 = .ok (.iadd, 1) := by decide +kernel
theorem dX8_chance_142 : decode cX8_chance 142 = .ok (.invokevirtual 409, 3) := by decide +kernel
theorem dX8_chance_145 : decode cX8_chance 145 = .ok (.iadd, 1) := by decide +kernel
theorem dX8_chance_146 : decode cX8_chance 146 = .ok (.imul, 1) := by decide +kernel
theorem dX8_chance_147 : decode cX8_chance 147 = .ok (.bipush 100, 2) := by decide +kernel
theorem dX8_chance_149 : decode cX8_chance 149 = .ok (.idiv, 1) := by decide +kernel
theorem dX8_chance_150 : decode cX8_chance 150 = .ok (.iastore, 1) := by decide +kernel
theorem dX8_chance_151 : decode cX8_chance 151 = .ok (.iinc 6 1, 3) := by decide +kernel
theorem dX8_chance_154 : decode cX8_chance 154 = .ok (.goto (-91), 3) := by decide +kernel
theorem dX8_chance_157 : decode cX8_chance 157 = .ok (.aload_n 0, 1) := by decide +kernel
theorem dX8_chance_158 : decode cX8_chance 158 = .ok (.getfield 53, 3) := by decide +kernel
theorem dX8_chance_161 : decode cX8_chance 161 = .ok (.aload_n 0, 1) := by decide +kernel
theorem dX8_chance_162 : decode cX8_chance 162 = .ok (.getfield 16, 3) := by decide +kernel
theorem dX8_chance_165 : decode cX8_chance 165 = .ok (.iconst 0, 1) := by decide +kernel
theorem dX8_chance_166 : decode cX8_chance 166 = .ok (.invokevirtual 263, 3) := by decide +kernel
theorem dX8_chance_169 : decode cX8_chance 169 = .ok (.aload_n 0, 1) := by decide +kernel
theorem dX8_chance_170 : decode cX8_chance 170 = .ok (.getfield 53, 3) := by decide +kernel
theorem dX8_chance_173 : decode cX8_chance 173 = .ok (.iload_n 3, 1) := by decide +kernel
theorem dX8_chance_174 : decode cX8_chance 174 = .ok (.invokevirtual 301, 3) := by decide +kernel
theorem dX8_chance_177 : decode cX8_chance 177 = .ok (.ifCond .ne 6, 3) := by decide +kernel
theorem dX8_chance_180 : decode cX8_chance 180 = .ok (.iinc 4 1, 3) := by decide +kernel
theorem dX8_chance_183 : decode cX8_chance 183 = .ok (.iinc 5 1, 3) := by decide +kernel
theorem dX8_chance_186 : decode cX8_chance 186 = .ok (.goto (-132), 3) := by decide +kernel
theorem dX8_chance_189 : decode cX8_chance 189 = .ok (.iload 4, 2) := by decide +kernel
theorem dX8_chance_191 : decode cX8_chance 191 = .ok (.ireturn, 1) := by decide +kernel
set_option maxHeartbeats 4000000 in
theorem t_X8_chance_183 {X : sj_X} {s0 : sj_Mem} {N : Nat} {q : Int × sj_Mem} {k54 : Nat → Int → Int → Int → Int → Int → sj_Mem → Option (Int × sj_Mem)} (hk54 : ∀ (a0 : Nat) (x1 : Int) (x2 : Int) (x3 : Int) (x4 : Int) (x5 : Int) (s : sj_Mem), k54 a0 x1 x2 x3 x4 x5 s = some q → sj_T X m_X8_chance s0 (some (sj_i q.1), q.2) 54 [some (sj_r (some a0)), some (sj_i x1), some (sj_i x2), some (sj_i x3), some (sj_i x4), some (sj_i x5), none] [] s) :
    ∀ (a0 : Nat) (x1 : Int) (x2 : Int) (x3 : Int) (x4 : Int) (x5 : Int) (s : sj_Mem), f_X8_chance_183 N k54 a0 x1 x2 x3 x4 x5 s = some q → sj_T X m_X8_chance s0 (some (sj_i q.1), q.2) 183 [some (sj_r (some a0)), some (sj_i x1), some (sj_i x2), some (sj_i x3), some (sj_i x4), some (sj_i x5), none] [] s := by
  intro a0 x1 x2 x3 x4 x5 s h
  unfold f_X8_chance_183 at h
  refine r_iinc (ln := fun w => [some (sj_r (some a0)), some (sj_i x1), some (sj_i x2), some (sj_i x3), some (sj_i x4), some (sj_i w), none]) (pc := 183) h dX8_chance_183 rfl (Nat.le_of_ble_eq_true rfl) (fun _ => rfl) (fun v1 h => ?_)
  refine r_goto (pc := 186) (tgt := 54) dX8_chance_186 (by decide) ?_
  exact sj_weak (l2 := [some (sj_r (some a0)), some (sj_i x1), some (sj_i x2), some (sj_i x3), some (sj_i x4), some (sj_i v1), none]) (⟨rfl, ⟨rfl, ⟨rfl, ⟨rfl, ⟨rfl, ⟨rfl, trivial⟩⟩⟩⟩⟩⟩) (hk54 a0 x1 x2 x3 x4 v1 s h)
set_option maxHeartbeats 4000000 in
theorem t_X8_chance_63_b {X : sj_X} {s0 : sj_Mem} {N : Nat} {q : Int × sj_Mem} {k54 : Nat → Int → Int → Int → Int → Int → sj_Mem → Option (Int × sj_Mem)} {k63 : Nat → Int → Int → Int → Int → Int → Int → sj_Mem → Option (Int × sj_Mem)} (hk54 : ∀ (a0 : Nat) (x1 : Int) (x2 : Int) (x3 : Int) (x4 : Int) (x5 : Int) (s : sj_Mem), k54 a0 x1 x2 x3 x4 x5 s = some q → sj_T X m_X8_chance s0 (some (sj_i q.1), q.2) 54 [some (sj_r (some a0)), some (sj_i x1), some (sj_i x2), some (sj_i x3), some (sj_i x4), some (sj_i x5), none] [] s) (hk63 : ∀ (a0 : Nat) (x1 : Int) (x2 : Int) (x3 : Int) (x4 : Int) (x5 : Int) (x6 : Int) (s : sj_Mem), k63 a0 x1 x2 x3 x4 x5 x6 s = some q → sj_T X m_X8_chance s0 (some (sj_i q.1), q.2) 63 [some (sj_r (some a0)), some (sj_i x1), some (sj_i x2), some (sj_i x3), some (sj_i x4), some (sj_i x5), some (sj_i x6)] [] s) :
    ∀ (a0 : Nat) (x1 : Int) (x2 : Int) (x3 : Int) (x4 : Int) (x5 : Int) (x6 : Int) (s : sj_Mem), f_X8_chance_63_b N k54 k63 a0 x1 x2 x3 x4 x5 x6 s = some q → sj_T X m_X8_chance s0 (some (sj_i q.1), q.2) 63 [some (sj_r (some a0)), some (sj_i x1), some (sj_i x2), some (sj_i x3), some (sj_i x4), some (sj_i x5), some (sj_i x6)] [] s := by
  intro a0 x1 x2 x3 x4 x5 x6 s h
  unfold f_X8_chance_63_b at h
  refine r_iload (pc := 63) dX8_chance_63 rfl ?_
  refine r_iconst (pc := 65) dX8_chance_65 ?_
  refine r_icmp_ge (pc := 66) (tgt := 157) h dX8_chance_66 (by decide) (fun h => ?_) (fun h => ?_)
  · refine r_aload_n (pc := 157) dX8_chance_157 rfl rfl ?_
    refine r_gR (pc := 158) h dX8_chance_158 fw_X8_53 rfl (fun r1 h => ?_)
    refine r_aload_n (pc := 161) dX8_chance_161 rfl rfl ?_
    refine r_gR (pc := 162) h dX8_chance_162 fw_X8_16 rfl (fun r2 h => ?_)
    refine r_iconst (pc := 165) dX8_chance_165 ?_
    obtain ⟨a3, ea3, g⟩ := e_nn_some h
    clear h
    subst ea3
    have h := g
    clear g
    refine r_callV (pc := 166) (fun _ => none) (As := [sj_r r2, sj_i 0]) (rest := []) h dX8_chance_166 mw_X8_263 vw_X4_settle (fun _ _ hc => c_X4_settle hc) rfl ⟨(Nat.le_of_ble_eq_true rfl), (Nat.le_of_ble_eq_true rfl)⟩ (Nat.le_of_ble_eq_true rfl) rfl (fun _u s4 h => ?_)
    refine r_aload_n (pc := 169) dX8_chance_169 rfl rfl ?_
    refine r_gR (pc := 170) h dX8_chance_170 fw_X8_53 rfl (fun r5 h => ?_)
    refine r_iload_n (pc := 173) dX8_chance_173 rfl rfl ?_
    obtain ⟨a6, ea6, g⟩ := e_nn_some h
    clear h
    subst ea6
    have h := g
    clear g
    refine r_callV (pc := 174) (fun v => some (sj_i v)) (As := [sj_i x3]) (rest := []) h dX8_chance_174 mw_X8_301 vw_X4_hold (fun _ _ hc => c_X4_hold hc) rfl ⟨(Nat.le_of_ble_eq_true rfl), (Nat.le_of_ble_eq_true rfl)⟩ (Nat.le_of_ble_eq_true rfl) rfl (fun v8 s7 h => ?_)
    refine r_if_ne (pc := 177) (tgt := 183) h dX8_chance_177 (by decide) (fun h => ?_) (fun h => ?_)
    · refine r_iinc (ln := fun w => [some (sj_r (some a0)), some (sj_i x1), some (sj_i x2), some (sj_i x3), some (sj_i w), some (sj_i x5), some (sj_i x6)]) (pc := 180) h dX8_chance_180 rfl (Nat.le_of_ble_eq_true rfl) (fun _ => rfl) (fun v9 h => ?_)
      exact sj_weak (l2 := [some (sj_r (some a0)), some (sj_i x1), some (sj_i x2), some (sj_i x3), some (sj_i v9), some (sj_i x5), none]) (⟨rfl, ⟨rfl, ⟨rfl, ⟨rfl, ⟨rfl, ⟨rfl, trivial⟩⟩⟩⟩⟩⟩) (t_X8_chance_183 hk54 a0 x1 x2 x3 v9 x5 s7 h)
    · exact sj_weak (l2 := [some (sj_r (some a0)), some (sj_i x1), some (sj_i x2), some (sj_i x3), some (sj_i x4), some (sj_i x5), none]) (⟨rfl, ⟨rfl, ⟨rfl, ⟨rfl, ⟨rfl, ⟨rfl, trivial⟩⟩⟩⟩⟩⟩) (t_X8_chance_183 hk54 a0 x1 x2 x3 x4 x5 s7 h)
  · refine r_aload_n (pc := 69) dX8_chance_69 rfl rfl ?_
    refine r_gR (pc := 70) h dX8_chance_70 fw_X8_16 rfl (fun r10 h => ?_)
    obtain ⟨a11, ea11, g⟩ := e_nn_some h
    clear h
    subst ea11
    have h := g
    clear g
    refine r_gR (pc := 73) h dX8_chance_73 fw_X8_118 rfl (fun r12 h => ?_)
    refine r_iload (pc := 76) dX8_chance_76 rfl ?_
    refine r_aload_n (pc := 78) dX8_chance_78 rfl rfl ?_
    refine r_gR (pc := 79) h dX8_chance_79 fw_X8_12 rfl (fun r13 h => ?_)
    obtain ⟨a14, ea14, g⟩ := e_nn_some h
    clear h
    subst ea14
    have h := g
    clear g
    refine r_gR (pc := 82) h dX8_chance_82 fw_X8_118 rfl (fun r15 h => ?_)
    refine r_iload (pc := 85) dX8_chance_85 rfl ?_
    obtain ⟨a16, ea16, g⟩ := e_nn_some h
    clear h
    subst ea16
    have h := g
    clear g
    refine r_iaload (pc := 87) h dX8_chance_87 (fun v17 h => ?_)
    refine r_bipush (pc := 88) dX8_chance_88 ⟨by decide, by decide⟩ ?_
    refine r_iload_n (pc := 90) dX8_chance_90 rfl rfl ?_
    refine r_isub (pc := 91) dX8_chance_91 ?_
    refine r_aload_n (pc := 92) dX8_chance_92 rfl rfl ?_
    refine r_gR (pc := 93) h dX8_chance_93 fw_X8_25 rfl (fun r18 h => ?_)
    refine r_iconst (pc := 96) dX8_chance_96 ?_
    refine r_iload_n (pc := 97) dX8_chance_97 rfl rfl ?_
    refine r_imul (pc := 98) dX8_chance_98 ?_
    refine r_iconst (pc := 99) dX8_chance_99 ?_
    refine r_iadd (pc := 100) dX8_chance_100 ?_
    obtain ⟨a19, ea19, g⟩ := e_nn_some h
    clear h
    subst ea19
    have h := g
    clear g
    refine r_callV (pc := 101) (fun v => some (sj_i v)) (As := [sj_i ((2 * x2) + 1)]) (rest := [(sj_i (100 - x2)), (sj_i v17), (sj_i x6), (sj_r r12)]) h dX8_chance_101 mw_X8_409 vw_X1_draw (fun _ _ hc => c_X1_draw hc) rfl ⟨(Nat.le_of_ble_eq_true rfl), (Nat.le_of_ble_eq_true rfl)⟩ (Nat.le_of_ble_eq_true rfl) rfl (fun v21 s20 h => ?_)
    refine r_iadd (pc := 104) dX8_chance_104 ?_
    refine r_imul (pc := 105) dX8_chance_105 ?_
    refine r_bipush (pc := 106) dX8_chance_106 ⟨by decide, by decide⟩ ?_
    refine r_idiv (pc := 108) h dX8_chance_108 (fun v22 h => ?_)
    obtain ⟨a23, ea23, g⟩ := e_nn_some h
    clear h
    subst ea23
    have h := g
    clear g
    refine r_iastore (pc := 109) h dX8_chance_109 (fun s24 h => ?_)
    refine r_aload_n (pc := 110) dX8_chance_110 rfl rfl ?_
    refine r_gR (pc := 111) h dX8_chance_111 fw_X8_16 rfl (fun r25 h => ?_)
    obtain ⟨a26, ea26, g⟩ := e_nn_some h
    clear h
    subst ea26
    have h := g
    clear g
    refine r_gR (pc := 114) h dX8_chance_114 fw_X8_121 rfl (fun r27 h => ?_)
    refine r_iload (pc := 117) dX8_chance_117 rfl ?_
    refine r_aload_n (pc := 119) dX8_chance_119 rfl rfl ?_
    refine r_gR (pc := 120) h dX8_chance_120 fw_X8_12 rfl (fun r28 h => ?_)
    obtain ⟨a29, ea29, g⟩ := e_nn_some h
    clear h
    subst ea29
    have h := g
    clear g
    refine r_gR (pc := 123) h dX8_chance_123 fw_X8_121 rfl (fun r30 h => ?_)
    refine r_iload (pc := 126) dX8_chance_126 rfl ?_
    obtain ⟨a31, ea31, g⟩ := e_nn_some h
    clear h
    subst ea31
    have h := g
    clear g
    refine r_iaload (pc := 128) h dX8_chance_128 (fun v32 h => ?_)
    refine r_bipush (pc := 129) dX8_chance_129 ⟨by decide, by decide⟩ ?_
    refine r_iload_n (pc := 131) dX8_chance_131 rfl rfl ?_
    refine r_isub (pc := 132) dX8_chance_132 ?_
    refine r_aload_n (pc := 133) dX8_chance_133 rfl rfl ?_
    refine r_gR (pc := 134) h dX8_chance_134 fw_X8_25 rfl (fun r33 h => ?_)
    refine r_iconst (pc := 137) dX8_chance_137 ?_
    refine r_iload_n (pc := 138) dX8_chance_138 rfl rfl ?_
    refine r_imul (pc := 139) dX8_chance_139 ?_
    refine r_iconst (pc := 140) dX8_chance_140 ?_
    refine r_iadd (pc := 141) dX8_chance_141 ?_
    obtain ⟨a34, ea34, g⟩ := e_nn_some h
    clear h
    subst ea34
    have h := g
    clear g
    refine r_callV (pc := 142) (fun v => some (sj_i v)) (As := [sj_i ((2 * x2) + 1)]) (rest := [(sj_i (100 - x2)), (sj_i v32), (sj_i x6), (sj_r r27)]) h dX8_chance_142 mw_X8_409 vw_X1_draw (fun _ _ hc => c_X1_draw hc) rfl ⟨(Nat.le_of_ble_eq_true rfl), (Nat.le_of_ble_eq_true rfl)⟩ (Nat.le_of_ble_eq_true rfl) rfl (fun v36 s35 h => ?_)
    refine r_iadd (pc := 145) dX8_chance_145 ?_
    refine r_imul (pc := 146) dX8_chance_146 ?_
    refine r_bipush (pc := 147) dX8_chance_147 ⟨by decide, by decide⟩ ?_
    refine r_idiv (pc := 149) h dX8_chance_149 (fun v37 h => ?_)
    obtain ⟨a38, ea38, g⟩ := e_nn_some h
    clear h
    subst ea38
    have h := g
    clear g
    refine r_iastore (pc := 150) h dX8_chance_150 (fun s39 h => ?_)
    refine r_iinc (ln := fun w => [some (sj_r (some a0)), some (sj_i x1), some (sj_i x2), some (sj_i x3), some (sj_i x4), some (sj_i x5), some (sj_i w)]) (pc := 151) h dX8_chance_151 rfl (Nat.le_of_ble_eq_true rfl) (fun _ => rfl) (fun v40 h => ?_)
    refine r_goto (pc := 154) (tgt := 63) dX8_chance_154 (by decide) ?_
    exact sj_weak (l2 := [some (sj_r (some a0)), some (sj_i x1), some (sj_i x2), some (sj_i x3), some (sj_i x4), some (sj_i x5), some (sj_i v40)]) (⟨rfl, ⟨rfl, ⟨rfl, ⟨rfl, ⟨rfl, ⟨rfl, ⟨rfl, trivial⟩⟩⟩⟩⟩⟩⟩) (hk63 a0 x1 x2 x3 x4 x5 v40 s39 h)
set_option maxHeartbeats 4000000 in
theorem t_X8_chance_63 {X : sj_X} {s0 : sj_Mem} {N : Nat} {q : Int × sj_Mem} {k54 : Nat → Int → Int → Int → Int → Int → sj_Mem → Option (Int × sj_Mem)} (hk54 : ∀ (a0 : Nat) (x1 : Int) (x2 : Int) (x3 : Int) (x4 : Int) (x5 : Int) (s : sj_Mem), k54 a0 x1 x2 x3 x4 x5 s = some q → sj_T X m_X8_chance s0 (some (sj_i q.1), q.2) 54 [some (sj_r (some a0)), some (sj_i x1), some (sj_i x2), some (sj_i x3), some (sj_i x4), some (sj_i x5), none] [] s) :
    ∀ (n : Nat) (a0 : Nat) (x1 : Int) (x2 : Int) (x3 : Int) (x4 : Int) (x5 : Int) (x6 : Int) (s : sj_Mem), f_X8_chance_63 N k54 n a0 x1 x2 x3 x4 x5 x6 s = some q → sj_T X m_X8_chance s0 (some (sj_i q.1), q.2) 63 [some (sj_r (some a0)), some (sj_i x1), some (sj_i x2), some (sj_i x3), some (sj_i x4), some (sj_i x5), some (sj_i x6)] [] s := by
  intro n
  induction n with
  | zero => intro a0 x1 x2 x3 x4 x5 x6 s h; exact nomatch h
  | succ n ih => intro a0 x1 x2 x3 x4 x5 x6 s h; exact t_X8_chance_63_b (N := N) hk54 ih a0 x1 x2 x3 x4 x5 x6 s h
set_option maxHeartbeats 4000000 in
theorem t_X8_chance_54_b {X : sj_X} {s0 : sj_Mem} {N : Nat} {q : Int × sj_Mem} {k54 : Nat → Int → Int → Int → Int → Int → sj_Mem → Option (Int × sj_Mem)} (hk54 : ∀ (a0 : Nat) (x1 : Int) (x2 : Int) (x3 : Int) (x4 : Int) (x5 : Int) (s : sj_Mem), k54 a0 x1 x2 x3 x4 x5 s = some q → sj_T X m_X8_chance s0 (some (sj_i q.1), q.2) 54 [some (sj_r (some a0)), some (sj_i x1), some (sj_i x2), some (sj_i x3), some (sj_i x4), some (sj_i x5), none] [] s) :
    ∀ (a0 : Nat) (x1 : Int) (x2 : Int) (x3 : Int) (x4 : Int) (x5 : Int) (s : sj_Mem), f_X8_chance_54_b N k54 a0 x1 x2 x3 x4 x5 s = some q → sj_T X m_X8_chance s0 (some (sj_i q.1), q.2) 54 [some (sj_r (some a0)), some (sj_i x1), some (sj_i x2), some (sj_i x3), some (sj_i x4), some (sj_i x5), none] [] s := by
  intro a0 x1 x2 x3 x4 x5 s h
  unfold f_X8_chance_54_b at h
  refine r_iload (pc := 54) dX8_chance_54 rfl ?_
  refine r_iload_n (pc := 56) dX8_chance_56 rfl rfl ?_
  refine r_icmp_ge (pc := 57) (tgt := 189) h dX8_chance_57 (by decide) (fun h => ?_) (fun h => ?_)
  · refine r_iload (pc := 189) dX8_chance_189 rfl ?_
    exact r_iret (pc := 191) h rfl dX8_chance_191
  · refine r_iconst (pc := 60) dX8_chance_60 ?_
    refine r_istore (ln := [some (sj_r (some a0)), some (sj_i x1), some (sj_i x2), some (sj_i x3), some (sj_i x4), some (sj_i x5), some (sj_i 0)]) (pc := 61) dX8_chance_61 (Nat.le_of_ble_eq_true rfl) rfl ?_
    exact sj_weak (l2 := [some (sj_r (some a0)), some (sj_i x1), some (sj_i x2), some (sj_i x3), some (sj_i x4), some (sj_i x5), some (sj_i 0)]) (⟨rfl, ⟨rfl, ⟨rfl, ⟨rfl, ⟨rfl, ⟨rfl, ⟨rfl, trivial⟩⟩⟩⟩⟩⟩⟩) (t_X8_chance_63 hk54 N a0 x1 x2 x3 x4 x5 0 s h)
set_option maxHeartbeats 4000000 in
theorem t_X8_chance_54 {X : sj_X} {s0 : sj_Mem} {N : Nat} {q : Int × sj_Mem} :
    ∀ (n : Nat) (a0 : Nat) (x1 : Int) (x2 : Int) (x3 : Int) (x4 : Int) (x5 : Int) (s : sj_Mem), f_X8_chance_54 N n a0 x1 x2 x3 x4 x5 s = some q → sj_T X m_X8_chance s0 (some (sj_i q.1), q.2) 54 [some (sj_r (some a0)), some (sj_i x1), some (sj_i x2), some (sj_i x3), some (sj_i x4), some (sj_i x5), none] [] s := by
  intro n
  induction n with
  | zero => intro a0 x1 x2 x3 x4 x5 s h; exact nomatch h
  | succ n ih => intro a0 x1 x2 x3 x4 x5 s h; exact t_X8_chance_54_b (N := N) ih a0 x1 x2 x3 x4 x5 s h
set_option maxHeartbeats 4000000 in
theorem t_X8_chance_0 {X : sj_X} {s0 : sj_Mem} {N : Nat} {q : Int × sj_Mem} :
    ∀ (a0 : Nat) (x1 : Int) (x2 : Int) (x3 : Int) (s : sj_Mem), f_X8_chance N a0 x1 x2 x3 s = some q → sj_T X m_X8_chance s0 (some (sj_i q.1), q.2) 0 [some (sj_r (some a0)), some (sj_i x1), some (sj_i x2), some (sj_i x3), none, none, none] [] s := by
  intro a0 x1 x2 x3 s h
  unfold f_X8_chance at h
  refine r_iload_n (pc := 0) dX8_chance_0 rfl rfl ?_
  refine r_iconst (pc := 1) dX8_chance_1 ?_
  refine r_icmp_lt (pc := 2) (tgt := 35) h dX8_chance_2 (by decide) (fun h => ?_) (fun h => ?_)
  · refine r_iconst (pc := 35) dX8_chance_35 ?_
    exact r_iret (pc := 36) h rfl dX8_chance_36
  · refine r_iload_n (pc := 5) dX8_chance_5 rfl rfl ?_
    refine r_bipush (pc := 6) dX8_chance_6 ⟨by decide, by decide⟩ ?_
    refine r_icmp_gt (pc := 8) (tgt := 35) h dX8_chance_8 (by decide) (fun h => ?_) (fun h => ?_)
    · refine r_iconst (pc := 35) dX8_chance_35 ?_
      exact r_iret (pc := 36) h rfl dX8_chance_36
    · refine r_iload_n (pc := 11) dX8_chance_11 rfl rfl ?_
      refine r_if_lt (pc := 12) (tgt := 35) h dX8_chance_12 (by decide) (fun h => ?_) (fun h => ?_)
      · refine r_iconst (pc := 35) dX8_chance_35 ?_
        exact r_iret (pc := 36) h rfl dX8_chance_36
      · refine r_iload_n (pc := 15) dX8_chance_15 rfl rfl ?_
        refine r_bipush (pc := 16) dX8_chance_16 ⟨by decide, by decide⟩ ?_
        refine r_icmp_gt (pc := 18) (tgt := 35) h dX8_chance_18 (by decide) (fun h => ?_) (fun h => ?_)
        · refine r_iconst (pc := 35) dX8_chance_35 ?_
          exact r_iret (pc := 36) h rfl dX8_chance_36
        · refine r_iload_n (pc := 21) dX8_chance_21 rfl rfl ?_
          refine r_callS (pc := 22) (fun v => some (sj_i v)) (As := [sj_i x3]) (rest := []) h dX8_chance_22 mw_X8_292 kw_879 (fun _ _ hc => c_X8_isK hc) rfl ⟨(Nat.le_of_ble_eq_true rfl), (Nat.le_of_ble_eq_true rfl)⟩ (Nat.le_of_ble_eq_true rfl) rfl (fun v2 s1 h => ?_)
          refine r_if_eq (pc := 25) (tgt := 35) h dX8_chance_25 (by decide) (fun h => ?_) (fun h => ?_)
          · refine r_iconst (pc := 35) dX8_chance_35 ?_
            exact r_iret (pc := 36) h rfl dX8_chance_36
          · refine r_aload_n (pc := 28) dX8_chance_28 rfl rfl ?_
            refine r_callV (pc := 29) (fun v => some (sj_i v)) (As := []) (rest := []) h dX8_chance_29 mw_X8_267 vw_X8_cutUp (fun _ _ hc => c_X8_cutUp hc) rfl ⟨(Nat.le_of_ble_eq_true rfl), (Nat.le_of_ble_eq_true rfl)⟩ (Nat.le_of_ble_eq_true rfl) rfl (fun v4 s3 h => ?_)
            refine r_if_ne (pc := 32) (tgt := 37) h dX8_chance_32 (by decide) (fun h => ?_) (fun h => ?_)
            · refine r_iconst (pc := 35) dX8_chance_35 ?_
              exact r_iret (pc := 36) h rfl dX8_chance_36
            · refine r_aload_n (pc := 37) dX8_chance_37 rfl rfl ?_
              refine r_gR (pc := 38) h dX8_chance_38 fw_X8_16 rfl (fun r5 h => ?_)
              refine r_aload_n (pc := 41) dX8_chance_41 rfl rfl ?_
              refine r_gR (pc := 42) h dX8_chance_42 fw_X8_12 rfl (fun r6 h => ?_)
              obtain ⟨a7, ea7, g⟩ := e_nn_some h
              clear h
              subst ea7
              have h := g
              clear g
              refine r_callV (pc := 45) (fun _ => none) (As := [sj_r r6]) (rest := []) h dX8_chance_45 mw_X8_148 vw_X0_copy (fun _ _ hc => c_X0_copy hc) rfl ⟨(Nat.le_of_ble_eq_true rfl), (Nat.le_of_ble_eq_true rfl)⟩ (Nat.le_of_ble_eq_true rfl) rfl (fun _u s8 h => ?_)
              refine r_iconst (pc := 48) dX8_chance_48 ?_
              refine r_istore (ln := [some (sj_r (some a0)), some (sj_i x1), some (sj_i x2), some (sj_i x3), some (sj_i 0), none, none]) (pc := 49) dX8_chance_49 (Nat.le_of_ble_eq_true rfl) rfl ?_
              refine r_iconst (pc := 51) dX8_chance_51 ?_
              refine r_istore (ln := [some (sj_r (some a0)), some (sj_i x1), some (sj_i x2), some (sj_i x3), some (sj_i 0), some (sj_i 0), none]) (pc := 52) dX8_chance_52 (Nat.le_of_ble_eq_true rfl) rfl ?_
              exact sj_weak (l2 := [some (sj_r (some a0)), some (sj_i x1), some (sj_i x2), some (sj_i x3), some (sj_i 0), some (sj_i 0), none]) (⟨rfl, ⟨rfl, ⟨rfl, ⟨rfl, ⟨rfl, ⟨rfl, trivial⟩⟩⟩⟩⟩⟩) (t_X8_chance_54 N a0 x1 x2 x3 0 0 s8 h)
set_option maxHeartbeats 4000000 in
theorem c_X8_chance {X : sj_X} {N : Nat} {a0 : Nat} {x1 : Int} {x2 : Int} {x3 : Int} {s : sj_Mem} {q : Int × sj_Mem} (h : f_X8_chance N a0 x1 x2 x3 s = some q) : sj_C X m_X8_chance [sj_r (some a0), sj_i x1, sj_i x2, sj_i x3] s (some (sj_i q.1), q.2) :=
  sj_C_of (by decide +kernel) (Nat.le_of_ble_eq_true rfl) (lo := [some (sj_r (some a0)), some (sj_i x1), some (sj_i x2), some (sj_i x3), none, none, none]) rfl (sj_weak (l2 := [some (sj_r (some a0)), some (sj_i x1), some (sj_i x2), some (sj_i x3), none, none, none]) (⟨rfl, ⟨rfl, ⟨rfl, ⟨rfl, trivial⟩⟩⟩⟩) (t_X8_chance_0 a0 x1 x2 x3 s h))
theorem dX8_report_0 : decode cX8_report 0 = .ok (.aload_n 0, 1) := by decide +kernel
theorem dX8_report_1 : decode cX8_report 1 = .ok (.getfield 35, 3) := by decide +kernel
theorem dX8_report_4 : decode cX8_report 4 = .ok (.iconst 0, 1) := by decide +kernel
theorem dX8_report_5 : decode cX8_report 5 = .ok (.putfield 412, 3) := by decide +kernel
theorem dX8_report_8 : decode cX8_report 8 = .ok (.aload_n 0, 1) := by decide +kernel
theorem dX8_report_9 : decode cX8_report 9 = .ok (.invokevirtual 267, 3) := by decide +kernel
theorem dX8_report_12 : decode cX8_report 12 = .ok (.ifCond .ne 5, 3) := by decide +kernel
theorem dX8_report_15 : decode cX8_report 15 = .ok (.iconst (-1), 1) := by decide +kernel
theorem dX8_report_16 : decode cX8_report 16 = .ok (.ireturn, 1) := by decide +kernel
theorem dX8_report_17 : decode cX8_report 17 = .ok (.aload_n 0, 1) := by decide +kernel
theorem dX8_report_18 : decode cX8_report 18 = .ok (.getfield 35, 3) := by decide +kernel
theorem dX8_report_21 : decode cX8_report 21 = .ok (.aload_n 0, 1) := by decide +kernel
theorem dX8_report_22 : decode cX8_report 22 = .ok (.getfield 53, 3) := by decide +kernel
theorem dX8_report_25 : decode cX8_report 25 = .ok (.sipush 20001, 3) := by decide +kernel
theorem dX8_report_28 : decode cX8_report 28 = .ok (.invokevirtual 303, 3) := by decide +kernel
theorem dX8_report_31 : decode cX8_report 31 = .ok (.invokevirtual 413, 3) := by decide +kernel
theorem dX8_report_34 : decode cX8_report 34 = .ok (.aload_n 0, 1) := by decide +kernel
theorem dX8_report_35 : decode cX8_report 35 = .ok (.getfield 35, 3) := by decide +kernel
theorem dX8_report_38 : decode cX8_report 38 = .ok (.bipush 32, 2) := by decide +kernel
theorem dX8_report_40 : decode cX8_report 40 = .ok (.invokevirtual 416, 3) := by decide +kernel
theorem dX8_report_43 : decode cX8_report 43 = .ok (.aload_n 0, 1) := by decide +kernel
theorem dX8_report_44 : decode cX8_report 44 = .ok (.getfield 35, 3) := by decide +kernel
theorem dX8_report_47 : decode cX8_report 47 = .ok (.aload_n 0, 1) := by decide +kernel
theorem dX8_report_48 : decode cX8_report 48 = .ok (.getfield 12, 3) := by decide +kernel
theorem dX8_report_51 : decode cX8_report 51 = .ok (.getfield 106, 3) := by decide +kernel
theorem dX8_report_54 : decode cX8_report 54 = .ok (.getfield 241, 3) := by decide +kernel
theorem dX8_report_57 : decode cX8_report 57 = .ok (.invokevirtual 419, 3) := by decide +kernel
theorem dX8_report_60 : decode cX8_report 60 = .ok (.aload_n 0, 1) := by decide +kernel
theorem dX8_report_61 : decode cX8_report 61 = .ok (.getfield 35, 3) := by decide +kernel
theorem dX8_report_64 : decode cX8_report 64 = .ok (.bipush 45, 2) := by decide +kernel
theorem dX8_report_66 : decode cX8_report 66 = .ok (.invokevirtual 416, 3) := by decide +kernel
theorem dX8_report_69 : decode cX8_report 69 = .ok (.aload_n 0, 1) := by decide +kernel
theorem dX8_report_70 : decode cX8_report 70 = .ok (.getfield 35, 3) := by decide +kernel
theorem dX8_report_73 : decode cX8_report 73 = .ok (.aload_n 0, 1) := by decide +kernel
theorem dX8_report_74 : decode cX8_report 74 = .ok (.getfield 12, 3) := by decide +kernel
theorem dX8_report_77 : decode cX8_report 77 = .ok (.getfield 106, 3) := by decide +kernel
theorem dX8_report_80 : decode cX8_report 80 = .ok (.getfield 244, 3) := by decide +kernel
theorem dX8_report_83 : decode cX8_report 83 = .ok (.invokevirtual 419, 3) := by decide +kernel
theorem dX8_report_86 : decode cX8_report 86 = .ok (.aload_n 0, 1) := by decide +kernel
theorem dX8_report_87 : decode cX8_report 87 = .ok (.getfield 35, 3) := by decide +kernel
theorem dX8_report_90 : decode cX8_report 90 = .ok (.bipush 32, 2) := by decide +kernel
theorem dX8_report_92 : decode cX8_report 92 = .ok (.invokevirtual 416, 3) := by decide +kernel
theorem dX8_report_95 : decode cX8_report 95 = .ok (.aload_n 0, 1) := by decide +kernel
theorem dX8_report_96 : decode cX8_report 96 = .ok (.getfield 35, 3) := by decide +kernel
theorem dX8_report_99 : decode cX8_report 99 = .ok (.aload_n 0, 1) := by decide +kernel
theorem dX8_report_100 : decode cX8_report 100 = .ok (.getfield 12, 3) := by decide +kernel
theorem dX8_report_103 : decode cX8_report 103 = .ok (.getfield 106, 3) := by decide +kernel
theorem dX8_report_106 : decode cX8_report 106 = .ok (.getfield 247, 3) := by decide +kernel
theorem dX8_report_109 : decode cX8_report 109 = .ok (.ifCond .eq 8, 3) := by decide +kernel
theorem dX8_report_112 : decode cX8_report 112 = .ok (.bipush 76, 2) := by decide +kernel
theorem dX8_report_114 : decode cX8_report 114 = .ok (.goto 5, 3) := by decide +kernel
theorem dX8_report_117 : decode cX8_report 117 = .ok (.bipush 82, 2) := by decide +kernel
theorem dX8_report_119 : decode cX8_report 119 = .ok (.invokevirtual 416, 3) := by decide +kernel
theorem dX8_report_122 : decode cX8_report 122 = .ok (.aload_n 0, 1) := by decide +kernel
theorem dX8_report_123 : decode cX8_report 123 = .ok (.getfield 35, 3) := by decide +kernel
theorem dX8_report_126 : decode cX8_report 126 = .ok (.getfield 412, 3) := by decide +kernel
theorem dX8_report_129 : decode cX8_report 129 = .ok (.ireturn, 1) := by decide +kernel
set_option maxHeartbeats 4000000 in
theorem t_X8_report_119 {X : sj_X} {s0 : sj_Mem} {N : Nat} {q : Int × sj_Mem} :
    ∀ (a0 : Nat) (y0 : Int) (y1 : Option Nat) (s : sj_Mem), f_X8_report_119 N a0 y0 y1 s = some q → sj_T X m_X8_report s0 (some (sj_i q.1), q.2) 119 [some (sj_r (some a0))] [(sj_i y0), (sj_r y1)] s := by
  intro a0 y0 y1 s h
  unfold f_X8_report_119 at h
  obtain ⟨a1, ea1, g⟩ := e_nn_some h
  clear h
  subst ea1
  have h := g
  clear g
  refine r_callV (pc := 119) (fun _ => none) (As := [sj_i y0]) (rest := []) h dX8_report_119 mw_X8_416 vw_X2_write (fun _ _ hc => c_X2_write hc) rfl ⟨(Nat.le_of_ble_eq_true rfl), (Nat.le_of_ble_eq_true rfl)⟩ (Nat.le_of_ble_eq_true rfl) rfl (fun _u s2 h => ?_)
  refine r_aload_n (pc := 122) dX8_report_122 rfl rfl ?_
  refine r_gR (pc := 123) h dX8_report_123 fw_X8_35 rfl (fun r3 h => ?_)
  obtain ⟨a4, ea4, g⟩ := e_nn_some h
  clear h
  subst ea4
  have h := g
  clear g
  refine r_gI (pc := 126) h dX8_report_126 fw_X8_412 rfl (fun v5 h => ?_)
  exact r_iret (pc := 129) h rfl dX8_report_129
set_option maxHeartbeats 4000000 in
theorem t_X8_report_0 {X : sj_X} {s0 : sj_Mem} {N : Nat} {q : Int × sj_Mem} :
    ∀ (a0 : Nat) (s : sj_Mem), f_X8_report N a0 s = some q → sj_T X m_X8_report s0 (some (sj_i q.1), q.2) 0 [some (sj_r (some a0))] [] s := by
  intro a0 s h
  unfold f_X8_report at h
  refine r_aload_n (pc := 0) dX8_report_0 rfl rfl ?_
  refine r_gR (pc := 1) h dX8_report_1 fw_X8_35 rfl (fun r1 h => ?_)
  refine r_iconst (pc := 4) dX8_report_4 ?_
  obtain ⟨a2, ea2, g⟩ := e_nn_some h
  clear h
  subst ea2
  have h := g
  clear g
  refine r_pI (pc := 5) h dX8_report_5 fw_X8_412 rfl rfl (fun _ hq => by cases hq; rfl) (fun s3 h => ?_)
  refine r_aload_n (pc := 8) dX8_report_8 rfl rfl ?_
  refine r_callV (pc := 9) (fun v => some (sj_i v)) (As := []) (rest := []) h dX8_report_9 mw_X8_267 vw_X8_cutUp (fun _ _ hc => c_X8_cutUp hc) rfl ⟨(Nat.le_of_ble_eq_true rfl), (Nat.le_of_ble_eq_true rfl)⟩ (Nat.le_of_ble_eq_true rfl) rfl (fun v5 s4 h => ?_)
  refine r_if_ne (pc := 12) (tgt := 17) h dX8_report_12 (by decide) (fun h => ?_) (fun h => ?_)
  · refine r_iconst (pc := 15) dX8_report_15 ?_
    exact r_iret (pc := 16) h rfl dX8_report_16
  · refine r_aload_n (pc := 17) dX8_report_17 rfl rfl ?_
    refine r_gR (pc := 18) h dX8_report_18 fw_X8_35 rfl (fun r6 h => ?_)
    refine r_aload_n (pc := 21) dX8_report_21 rfl rfl ?_
    refine r_gR (pc := 22) h dX8_report_22 fw_X8_53 rfl (fun r7 h => ?_)
    refine r_sipush (pc := 25) dX8_report_25 ⟨by decide, by decide⟩ ?_
    obtain ⟨a8, ea8, g⟩ := e_nn_some h
    clear h
    subst ea8
    have h := g
    clear g
    refine r_callV (pc := 28) (fun v => some (sj_i v)) (As := [sj_i 20001]) (rest := [(sj_r r6)]) h dX8_report_28 mw_X8_303 vw_X4_leastBound (fun _ _ hc => c_X4_leastBound hc) rfl ⟨(Nat.le_of_ble_eq_true rfl), (Nat.le_of_ble_eq_true rfl)⟩ (Nat.le_of_ble_eq_true rfl) rfl (fun v10 s9 h => ?_)
    obtain ⟨a11, ea11, g⟩ := e_nn_some h
    clear h
    subst ea11
    have h := g
    clear g
    refine r_callV (pc := 31) (fun _ => none) (As := [sj_i v10]) (rest := []) h dX8_report_31 mw_X8_413 vw_X2_writeFactor (fun _ _ hc => c_X2_writeFactor hc) rfl ⟨(Nat.le_of_ble_eq_true rfl), (Nat.le_of_ble_eq_true rfl)⟩ (Nat.le_of_ble_eq_true rfl) rfl (fun _u s12 h => ?_)
    refine r_aload_n (pc := 34) dX8_report_34 rfl rfl ?_
    refine r_gR (pc := 35) h dX8_report_35 fw_X8_35 rfl (fun r13 h => ?_)
    refine r_bipush (pc := 38) dX8_report_38 ⟨by decide, by decide⟩ ?_
    obtain ⟨a14, ea14, g⟩ := e_nn_some h
    clear h
    subst ea14
    have h := g
    clear g
    refine r_callV (pc := 40) (fun _ => none) (As := [sj_i 32]) (rest := []) h dX8_report_40 mw_X8_416 vw_X2_write (fun _ _ hc => c_X2_write hc) rfl ⟨(Nat.le_of_ble_eq_true rfl), (Nat.le_of_ble_eq_true rfl)⟩ (Nat.le_of_ble_eq_true rfl) rfl (fun _u s15 h => ?_)
    refine r_aload_n (pc := 43) dX8_report_43 rfl rfl ?_
    refine r_gR (pc := 44) h dX8_report_44 fw_X8_35 rfl (fun r16 h => ?_)
    refine r_aload_n (pc := 47) dX8_report_47 rfl rfl ?_
    refine r_gR (pc := 48) h dX8_report_48 fw_X8_12 rfl (fun r17 h => ?_)
    obtain ⟨a18, ea18, g⟩ := e_nn_some h
    clear h
    subst ea18
    have h := g
    clear g
    refine r_gR (pc := 51) h dX8_report_51 fw_X8_106 rfl (fun r19 h => ?_)
    obtain ⟨a20, ea20, g⟩ := e_nn_some h
    clear h
    subst ea20
    have h := g
    clear g
    refine r_gI (pc := 54) h dX8_report_54 fw_X8_241 rfl (fun v21 h => ?_)
    obtain ⟨a22, ea22, g⟩ := e_nn_some h
    clear h
    subst ea22
    have h := g
    clear g
    refine r_callV (pc := 57) (fun _ => none) (As := [sj_i v21]) (rest := []) h dX8_report_57 mw_X8_419 vw_X2_writeNumber (fun _ _ hc => c_X2_writeNumber hc) rfl ⟨(Nat.le_of_ble_eq_true rfl), (Nat.le_of_ble_eq_true rfl)⟩ (Nat.le_of_ble_eq_true rfl) rfl (fun _u s23 h => ?_)
    refine r_aload_n (pc := 60) dX8_report_60 rfl rfl ?_
    refine r_gR (pc := 61) h dX8_report_61 fw_X8_35 rfl (fun r24 h => ?_)
    refine r_bipush (pc := 64) dX8_report_64 ⟨by decide, by decide⟩ ?_
    obtain ⟨a25, ea25, g⟩ := e_nn_some h
    clear h
    subst ea25
    have h := g
    clear g
    refine r_callV (pc := 66) (fun _ => none) (As := [sj_i 45]) (rest := []) h dX8_report_66 mw_X8_416 vw_X2_write (fun _ _ hc => c_X2_write hc) rfl ⟨(Nat.le_of_ble_eq_true rfl), (Nat.le_of_ble_eq_true rfl)⟩ (Nat.le_of_ble_eq_true rfl) rfl (fun _u s26 h => ?_)
    refine r_aload_n (pc := 69) dX8_report_69 rfl rfl ?_
    refine r_gR (pc := 70) h dX8_report_70 fw_X8_35 rfl (fun r27 h => ?_)
    refine r_aload_n (pc := 73) dX8_report_73 rfl rfl ?_
    refine r_gR (pc := 74) h dX8_report_74 fw_X8_12 rfl (fun r28 h => ?_)
    obtain ⟨a29, ea29, g⟩ := e_nn_some h
    clear h
    subst ea29
    have h := g
    clear g
    refine r_gR (pc := 77) h dX8_report_77 fw_X8_106 rfl (fun r30 h => ?_)
    obtain ⟨a31, ea31, g⟩ := e_nn_some h
    clear h
    subst ea31
    have h := g
    clear g
    refine r_gI (pc := 80) h dX8_report_80 fw_X8_244 rfl (fun v32 h => ?_)
    obtain ⟨a33, ea33, g⟩ := e_nn_some h
    clear h
    subst ea33
    have h := g
    clear g
    refine r_callV (pc := 83) (fun _ => none) (As := [sj_i v32]) (rest := []) h dX8_report_83 mw_X8_419 vw_X2_writeNumber (fun _ _ hc => c_X2_writeNumber hc) rfl ⟨(Nat.le_of_ble_eq_true rfl), (Nat.le_of_ble_eq_true rfl)⟩ (Nat.le_of_ble_eq_true rfl) rfl (fun _u s34 h => ?_)
    refine r_aload_n (pc := 86) dX8_report_86 rfl rfl ?_
    refine r_gR (pc := 87) h dX8_report_87 fw_X8_35 rfl (fun r35 h => ?_)
    refine r_bipush (pc := 90) dX8_report_90 ⟨by decide, by decide⟩ ?_
    obtain ⟨a36, ea36, g⟩ := e_nn_some h
    clear h
    subst ea36
    have h := g
    clear g
    refine r_callV (pc := 92) (fun _ => none) (As := [sj_i 32]) (rest := []) h dX8_report_92 mw_X8_416 vw_X2_write (fun _ _ hc => c_X2_write hc) rfl ⟨(Nat.le_of_ble_eq_true rfl), (Nat.le_of_ble_eq_true rfl)⟩ (Nat.le_of_ble_eq_true rfl) rfl (fun _u s37 h => ?_)
    refine r_aload_n (pc := 95) dX8_report_95 rfl rfl ?_
    refine r_gR (pc := 96) h dX8_report_96 fw_X8_35 rfl (fun r38 h => ?_)
    refine r_aload_n (pc := 99) dX8_report_99 rfl rfl ?_
    refine r_gR (pc := 100) h dX8_report_100 fw_X8_12 rfl (fun r39 h => ?_)
    obtain ⟨a40, ea40, g⟩ := e_nn_some h
    clear h
    subst ea40
    have h := g
    clear g
    refine r_gR (pc := 103) h dX8_report_103 fw_X8_106 rfl (fun r41 h => ?_)
    obtain ⟨a42, ea42, g⟩ := e_nn_some h
    clear h
    subst ea42
    have h := g
    clear g
    refine r_gI (pc := 106) h dX8_report_106 fw_X8_247 rfl (fun v43 h => ?_)
    refine r_if_eq (pc := 109) (tgt := 117) h dX8_report_109 (by decide) (fun h => ?_) (fun h => ?_)
    · refine r_bipush (pc := 117) dX8_report_117 ⟨by decide, by decide⟩ ?_
      exact sj_weak (l2 := [some (sj_r (some a0))]) (⟨rfl, trivial⟩) (t_X8_report_119 a0 82 r38 s37 h)
    · refine r_bipush (pc := 112) dX8_report_112 ⟨by decide, by decide⟩ ?_
      refine r_goto (pc := 114) (tgt := 119) dX8_report_114 (by decide) ?_
      exact sj_weak (l2 := [some (sj_r (some a0))]) (⟨rfl, trivial⟩) (t_X8_report_119 a0 76 r38 s37 h)
set_option maxHeartbeats 4000000 in
theorem c_X8_report {X : sj_X} {N : Nat} {a0 : Nat} {s : sj_Mem} {q : Int × sj_Mem} (h : f_X8_report N a0 s = some q) : sj_C X m_X8_report [sj_r (some a0)] s (some (sj_i q.1), q.2) :=
  sj_C_of (by decide +kernel) (Nat.le_of_ble_eq_true rfl) (lo := [some (sj_r (some a0))]) rfl (sj_weak (l2 := [some (sj_r (some a0))]) (⟨rfl, trivial⟩) (t_X8_report_0 a0 s h))
theorem dX8_sign_0 : decode cX8_sign 0 = .ok (.iload_n 1, 1) := by decide +kernel
theorem dX8_sign_1 : decode cX8_sign 1 = .ok (.ifCond .lt 26, 3) := by decide +kernel
theorem dX8_sign_4 : decode cX8_sign 4 = .ok (.iload_n 1, 1) := by decide +kernel
theorem dX8_sign_5 : decode cX8_sign 5 = .ok (.aload_n 0, 1) := by decide +kernel
theorem dX8_sign_6 : decode cX8_sign 6 = .ok (.getfield 35, 3) := by decide +kernel
theorem dX8_sign_9 : decode cX8_sign 9 = .ok (.getfield 412, 3) := by decide +kernel
theorem dX8_sign_12 : decode cX8_sign 12 = .ok (.if_icmp .ge 15, 3) := by decide +kernel
theorem dX8_sign_15 : decode cX8_sign 15 = .ok (.aload_n 0, 1) := by decide +kernel
theorem dX8_sign_16 : decode cX8_sign 16 = .ok (.getfield 35, 3) := by decide +kernel
theorem dX8_sign_19 : decode cX8_sign 19 = .ok (.getfield 422, 3) := by decide +kernel
theorem dX8_sign_22 : decode cX8_sign 22 = .ok (.iload_n 1, 1) := by decide +kernel
theorem dX8_sign_23 : decode cX8_sign 23 = .ok (.iaload, 1) := by decide +kernel
theorem dX8_sign_24 : decode cX8_sign 24 = .ok (.goto 4, 3) := by decide +kernel
theorem dX8_sign_27 : decode cX8_sign 27 = .ok (.iconst (-1), 1) := by decide +kernel
theorem dX8_sign_28 : decode cX8_sign 28 = .ok (.ireturn, 1) := by decide +kernel
set_option maxHeartbeats 4000000 in
theorem t_X8_sign_0 {X : sj_X} {s0 : sj_Mem} {N : Nat} {q : Int × sj_Mem} :
    ∀ (a0 : Nat) (x1 : Int) (s : sj_Mem), f_X8_sign N a0 x1 s = some q → sj_T X m_X8_sign s0 (some (sj_i q.1), q.2) 0 [some (sj_r (some a0)), some (sj_i x1)] [] s := by
  intro a0 x1 s h
  unfold f_X8_sign at h
  refine r_iload_n (pc := 0) dX8_sign_0 rfl rfl ?_
  refine r_if_lt (pc := 1) (tgt := 27) h dX8_sign_1 (by decide) (fun h => ?_) (fun h => ?_)
  · refine r_iconst (pc := 27) dX8_sign_27 ?_
    exact r_iret (pc := 28) h rfl dX8_sign_28
  · refine r_iload_n (pc := 4) dX8_sign_4 rfl rfl ?_
    refine r_aload_n (pc := 5) dX8_sign_5 rfl rfl ?_
    refine r_gR (pc := 6) h dX8_sign_6 fw_X8_35 rfl (fun r1 h => ?_)
    obtain ⟨a2, ea2, g⟩ := e_nn_some h
    clear h
    subst ea2
    have h := g
    clear g
    refine r_gI (pc := 9) h dX8_sign_9 fw_X8_412 rfl (fun v3 h => ?_)
    refine r_icmp_ge (pc := 12) (tgt := 27) h dX8_sign_12 (by decide) (fun h => ?_) (fun h => ?_)
    · refine r_iconst (pc := 27) dX8_sign_27 ?_
      exact r_iret (pc := 28) h rfl dX8_sign_28
    · refine r_aload_n (pc := 15) dX8_sign_15 rfl rfl ?_
      refine r_gR (pc := 16) h dX8_sign_16 fw_X8_35 rfl (fun r4 h => ?_)
      obtain ⟨a5, ea5, g⟩ := e_nn_some h
      clear h
      subst ea5
      have h := g
      clear g
      refine r_gR (pc := 19) h dX8_sign_19 fw_X8_422 rfl (fun r6 h => ?_)
      refine r_iload_n (pc := 22) dX8_sign_22 rfl rfl ?_
      obtain ⟨a7, ea7, g⟩ := e_nn_some h
      clear h
      subst ea7
      have h := g
      clear g
      refine r_iaload (pc := 23) h dX8_sign_23 (fun v8 h => ?_)
      refine r_goto (pc := 24) (tgt := 28) dX8_sign_24 (by decide) ?_
      exact r_iret (pc := 28) h rfl dX8_sign_28
set_option maxHeartbeats 4000000 in
theorem c_X8_sign {X : sj_X} {N : Nat} {a0 : Nat} {x1 : Int} {s : sj_Mem} {q : Int × sj_Mem} (h : f_X8_sign N a0 x1 s = some q) : sj_C X m_X8_sign [sj_r (some a0), sj_i x1] s (some (sj_i q.1), q.2) :=
  sj_C_of (by decide +kernel) (Nat.le_of_ble_eq_true rfl) (lo := [some (sj_r (some a0)), some (sj_i x1)]) rfl (sj_weak (l2 := [some (sj_r (some a0)), some (sj_i x1)]) (⟨rfl, ⟨rfl, trivial⟩⟩) (t_X8_sign_0 a0 x1 s h))
theorem dX9_begins_0 : decode cX9_begins 0 = .ok (.iconst 0, 1) := by decide +kernel
theorem dX9_begins_1 : decode cX9_begins 1 = .ok (.istore_n 3, 1) := by decide +kernel
theorem dX9_begins_2 : decode cX9_begins 2 = .ok (.iload_n 3, 1) := by decide +kernel
theorem dX9_begins_3 : decode cX9_begins 3 = .ok (.sipush 364, 3) := by decide +kernel
theorem dX9_begins_6 : decode cX9_begins 6 = .ok (.if_icmp .ge 16, 3) := by decide +kernel
theorem dX9_begins_9 : decode cX9_begins 9 = .ok (.aload_n 0, 1) := by decide +kernel
theorem dX9_begins_10 : decode cX9_begins 10 = .ok (.getfield 9, 3) := by decide +kernel
theorem dX9_begins_13 : decode cX9_begins 13 = .ok (.iload_n 3, 1) := by decide +kernel
theorem dX9_begins_14 : decode cX9_begins 14 = .ok (.iconst 0, 1) := by decide +kernel
theorem dX9_begins_15 : decode cX9_begins 15 = .ok (.iastore, 1) := by decide +kernel
theorem dX9_begins_16 : decode cX9_begins 16 = .ok (.iinc 3 1, 3) := by decide +kernel
theorem dX9_begins_19 : decode cX9_begins 19 = .ok (.goto (-17), 3) := by decide +kernel
theorem dX9_begins_22 : decode cX9_begins 22 = .ok (.aload_n 0, 1) := by decide +kernel
theorem dX9_begins_23 : decode cX9_begins 23 = .ok (.getfield 9, 3) := by decide +kernel
theorem dX9_begins_26 : decode cX9_begins 26 = .ok (.iconst 0, 1) := by decide +kernel
theorem dX9_begins_27 : decode cX9_begins 27 = .ok (.iload_n 1, 1) := by decide +kernel
theorem dX9_begins_28 : decode cX9_begins 28 = .ok (.iastore, 1) := by decide +kernel
theorem dX9_begins_29 : decode cX9_begins 29 = .ok (.aload_n 0, 1) := by decide +kernel
theorem dX9_begins_30 : decode cX9_begins 30 = .ok (.getfield 9, 3) := by decide +kernel
theorem dX9_begins_33 : decode cX9_begins 33 = .ok (.iconst 1, 1) := by decide +kernel
theorem dX9_begins_34 : decode cX9_begins 34 = .ok (.iload_n 2, 1) := by decide +kernel
theorem dX9_begins_35 : decode cX9_begins 35 = .ok (.iastore, 1) := by decide +kernel
theorem dX9_begins_36 : decode cX9_begins 36 = .ok (.iconst 0, 1) := by decide +kernel
theorem dX9_begins_37 : decode cX9_begins 37 = .ok (.istore_n 3, 1) := by decide +kernel
theorem dX9_begins_38 : decode cX9_begins 38 = .ok (.iload_n 3, 1) := by decide +kernel
theorem dX9_begins_39 : decode cX9_begins 39 = .ok (.bipush 41, 2) := by decide +kernel
theorem dX9_begins_41 : decode cX9_begins 41 = .ok (.if_icmp .ge 19, 3) := by decide +kernel
theorem dX9_begins_44 : decode cX9_begins 44 = .ok (.aload_n 0, 1) := by decide +kernel
theorem dX9_begins_45 : decode cX9_begins 45 = .ok (.getfield 9, 3) := by decide +kernel
theorem dX9_begins_48 : decode cX9_begins 48 = .ok (.iconst 3, 1) := by decide +kernel
theorem dX9_begins_49 : decode cX9_begins 49 = .ok (.iload_n 3, 1) := by decide +kernel
theorem dX9_begins_50 : decode cX9_begins 50 = .ok (.iadd, 1) := by decide +kernel
theorem dX9_begins_51 : decode cX9_begins 51 = .ok (.bipush 20, 2) := by decide +kernel
theorem dX9_begins_53 : decode cX9_begins 53 = .ok (.iastore, 1) := by decide +kernel
theorem dX9_begins_54 : decode cX9_begins 54 = .ok (.iinc 3 1, 3) := by decide +kernel
theorem dX9_begins_57 : decode cX9_begins 57 = .ok (.goto (-19), 3) := by decide +kernel
theorem dX9_begins_60 : decode cX9_begins 60 = .ok (.iconst 0, 1) := by decide +kernel
theorem dX9_begins_61 : decode cX9_begins 61 = .ok (.istore_n 3, 1) := by decide +kernel
theorem dX9_begins_62 : decode cX9_begins 62 = .ok (.iload_n 3, 1) := by decide +kernel
theorem dX9_begins_63 : decode cX9_begins 63 = .ok (.iconst 4, 1) := by decide +kernel
theorem dX9_begins_64 : decode cX9_begins 64 = .ok (.if_icmp .ge 56, 3) := by decide +kernel
theorem dX9_begins_67 : decode cX9_begins 67 = .ok (.aload_n 0, 1) := by decide +kernel
theorem dX9_begins_68 : decode cX9_begins 68 = .ok (.getfield 9, 3) := by decide +kernel
theorem dX9_begins_71 : decode cX9_begins 71 = .ok (.sipush 290, 3) := by decide +kernel
theorem dX9_begins_74 : decode cX9_begins 74 = .ok (.iconst 3, 1) := by decide +kernel
theorem dX9_begins_75 : decode cX9_begins 75 = .ok (.iload_n 3, 1) := by decide +kernel
theorem dX9_begins_76 : decode cX9_begins 76 = .ok (.imul, 1) := by decide +kernel
theorem dX9_begins_77 : decode cX9_begins 77 = .ok (.iadd, 1) := by decide +kernel
theorem dX9_begins_78 : decode cX9_begins 78 = .ok (.bipush 20, 2) := by decide +kernel
theorem dX9_begins_80 : decode cX9_begins 80 = .ok (.iastore, 1) := by decide +kernel
theorem dX9_begins_81 : decode cX9_begins 81 = .ok (.aload_n 0, 1) := by decide +kernel
theorem dX9_begins_82 : decode cX9_begins 82 = .ok (.getfield 9, 3) := by decide +kernel
theorem dX9_begins_85 : decode cX9_begins 85 = .ok (.sipush 290, 3) := by decide +kernel
theorem dX9_begins_88 : decode cX9_begins 88 = .ok (.iconst 3, 1) := by decide +kernel
theorem dX9_begins_89 : decode cX9_begins 89 = .ok (.iload_n 3, 1) := by decide +kernel
theorem dX9_begins_90 : decode cX9_begins 90 = .ok (.imul, 1) := by decide +kernel
theorem dX9_begins_91 : decode cX9_begins 91 = .ok (.iadd, 1) := by decide +kernel
theorem dX9_begins_92 : decode cX9_begins 92 = .ok (.iconst 1, 1) := by decide +kernel
theorem dX9_begins_93 : decode cX9_begins 93 = .ok (.iadd, 1) := by decide +kernel
theorem dX9_begins_94 : decode cX9_begins 94 = .ok (.bipush 10, 2) := by decide +kernel
theorem dX9_begins_96 : decode cX9_begins 96 = .ok (.iastore, 1) := by decide +kernel
theorem dX9_begins_97 : decode cX9_begins 97 = .ok (.aload_n 0, 1) := by decide +kernel
theorem dX9_begins_98 : decode cX9_begins 98 = .ok (.getfield 9, 3) := by decide +kernel
theorem dX9_begins_101 : decode cX9_begins 101 = .ok (.sipush 290, 3) := by decide +kernel
theorem dX9_begins_104 : decode cX9_begins 104 = .ok (.iconst 3, 1) := by decide +kernel
theorem dX9_begins_105 : decode cX9_begins 105 = .ok (.iload_n 3, 1) := by decide +kernel
theorem dX9_begins_106 : decode cX9_begins 106 = .ok (.imul, 1) := by decide +kernel
theorem dX9_begins_107 : decode cX9_begins 107 = .ok (.iadd, 1) := by decide +kernel
theorem dX9_begins_108 : decode cX9_begins 108 = .ok (.iconst 2, 1) := by decide +kernel
theorem dX9_begins_109 : decode cX9_begins 109 = .ok (.iadd, 1) := by decide +kernel
theorem dX9_begins_110 : decode cX9_begins 110 = .ok (.sipush 300, 3) := by decide +kernel
theorem dX9_begins_113 : decode cX9_begins 113 = .ok (.iastore, 1) := by decide +kernel
theorem dX9_begins_114 : decode cX9_begins 114 = .ok (.iinc 3 1, 3) := by decide +kernel
theorem dX9_begins_117 : decode cX9_begins 117 = .ok (.goto (-55), 3) := by decide +kernel
theorem dX9_begins_120 : decode cX9_begins 120 = .ok (.aload_n 0, 1) := by decide +kernel
theorem dX9_begins_121 : decode cX9_begins 121 = .ok (.getfield 9, 3) := by decide +kernel
theorem dX9_begins_124 : decode cX9_begins 124 = .ok (.sipush 320, 3) := by decide +kernel
theorem dX9_begins_127 : decode cX9_begins 127 = .ok (.iconst (-1), 1) := by decide +kernel
theorem dX9_begins_128 : decode cX9_begins 128 = .ok (.iastore, 1) := by decide +kernel
theorem dX9_begins_129 : decode cX9_begins 129 = .ok (.return_, 1) := by decide +kernel
set_option maxHeartbeats 4000000 in
theorem t_X9_begins_62_b {X : sj_X} {s0 : sj_Mem} {N : Nat} {q : Unit × sj_Mem} {k62 : Nat → Int → sj_Mem → Option (Unit × sj_Mem)} (hk62 : ∀ (a0 : Nat) (x3 : Int) (s : sj_Mem), k62 a0 x3 s = some q → sj_T X m_X9_begins s0 (none, q.2) 62 [some (sj_r (some a0)), none, none, some (sj_i x3)] [] s) :
    ∀ (a0 : Nat) (x3 : Int) (s : sj_Mem), f_X9_begins_62_b N k62 a0 x3 s = some q → sj_T X m_X9_begins s0 (none, q.2) 62 [some (sj_r (some a0)), none, none, some (sj_i x3)] [] s := by
  intro a0 x3 s h
  unfold f_X9_begins_62_b at h
  refine r_iload_n (pc := 62) dX9_begins_62 rfl rfl ?_
  refine r_iconst (pc := 63) dX9_begins_63 ?_
  refine r_icmp_ge (pc := 64) (tgt := 120) h dX9_begins_64 (by decide) (fun h => ?_) (fun h => ?_)
  · refine r_aload_n (pc := 120) dX9_begins_120 rfl rfl ?_
    refine r_gR (pc := 121) h dX9_begins_121 fw_X9_9 rfl (fun r1 h => ?_)
    refine r_sipush (pc := 124) dX9_begins_124 ⟨by decide, by decide⟩ ?_
    refine r_iconst (pc := 127) dX9_begins_127 ?_
    obtain ⟨a2, ea2, g⟩ := e_nn_some h
    clear h
    subst ea2
    have h := g
    clear g
    refine r_iastore (pc := 128) h dX9_begins_128 (fun s3 h => ?_)
    exact r_vret (pc := 129) h rfl dX9_begins_129
  · refine r_aload_n (pc := 67) dX9_begins_67 rfl rfl ?_
    refine r_gR (pc := 68) h dX9_begins_68 fw_X9_9 rfl (fun r4 h => ?_)
    refine r_sipush (pc := 71) dX9_begins_71 ⟨by decide, by decide⟩ ?_
    refine r_iconst (pc := 74) dX9_begins_74 ?_
    refine r_iload_n (pc := 75) dX9_begins_75 rfl rfl ?_
    refine r_imul (pc := 76) dX9_begins_76 ?_
    refine r_iadd (pc := 77) dX9_begins_77 ?_
    refine r_bipush (pc := 78) dX9_begins_78 ⟨by decide, by decide⟩ ?_
    obtain ⟨a5, ea5, g⟩ := e_nn_some h
    clear h
    subst ea5
    have h := g
    clear g
    refine r_iastore (pc := 80) h dX9_begins_80 (fun s6 h => ?_)
    refine r_aload_n (pc := 81) dX9_begins_81 rfl rfl ?_
    refine r_gR (pc := 82) h dX9_begins_82 fw_X9_9 rfl (fun r7 h => ?_)
    refine r_sipush (pc := 85) dX9_begins_85 ⟨by decide, by decide⟩ ?_
    refine r_iconst (pc := 88) dX9_begins_88 ?_
    refine r_iload_n (pc := 89) dX9_begins_89 rfl rfl ?_
    refine r_imul (pc := 90) dX9_begins_90 ?_
    refine r_iadd (pc := 91) dX9_begins_91 ?_
    refine r_iconst (pc := 92) dX9_begins_92 ?_
    refine r_iadd (pc := 93) dX9_begins_93 ?_
    refine r_bipush (pc := 94) dX9_begins_94 ⟨by decide, by decide⟩ ?_
    obtain ⟨a8, ea8, g⟩ := e_nn_some h
    clear h
    subst ea8
    have h := g
    clear g
    refine r_iastore (pc := 96) h dX9_begins_96 (fun s9 h => ?_)
    refine r_aload_n (pc := 97) dX9_begins_97 rfl rfl ?_
    refine r_gR (pc := 98) h dX9_begins_98 fw_X9_9 rfl (fun r10 h => ?_)
    refine r_sipush (pc := 101) dX9_begins_101 ⟨by decide, by decide⟩ ?_
    refine r_iconst (pc := 104) dX9_begins_104 ?_
    refine r_iload_n (pc := 105) dX9_begins_105 rfl rfl ?_
    refine r_imul (pc := 106) dX9_begins_106 ?_
    refine r_iadd (pc := 107) dX9_begins_107 ?_
    refine r_iconst (pc := 108) dX9_begins_108 ?_
    refine r_iadd (pc := 109) dX9_begins_109 ?_
    refine r_sipush (pc := 110) dX9_begins_110 ⟨by decide, by decide⟩ ?_
    obtain ⟨a11, ea11, g⟩ := e_nn_some h
    clear h
    subst ea11
    have h := g
    clear g
    refine r_iastore (pc := 113) h dX9_begins_113 (fun s12 h => ?_)
    refine r_iinc (ln := fun w => [some (sj_r (some a0)), none, none, some (sj_i w)]) (pc := 114) h dX9_begins_114 rfl (Nat.le_of_ble_eq_true rfl) (fun _ => rfl) (fun v13 h => ?_)
    refine r_goto (pc := 117) (tgt := 62) dX9_begins_117 (by decide) ?_
    exact sj_weak (l2 := [some (sj_r (some a0)), none, none, some (sj_i v13)]) (⟨rfl, ⟨rfl, trivial⟩⟩) (hk62 a0 v13 s12 h)
set_option maxHeartbeats 4000000 in
theorem t_X9_begins_62 {X : sj_X} {s0 : sj_Mem} {N : Nat} {q : Unit × sj_Mem} :
    ∀ (n : Nat) (a0 : Nat) (x3 : Int) (s : sj_Mem), f_X9_begins_62 N n a0 x3 s = some q → sj_T X m_X9_begins s0 (none, q.2) 62 [some (sj_r (some a0)), none, none, some (sj_i x3)] [] s := by
  intro n
  induction n with
  | zero => intro a0 x3 s h; exact nomatch h
  | succ n ih => intro a0 x3 s h; exact t_X9_begins_62_b (N := N) ih a0 x3 s h
set_option maxHeartbeats 4000000 in
theorem t_X9_begins_38_b {X : sj_X} {s0 : sj_Mem} {N : Nat} {q : Unit × sj_Mem} {k38 : Nat → Int → sj_Mem → Option (Unit × sj_Mem)} (hk38 : ∀ (a0 : Nat) (x3 : Int) (s : sj_Mem), k38 a0 x3 s = some q → sj_T X m_X9_begins s0 (none, q.2) 38 [some (sj_r (some a0)), none, none, some (sj_i x3)] [] s) :
    ∀ (a0 : Nat) (x3 : Int) (s : sj_Mem), f_X9_begins_38_b N k38 a0 x3 s = some q → sj_T X m_X9_begins s0 (none, q.2) 38 [some (sj_r (some a0)), none, none, some (sj_i x3)] [] s := by
  intro a0 x3 s h
  unfold f_X9_begins_38_b at h
  refine r_iload_n (pc := 38) dX9_begins_38 rfl rfl ?_
  refine r_bipush (pc := 39) dX9_begins_39 ⟨by decide, by decide⟩ ?_
  refine r_icmp_ge (pc := 41) (tgt := 60) h dX9_begins_41 (by decide) (fun h => ?_) (fun h => ?_)
  · refine r_iconst (pc := 60) dX9_begins_60 ?_
    refine r_istore_n (ln := [some (sj_r (some a0)), none, none, some (sj_i 0)]) (pc := 61) dX9_begins_61 rfl (Nat.le_of_ble_eq_true rfl) rfl ?_
    exact sj_weak (l2 := [some (sj_r (some a0)), none, none, some (sj_i 0)]) (⟨rfl, ⟨rfl, trivial⟩⟩) (t_X9_begins_62 N a0 0 s h)
  · refine r_aload_n (pc := 44) dX9_begins_44 rfl rfl ?_
    refine r_gR (pc := 45) h dX9_begins_45 fw_X9_9 rfl (fun r1 h => ?_)
    refine r_iconst (pc := 48) dX9_begins_48 ?_
    refine r_iload_n (pc := 49) dX9_begins_49 rfl rfl ?_
    refine r_iadd (pc := 50) dX9_begins_50 ?_
    refine r_bipush (pc := 51) dX9_begins_51 ⟨by decide, by decide⟩ ?_
    obtain ⟨a2, ea2, g⟩ := e_nn_some h
    clear h
    subst ea2
    have h := g
    clear g
    refine r_iastore (pc := 53) h dX9_begins_53 (fun s3 h => ?_)
    refine r_iinc (ln := fun w => [some (sj_r (some a0)), none, none, some (sj_i w)]) (pc := 54) h dX9_begins_54 rfl (Nat.le_of_ble_eq_true rfl) (fun _ => rfl) (fun v4 h => ?_)
    refine r_goto (pc := 57) (tgt := 38) dX9_begins_57 (by decide) ?_
    exact sj_weak (l2 := [some (sj_r (some a0)), none, none, some (sj_i v4)]) (⟨rfl, ⟨rfl, trivial⟩⟩) (hk38 a0 v4 s3 h)
set_option maxHeartbeats 4000000 in
theorem t_X9_begins_38 {X : sj_X} {s0 : sj_Mem} {N : Nat} {q : Unit × sj_Mem} :
    ∀ (n : Nat) (a0 : Nat) (x3 : Int) (s : sj_Mem), f_X9_begins_38 N n a0 x3 s = some q → sj_T X m_X9_begins s0 (none, q.2) 38 [some (sj_r (some a0)), none, none, some (sj_i x3)] [] s := by
  intro n
  induction n with
  | zero => intro a0 x3 s h; exact nomatch h
  | succ n ih => intro a0 x3 s h; exact t_X9_begins_38_b (N := N) ih a0 x3 s h
set_option maxHeartbeats 4000000 in
theorem t_X9_begins_2_b {X : sj_X} {s0 : sj_Mem} {N : Nat} {q : Unit × sj_Mem} {k2 : Nat → Int → Int → Int → sj_Mem → Option (Unit × sj_Mem)} (hk2 : ∀ (a0 : Nat) (x1 : Int) (x2 : Int) (x3 : Int) (s : sj_Mem), k2 a0 x1 x2 x3 s = some q → sj_T X m_X9_begins s0 (none, q.2) 2 [some (sj_r (some a0)), some (sj_i x1), some (sj_i x2), some (sj_i x3)] [] s) :
    ∀ (a0 : Nat) (x1 : Int) (x2 : Int) (x3 : Int) (s : sj_Mem), f_X9_begins_2_b N k2 a0 x1 x2 x3 s = some q → sj_T X m_X9_begins s0 (none, q.2) 2 [some (sj_r (some a0)), some (sj_i x1), some (sj_i x2), some (sj_i x3)] [] s := by
  intro a0 x1 x2 x3 s h
  unfold f_X9_begins_2_b at h
  refine r_iload_n (pc := 2) dX9_begins_2 rfl rfl ?_
  refine r_sipush (pc := 3) dX9_begins_3 ⟨by decide, by decide⟩ ?_
  refine r_icmp_ge (pc := 6) (tgt := 22) h dX9_begins_6 (by decide) (fun h => ?_) (fun h => ?_)
  · refine r_aload_n (pc := 22) dX9_begins_22 rfl rfl ?_
    refine r_gR (pc := 23) h dX9_begins_23 fw_X9_9 rfl (fun r1 h => ?_)
    refine r_iconst (pc := 26) dX9_begins_26 ?_
    refine r_iload_n (pc := 27) dX9_begins_27 rfl rfl ?_
    obtain ⟨a2, ea2, g⟩ := e_nn_some h
    clear h
    subst ea2
    have h := g
    clear g
    refine r_iastore (pc := 28) h dX9_begins_28 (fun s3 h => ?_)
    refine r_aload_n (pc := 29) dX9_begins_29 rfl rfl ?_
    refine r_gR (pc := 30) h dX9_begins_30 fw_X9_9 rfl (fun r4 h => ?_)
    refine r_iconst (pc := 33) dX9_begins_33 ?_
    refine r_iload_n (pc := 34) dX9_begins_34 rfl rfl ?_
    obtain ⟨a5, ea5, g⟩ := e_nn_some h
    clear h
    subst ea5
    have h := g
    clear g
    refine r_iastore (pc := 35) h dX9_begins_35 (fun s6 h => ?_)
    refine r_iconst (pc := 36) dX9_begins_36 ?_
    refine r_istore_n (ln := [some (sj_r (some a0)), some (sj_i x1), some (sj_i x2), some (sj_i 0)]) (pc := 37) dX9_begins_37 rfl (Nat.le_of_ble_eq_true rfl) rfl ?_
    exact sj_weak (l2 := [some (sj_r (some a0)), none, none, some (sj_i 0)]) (⟨rfl, ⟨rfl, trivial⟩⟩) (t_X9_begins_38 N a0 0 s6 h)
  · refine r_aload_n (pc := 9) dX9_begins_9 rfl rfl ?_
    refine r_gR (pc := 10) h dX9_begins_10 fw_X9_9 rfl (fun r7 h => ?_)
    refine r_iload_n (pc := 13) dX9_begins_13 rfl rfl ?_
    refine r_iconst (pc := 14) dX9_begins_14 ?_
    obtain ⟨a8, ea8, g⟩ := e_nn_some h
    clear h
    subst ea8
    have h := g
    clear g
    refine r_iastore (pc := 15) h dX9_begins_15 (fun s9 h => ?_)
    refine r_iinc (ln := fun w => [some (sj_r (some a0)), some (sj_i x1), some (sj_i x2), some (sj_i w)]) (pc := 16) h dX9_begins_16 rfl (Nat.le_of_ble_eq_true rfl) (fun _ => rfl) (fun v10 h => ?_)
    refine r_goto (pc := 19) (tgt := 2) dX9_begins_19 (by decide) ?_
    exact sj_weak (l2 := [some (sj_r (some a0)), some (sj_i x1), some (sj_i x2), some (sj_i v10)]) (⟨rfl, ⟨rfl, ⟨rfl, ⟨rfl, trivial⟩⟩⟩⟩) (hk2 a0 x1 x2 v10 s9 h)
set_option maxHeartbeats 4000000 in
theorem t_X9_begins_2 {X : sj_X} {s0 : sj_Mem} {N : Nat} {q : Unit × sj_Mem} :
    ∀ (n : Nat) (a0 : Nat) (x1 : Int) (x2 : Int) (x3 : Int) (s : sj_Mem), f_X9_begins_2 N n a0 x1 x2 x3 s = some q → sj_T X m_X9_begins s0 (none, q.2) 2 [some (sj_r (some a0)), some (sj_i x1), some (sj_i x2), some (sj_i x3)] [] s := by
  intro n
  induction n with
  | zero => intro a0 x1 x2 x3 s h; exact nomatch h
  | succ n ih => intro a0 x1 x2 x3 s h; exact t_X9_begins_2_b (N := N) ih a0 x1 x2 x3 s h
set_option maxHeartbeats 4000000 in
theorem t_X9_begins_0 {X : sj_X} {s0 : sj_Mem} {N : Nat} {q : Unit × sj_Mem} :
    ∀ (a0 : Nat) (x1 : Int) (x2 : Int) (s : sj_Mem), f_X9_begins N a0 x1 x2 s = some q → sj_T X m_X9_begins s0 (none, q.2) 0 [some (sj_r (some a0)), some (sj_i x1), some (sj_i x2), none] [] s := by
  intro a0 x1 x2 s h
  unfold f_X9_begins at h
  refine r_iconst (pc := 0) dX9_begins_0 ?_
  refine r_istore_n (ln := [some (sj_r (some a0)), some (sj_i x1), some (sj_i x2), some (sj_i 0)]) (pc := 1) dX9_begins_1 rfl (Nat.le_of_ble_eq_true rfl) rfl ?_
  exact sj_weak (l2 := [some (sj_r (some a0)), some (sj_i x1), some (sj_i x2), some (sj_i 0)]) (⟨rfl, ⟨rfl, ⟨rfl, ⟨rfl, trivial⟩⟩⟩⟩) (t_X9_begins_2 N a0 x1 x2 0 s h)
set_option maxHeartbeats 4000000 in
theorem c_X9_begins {X : sj_X} {N : Nat} {a0 : Nat} {x1 : Int} {x2 : Int} {s : sj_Mem} {q : Unit × sj_Mem} (h : f_X9_begins N a0 x1 x2 s = some q) : sj_C X m_X9_begins [sj_r (some a0), sj_i x1, sj_i x2] s (none, q.2) :=
  sj_C_of (by decide +kernel) (Nat.le_of_ble_eq_true rfl) (lo := [some (sj_r (some a0)), some (sj_i x1), some (sj_i x2), none]) rfl (sj_weak (l2 := [some (sj_r (some a0)), some (sj_i x1), some (sj_i x2), none]) (⟨rfl, ⟨rfl, ⟨rfl, trivial⟩⟩⟩) (t_X9_begins_0 a0 x1 x2 s h))
theorem dX9_init_0 : decode cX9_init 0 = .ok (.aload_n 0, 1) := by decide +kernel
theorem dX9_init_1 : decode cX9_init 1 = .ok (.invokespecial 3, 3) := by decide +kernel
theorem dX9_init_4 : decode cX9_init 4 = .ok (.aload_n 0, 1) := by decide +kernel
theorem dX9_init_5 : decode cX9_init 5 = .ok (.sipush 390, 3) := by decide +kernel
theorem dX9_init_8 : decode cX9_init 8 = .ok (.newarray .int, 2) := by decide +kernel
theorem dX9_init_10 : decode cX9_init 10 = .ok (.putfield 9, 3) := by decide +kernel
theorem dX9_init_13 : decode cX9_init 13 = .ok (.aload_n 0, 1) := by decide +kernel
theorem dX9_init_14 : decode cX9_init 14 = .ok (.sipush 390, 3) := by decide +kernel
theorem dX9_init_17 : decode cX9_init 17 = .ok (.newarray .int, 2) := by decide +kernel
theorem dX9_init_19 : decode cX9_init 19 = .ok (.putfield 13, 3) := by decide +kernel
theorem dX9_init_22 : decode cX9_init 22 = .ok (.aload_n 0, 1) := by decide +kernel
theorem dX9_init_23 : decode cX9_init 23 = .ok (.sipush 390, 3) := by decide +kernel
theorem dX9_init_26 : decode cX9_init 26 = .ok (.newarray .int, 2) := by decide +kernel
theorem dX9_init_28 : decode cX9_init 28 = .ok (.putfield 16, 3) := by decide +kernel
theorem dX9_init_31 : decode cX9_init 31 = .ok (.aload_n 0, 1) := by decide +kernel
theorem dX9_init_32 : decode cX9_init 32 = .ok (.sipush 2912, 3) := by decide +kernel
theorem dX9_init_35 : decode cX9_init 35 = .ok (.newarray .int, 2) := by decide +kernel
theorem dX9_init_37 : decode cX9_init 37 = .ok (.putfield 19, 3) := by decide +kernel
theorem dX9_init_40 : decode cX9_init 40 = .ok (.aload_n 0, 1) := by decide +kernel
theorem dX9_init_41 : decode cX9_init 41 = .ok (.iconst (-1), 1) := by decide +kernel
theorem dX9_init_42 : decode cX9_init 42 = .ok (.putfield 22, 3) := by decide +kernel
theorem dX9_init_45 : decode cX9_init 45 = .ok (.aload_n 0, 1) := by decide +kernel
theorem dX9_init_46 : decode cX9_init 46 = .ok (.bipush 41, 2) := by decide +kernel
theorem dX9_init_48 : decode cX9_init 48 = .ok (.newarray .int, 2) := by decide +kernel
theorem dX9_init_50 : decode cX9_init 50 = .ok (.putfield 26, 3) := by decide +kernel
theorem dX9_init_53 : decode cX9_init 53 = .ok (.aload_n 0, 1) := by decide +kernel
theorem dX9_init_54 : decode cX9_init 54 = .ok (.sipush 4141, 3) := by decide +kernel
theorem dX9_init_57 : decode cX9_init 57 = .ok (.newarray .long, 2) := by decide +kernel
theorem dX9_init_59 : decode cX9_init 59 = .ok (.putfield 29, 3) := by decide +kernel
theorem dX9_init_62 : decode cX9_init 62 = .ok (.aload_n 0, 1) := by decide +kernel
theorem dX9_init_63 : decode cX9_init 63 = .ok (.sipush 4141, 3) := by decide +kernel
theorem dX9_init_66 : decode cX9_init 66 = .ok (.newarray .int, 2) := by decide +kernel
theorem dX9_init_68 : decode cX9_init 68 = .ok (.putfield 33, 3) := by decide +kernel
theorem dX9_init_71 : decode cX9_init 71 = .ok (.aload_n 0, 1) := by decide +kernel
theorem dX9_init_72 : decode cX9_init 72 = .ok (.bipush 41, 2) := by decide +kernel
theorem dX9_init_74 : decode cX9_init 74 = .ok (.newarray .long, 2) := by decide +kernel
theorem dX9_init_76 : decode cX9_init 76 = .ok (.putfield 36, 3) := by decide +kernel
theorem dX9_init_79 : decode cX9_init 79 = .ok (.aload_n 0, 1) := by decide +kernel
theorem dX9_init_80 : decode cX9_init 80 = .ok (.bipush 40, 2) := by decide +kernel
theorem dX9_init_82 : decode cX9_init 82 = .ok (.newarray .int, 2) := by decide +kernel
theorem dX9_init_84 : decode cX9_init 84 = .ok (.putfield 39, 3) := by decide +kernel
theorem dX9_init_87 : decode cX9_init 87 = .ok (.aload_n 0, 1) := by decide +kernel
theorem dX9_init_88 : decode cX9_init 88 = .ok (.sipush 600, 3) := by decide +kernel
theorem dX9_init_91 : decode cX9_init 91 = .ok (.newarray .byte, 2) := by decide +kernel
theorem dX9_init_93 : decode cX9_init 93 = .ok (.putfield 42, 3) := by decide +kernel
theorem dX9_init_96 : decode cX9_init 96 = .ok (.aload_n 0, 1) := by decide +kernel
theorem dX9_init_97 : decode cX9_init 97 = .ok (.iconst (-1), 1) := by decide +kernel
theorem dX9_init_98 : decode cX9_init 98 = .ok (.putfield 46, 3) := by decide +kernel
theorem dX9_init_101 : decode cX9_init 101 = .ok (.aload_n 0, 1) := by decide +kernel
theorem dX9_init_102 : decode cX9_init 102 = .ok (.bipush 20, 2) := by decide +kernel
theorem dX9_init_104 : decode cX9_init 104 = .ok (.newarray .boolean, 2) := by decide +kernel
theorem dX9_init_106 : decode cX9_init 106 = .ok (.putfield 49, 3) := by decide +kernel
theorem dX9_init_109 : decode cX9_init 109 = .ok (.aload_n 0, 1) := by decide +kernel
theorem dX9_init_110 : decode cX9_init 110 = .ok (.bipush 20, 2) := by decide +kernel
theorem dX9_init_112 : decode cX9_init 112 = .ok (.iconst 4, 1) := by decide +kernel
theorem dX9_init_113 : decode cX9_init 113 = .ok (.invokevirtual 53, 3) := by decide +kernel
theorem dX9_init_116 : decode cX9_init 116 = .ok (.return_, 1) := by decide +kernel
set_option maxHeartbeats 4000000 in
theorem t_X9_init_0 {X : sj_X} {s0 : sj_Mem} {N : Nat} {q : Unit × sj_Mem} :
    ∀ (a0 : Nat) (s : sj_Mem), f_X9_init N a0 s = some q → sj_T X m_X9_init s0 (none, q.2) 0 [some (sj_r (some a0))] [] s := by
  intro a0 s h
  unfold f_X9_init at h
  refine r_aload_n (pc := 0) dX9_init_0 rfl rfl ?_
  refine r_oinit (pc := 1) dX9_init_1 ow_X9_3 (Nat.le_of_ble_eq_true rfl) (Nat.le_of_ble_eq_true rfl) ?_
  refine r_aload_n (pc := 4) dX9_init_4 rfl rfl ?_
  refine r_sipush (pc := 5) dX9_init_5 ⟨by decide, by decide⟩ ?_
  refine r_nA_I (pc := 8) h dX9_init_8 kw_62 (fun a1 s2 h => ?_)
  refine r_pF (pc := 10) h dX9_init_10 ff_X9_9 rfl rfl (Or.inr ⟨_, rfl⟩) (fun s3 h => ?_)
  refine r_aload_n (pc := 13) dX9_init_13 rfl rfl ?_
  refine r_sipush (pc := 14) dX9_init_14 ⟨by decide, by decide⟩ ?_
  refine r_nA_I (pc := 17) h dX9_init_17 kw_62 (fun a4 s5 h => ?_)
  refine r_pF (pc := 19) h dX9_init_19 ff_X9_13 rfl rfl (Or.inr ⟨_, rfl⟩) (fun s6 h => ?_)
  refine r_aload_n (pc := 22) dX9_init_22 rfl rfl ?_
  refine r_sipush (pc := 23) dX9_init_23 ⟨by decide, by decide⟩ ?_
  refine r_nA_I (pc := 26) h dX9_init_26 kw_62 (fun a7 s8 h => ?_)
  refine r_pF (pc := 28) h dX9_init_28 ff_X9_16 rfl rfl (Or.inr ⟨_, rfl⟩) (fun s9 h => ?_)
  refine r_aload_n (pc := 31) dX9_init_31 rfl rfl ?_
  refine r_sipush (pc := 32) dX9_init_32 ⟨by decide, by decide⟩ ?_
  refine r_nA_I (pc := 35) h dX9_init_35 kw_62 (fun a10 s11 h => ?_)
  refine r_pF (pc := 37) h dX9_init_37 ff_X9_19 rfl rfl (Or.inr ⟨_, rfl⟩) (fun s12 h => ?_)
  refine r_aload_n (pc := 40) dX9_init_40 rfl rfl ?_
  refine r_iconst (pc := 41) dX9_init_41 ?_
  refine r_pI (pc := 42) h dX9_init_42 fw_X9_22 rfl rfl (fun _ hq => by cases hq; rfl) (fun s13 h => ?_)
  refine r_aload_n (pc := 45) dX9_init_45 rfl rfl ?_
  refine r_bipush (pc := 46) dX9_init_46 ⟨by decide, by decide⟩ ?_
  refine r_nA_I (pc := 48) h dX9_init_48 kw_62 (fun a14 s15 h => ?_)
  refine r_pF (pc := 50) h dX9_init_50 ff_X9_26 rfl rfl (Or.inr ⟨_, rfl⟩) (fun s16 h => ?_)
  refine r_aload_n (pc := 53) dX9_init_53 rfl rfl ?_
  refine r_sipush (pc := 54) dX9_init_54 ⟨by decide, by decide⟩ ?_
  refine r_nA_J (pc := 57) h dX9_init_57 kw_276 (fun a17 s18 h => ?_)
  refine r_pF (pc := 59) h dX9_init_59 ff_X9_29 rfl rfl (Or.inr ⟨_, rfl⟩) (fun s19 h => ?_)
  refine r_aload_n (pc := 62) dX9_init_62 rfl rfl ?_
  refine r_sipush (pc := 63) dX9_init_63 ⟨by decide, by decide⟩ ?_
  refine r_nA_I (pc := 66) h dX9_init_66 kw_62 (fun a20 s21 h => ?_)
  refine r_pF (pc := 68) h dX9_init_68 ff_X9_33 rfl rfl (Or.inr ⟨_, rfl⟩) (fun s22 h => ?_)
  refine r_aload_n (pc := 71) dX9_init_71 rfl rfl ?_
  refine r_bipush (pc := 72) dX9_init_72 ⟨by decide, by decide⟩ ?_
  refine r_nA_J (pc := 74) h dX9_init_74 kw_276 (fun a23 s24 h => ?_)
  refine r_pF (pc := 76) h dX9_init_76 ff_X9_36 rfl rfl (Or.inr ⟨_, rfl⟩) (fun s25 h => ?_)
  refine r_aload_n (pc := 79) dX9_init_79 rfl rfl ?_
  refine r_bipush (pc := 80) dX9_init_80 ⟨by decide, by decide⟩ ?_
  refine r_nA_I (pc := 82) h dX9_init_82 kw_62 (fun a26 s27 h => ?_)
  refine r_pF (pc := 84) h dX9_init_84 ff_X9_39 rfl rfl (Or.inr ⟨_, rfl⟩) (fun s28 h => ?_)
  refine r_aload_n (pc := 87) dX9_init_87 rfl rfl ?_
  refine r_sipush (pc := 88) dX9_init_88 ⟨by decide, by decide⟩ ?_
  refine r_nA_B (pc := 91) h dX9_init_91 kw_590 (fun a29 s30 h => ?_)
  refine r_pF (pc := 93) h dX9_init_93 ff_X9_42 rfl rfl (Or.inr ⟨_, rfl⟩) (fun s31 h => ?_)
  refine r_aload_n (pc := 96) dX9_init_96 rfl rfl ?_
  refine r_iconst (pc := 97) dX9_init_97 ?_
  refine r_pI (pc := 98) h dX9_init_98 fw_X9_46 rfl rfl (fun _ hq => by cases hq; rfl) (fun s32 h => ?_)
  refine r_aload_n (pc := 101) dX9_init_101 rfl rfl ?_
  refine r_bipush (pc := 102) dX9_init_102 ⟨by decide, by decide⟩ ?_
  refine r_nA_Z (pc := 104) h dX9_init_104 kw_1213 (fun a33 s34 h => ?_)
  refine r_pF (pc := 106) h dX9_init_106 ff_X9_49 rfl rfl (Or.inr ⟨_, rfl⟩) (fun s35 h => ?_)
  refine r_aload_n (pc := 109) dX9_init_109 rfl rfl ?_
  refine r_bipush (pc := 110) dX9_init_110 ⟨by decide, by decide⟩ ?_
  refine r_iconst (pc := 112) dX9_init_112 ?_
  refine r_callV (pc := 113) (fun _ => none) (As := [sj_i 20, sj_i 4]) (rest := []) h dX9_init_113 mw_X9_53 vw_X9_begins (fun _ _ hc => c_X9_begins hc) rfl ⟨(Nat.le_of_ble_eq_true rfl), (Nat.le_of_ble_eq_true rfl)⟩ (Nat.le_of_ble_eq_true rfl) rfl (fun _u s36 h => ?_)
  exact r_vret (pc := 116) h rfl dX9_init_116
set_option maxHeartbeats 4000000 in
theorem c_X9_init {X : sj_X} {N : Nat} {a0 : Nat} {s : sj_Mem} {q : Unit × sj_Mem} (h : f_X9_init N a0 s = some q) : sj_C X m_X9_init [sj_r (some a0)] s (none, q.2) :=
  sj_C_of (by decide +kernel) (Nat.le_of_ble_eq_true rfl) (lo := [some (sj_r (some a0))]) rfl (sj_weak (l2 := [some (sj_r (some a0))]) (⟨rfl, trivial⟩) (t_X9_init_0 a0 s h))
theorem dX9_soilOver_0 : decode cX9_soilOver 0 = .ok (.iconst 0, 1) := by decide +kernel
theorem dX9_soilOver_1 : decode cX9_soilOver 1 = .ok (.istore_n 1, 1) := by decide +kernel
theorem dX9_soilOver_2 : decode cX9_soilOver 2 = .ok (.iconst 0, 1) := by decide +kernel
theorem dX9_soilOver_3 : decode cX9_soilOver 3 = .ok (.istore_n 2, 1) := by decide +kernel
theorem dX9_soilOver_4 : decode cX9_soilOver 4 = .ok (.iload_n 2, 1) := by decide +kernel
theorem dX9_soilOver_5 : decode cX9_soilOver 5 = .ok (.aload_n 0, 1) := by decide +kernel
theorem dX9_soilOver_6 : decode cX9_soilOver 6 = .ok (.getfield 9, 3) := by decide +kernel
theorem dX9_soilOver_9 : decode cX9_soilOver 9 = .ok (.iconst 0, 1) := by decide +kernel
theorem dX9_soilOver_10 : decode cX9_soilOver 10 = .ok (.iaload, 1) := by decide +kernel
theorem dX9_soilOver_11 : decode cX9_soilOver 11 = .ok (.if_icmp .gt 30, 3) := by decide +kernel
theorem dX9_soilOver_14 : decode cX9_soilOver 14 = .ok (.iload_n 1, 1) := by decide +kernel
theorem dX9_soilOver_15 : decode cX9_soilOver 15 = .ok (.aload_n 0, 1) := by decide +kernel
theorem dX9_soilOver_16 : decode cX9_soilOver 16 = .ok (.getfield 9, 3) := by decide +kernel
theorem dX9_soilOver_19 : decode cX9_soilOver 19 = .ok (.iconst 3, 1) := by decide +kernel
theorem dX9_soilOver_20 : decode cX9_soilOver 20 = .ok (.iload_n 2, 1) := by decide +kernel
theorem dX9_soilOver_21 : decode cX9_soilOver 21 = .ok (.iadd, 1) := by decide +kernel
theorem dX9_soilOver_22 : decode cX9_soilOver 22 = .ok (.iaload, 1) := by decide +kernel
theorem dX9_soilOver_23 : decode cX9_soilOver 23 = .ok (.aload_n 0, 1) := by decide +kernel
theorem dX9_soilOver_24 : decode cX9_soilOver 24 = .ok (.getfield 9, 3) := by decide +kernel
theorem dX9_soilOver_27 : decode cX9_soilOver 27 = .ok (.bipush 44, 2) := by decide +kernel
theorem dX9_soilOver_29 : decode cX9_soilOver 29 = .ok (.iload_n 2, 1) := by decide +kernel
theorem dX9_soilOver_30 : decode cX9_soilOver 30 = .ok (.iadd, 1) := by decide +kernel
theorem dX9_soilOver_31 : decode cX9_soilOver 31 = .ok (.iaload, 1) := by decide +kernel
theorem dX9_soilOver_32 : decode cX9_soilOver 32 = .ok (.isub, 1) := by decide +kernel
theorem dX9_soilOver_33 : decode cX9_soilOver 33 = .ok (.iadd, 1) := by decide +kernel
theorem dX9_soilOver_34 : decode cX9_soilOver 34 = .ok (.istore_n 1, 1) := by decide +kernel
theorem dX9_soilOver_35 : decode cX9_soilOver 35 = .ok (.iinc 2 1, 3) := by decide +kernel
theorem dX9_soilOver_38 : decode cX9_soilOver 38 = .ok (.goto (-34), 3) := by decide +kernel
theorem dX9_soilOver_41 : decode cX9_soilOver 41 = .ok (.iload_n 1, 1) := by decide +kernel
theorem dX9_soilOver_42 : decode cX9_soilOver 42 = .ok (.ireturn, 1) := by decide +kernel
set_option maxHeartbeats 4000000 in
theorem t_X9_soilOver_4_b {X : sj_X} {s0 : sj_Mem} {N : Nat} {q : Int × sj_Mem} {k4 : Nat → Int → Int → sj_Mem → Option (Int × sj_Mem)} (hk4 : ∀ (a0 : Nat) (x1 : Int) (x2 : Int) (s : sj_Mem), k4 a0 x1 x2 s = some q → sj_T X m_X9_soilOver s0 (some (sj_i q.1), q.2) 4 [some (sj_r (some a0)), some (sj_i x1), some (sj_i x2)] [] s) :
    ∀ (a0 : Nat) (x1 : Int) (x2 : Int) (s : sj_Mem), f_X9_soilOver_4_b N k4 a0 x1 x2 s = some q → sj_T X m_X9_soilOver s0 (some (sj_i q.1), q.2) 4 [some (sj_r (some a0)), some (sj_i x1), some (sj_i x2)] [] s := by
  intro a0 x1 x2 s h
  unfold f_X9_soilOver_4_b at h
  refine r_iload_n (pc := 4) dX9_soilOver_4 rfl rfl ?_
  refine r_aload_n (pc := 5) dX9_soilOver_5 rfl rfl ?_
  refine r_gR (pc := 6) h dX9_soilOver_6 fw_X9_9 rfl (fun r1 h => ?_)
  refine r_iconst (pc := 9) dX9_soilOver_9 ?_
  obtain ⟨a2, ea2, g⟩ := e_nn_some h
  clear h
  subst ea2
  have h := g
  clear g
  refine r_iaload (pc := 10) h dX9_soilOver_10 (fun v3 h => ?_)
  refine r_icmp_gt (pc := 11) (tgt := 41) h dX9_soilOver_11 (by decide) (fun h => ?_) (fun h => ?_)
  · refine r_iload_n (pc := 41) dX9_soilOver_41 rfl rfl ?_
    exact r_iret (pc := 42) h rfl dX9_soilOver_42
  · refine r_iload_n (pc := 14) dX9_soilOver_14 rfl rfl ?_
    refine r_aload_n (pc := 15) dX9_soilOver_15 rfl rfl ?_
    refine r_gR (pc := 16) h dX9_soilOver_16 fw_X9_9 rfl (fun r4 h => ?_)
    refine r_iconst (pc := 19) dX9_soilOver_19 ?_
    refine r_iload_n (pc := 20) dX9_soilOver_20 rfl rfl ?_
    refine r_iadd (pc := 21) dX9_soilOver_21 ?_
    obtain ⟨a5, ea5, g⟩ := e_nn_some h
    clear h
    subst ea5
    have h := g
    clear g
    refine r_iaload (pc := 22) h dX9_soilOver_22 (fun v6 h => ?_)
    refine r_aload_n (pc := 23) dX9_soilOver_23 rfl rfl ?_
    refine r_gR (pc := 24) h dX9_soilOver_24 fw_X9_9 rfl (fun r7 h => ?_)
    refine r_bipush (pc := 27) dX9_soilOver_27 ⟨by decide, by decide⟩ ?_
    refine r_iload_n (pc := 29) dX9_soilOver_29 rfl rfl ?_
    refine r_iadd (pc := 30) dX9_soilOver_30 ?_
    obtain ⟨a8, ea8, g⟩ := e_nn_some h
    clear h
    subst ea8
    have h := g
    clear g
    refine r_iaload (pc := 31) h dX9_soilOver_31 (fun v9 h => ?_)
    refine r_isub (pc := 32) dX9_soilOver_32 ?_
    refine r_iadd (pc := 33) dX9_soilOver_33 ?_
    refine r_istore_nL (ln := fun w => [some (sj_r (some a0)), some (sj_i w), some (sj_i x2)]) (pc := 34) h dX9_soilOver_34 rfl (Nat.le_of_ble_eq_true rfl) (fun _ => rfl) (fun v10 h => ?_)
    refine r_iinc (ln := fun w => [some (sj_r (some a0)), some (sj_i v10), some (sj_i w)]) (pc := 35) h dX9_soilOver_35 rfl (Nat.le_of_ble_eq_true rfl) (fun _ => rfl) (fun v11 h => ?_)
    refine r_goto (pc := 38) (tgt := 4) dX9_soilOver_38 (by decide) ?_
    exact sj_weak (l2 := [some (sj_r (some a0)), some (sj_i v10), some (sj_i v11)]) (⟨rfl, ⟨rfl, ⟨rfl, trivial⟩⟩⟩) (hk4 a0 v10 v11 s h)
set_option maxHeartbeats 4000000 in
theorem t_X9_soilOver_4 {X : sj_X} {s0 : sj_Mem} {N : Nat} {q : Int × sj_Mem} :
    ∀ (n : Nat) (a0 : Nat) (x1 : Int) (x2 : Int) (s : sj_Mem), f_X9_soilOver_4 N n a0 x1 x2 s = some q → sj_T X m_X9_soilOver s0 (some (sj_i q.1), q.2) 4 [some (sj_r (some a0)), some (sj_i x1), some (sj_i x2)] [] s := by
  intro n
  induction n with
  | zero => intro a0 x1 x2 s h; exact nomatch h
  | succ n ih => intro a0 x1 x2 s h; exact t_X9_soilOver_4_b (N := N) ih a0 x1 x2 s h
set_option maxHeartbeats 4000000 in
theorem t_X9_soilOver_0 {X : sj_X} {s0 : sj_Mem} {N : Nat} {q : Int × sj_Mem} :
    ∀ (a0 : Nat) (s : sj_Mem), f_X9_soilOver N a0 s = some q → sj_T X m_X9_soilOver s0 (some (sj_i q.1), q.2) 0 [some (sj_r (some a0)), none, none] [] s := by
  intro a0 s h
  unfold f_X9_soilOver at h
  refine r_iconst (pc := 0) dX9_soilOver_0 ?_
  refine r_istore_n (ln := [some (sj_r (some a0)), some (sj_i 0), none]) (pc := 1) dX9_soilOver_1 rfl (Nat.le_of_ble_eq_true rfl) rfl ?_
  refine r_iconst (pc := 2) dX9_soilOver_2 ?_
  refine r_istore_n (ln := [some (sj_r (some a0)), some (sj_i 0), some (sj_i 0)]) (pc := 3) dX9_soilOver_3 rfl (Nat.le_of_ble_eq_true rfl) rfl ?_
  exact sj_weak (l2 := [some (sj_r (some a0)), some (sj_i 0), some (sj_i 0)]) (⟨rfl, ⟨rfl, ⟨rfl, trivial⟩⟩⟩) (t_X9_soilOver_4 N a0 0 0 s h)
set_option maxHeartbeats 4000000 in
theorem c_X9_soilOver {X : sj_X} {N : Nat} {a0 : Nat} {s : sj_Mem} {q : Int × sj_Mem} (h : f_X9_soilOver N a0 s = some q) : sj_C X m_X9_soilOver [sj_r (some a0)] s (some (sj_i q.1), q.2) :=
  sj_C_of (by decide +kernel) (Nat.le_of_ble_eq_true rfl) (lo := [some (sj_r (some a0)), none, none]) rfl (sj_weak (l2 := [some (sj_r (some a0)), none, none]) (⟨rfl, trivial⟩) (t_X9_soilOver_0 a0 s h))
theorem dX9_most_0 : decode cX9_most 0 = .ok (.iload_n 0, 1) := by decide +kernel
theorem dX9_most_1 : decode cX9_most 1 = .ok (.iload_n 1, 1) := by decide +kernel
theorem dX9_most_2 : decode cX9_most 2 = .ok (.if_icmp .le 7, 3) := by decide +kernel
theorem dX9_most_5 : decode cX9_most 5 = .ok (.iload_n 0, 1) := by decide +kernel
theorem dX9_most_6 : decode cX9_most 6 = .ok (.goto 4, 3) := by decide +kernel
theorem dX9_most_9 : decode cX9_most 9 = .ok (.iload_n 1, 1) := by decide +kernel
theorem dX9_most_10 : decode cX9_most 10 = .ok (.ireturn, 1) := by decide +kernel
set_option maxHeartbeats 4000000 in
theorem t_X9_most_0 {X : sj_X} {s0 : sj_Mem} {N : Nat} {q : Int × sj_Mem} :
    ∀ (x0 : Int) (x1 : Int) (s : sj_Mem), f_X9_most N x0 x1 s = some q → sj_T X m_X9_most s0 (some (sj_i q.1), q.2) 0 [some (sj_i x0), some (sj_i x1)] [] s := by
  intro x0 x1 s h
  unfold f_X9_most at h
  refine r_iload_n (pc := 0) dX9_most_0 rfl rfl ?_
  refine r_iload_n (pc := 1) dX9_most_1 rfl rfl ?_
  refine r_icmp_le (pc := 2) (tgt := 9) h dX9_most_2 (by decide) (fun h => ?_) (fun h => ?_)
  · refine r_iload_n (pc := 9) dX9_most_9 rfl rfl ?_
    exact r_iret (pc := 10) h rfl dX9_most_10
  · refine r_iload_n (pc := 5) dX9_most_5 rfl rfl ?_
    refine r_goto (pc := 6) (tgt := 10) dX9_most_6 (by decide) ?_
    exact r_iret (pc := 10) h rfl dX9_most_10
set_option maxHeartbeats 4000000 in
theorem c_X9_most {X : sj_X} {N : Nat} {x0 : Int} {x1 : Int} {s : sj_Mem} {q : Int × sj_Mem} (h : f_X9_most N x0 x1 s = some q) : sj_C X m_X9_most [sj_i x0, sj_i x1] s (some (sj_i q.1), q.2) :=
  sj_C_of (by decide +kernel) (Nat.le_of_ble_eq_true rfl) (lo := [some (sj_i x0), some (sj_i x1)]) rfl (sj_weak (l2 := [some (sj_i x0), some (sj_i x1)]) (⟨rfl, ⟨rfl, trivial⟩⟩) (t_X9_most_0 x0 x1 s h))
theorem dX9_highest_0 : decode cX9_highest 0 = .ok (.iconst 0, 1) := by decide +kernel
theorem dX9_highest_1 : decode cX9_highest 1 = .ok (.istore_n 1, 1) := by decide +kernel
theorem dX9_highest_2 : decode cX9_highest 2 = .ok (.iconst 0, 1) := by decide +kernel
theorem dX9_highest_3 : decode cX9_highest 3 = .ok (.istore_n 2, 1) := by decide +kernel
theorem dX9_highest_4 : decode cX9_highest 4 = .ok (.iload_n 2, 1) := by decide +kernel
theorem dX9_highest_5 : decode cX9_highest 5 = .ok (.aload_n 0, 1) := by decide +kernel
theorem dX9_highest_6 : decode cX9_highest 6 = .ok (.getfield 9, 3) := by decide +kernel
theorem dX9_highest_9 : decode cX9_highest 9 = .ok (.iconst 0, 1) := by decide +kernel
theorem dX9_highest_10 : decode cX9_highest 10 = .ok (.iaload, 1) := by decide +kernel
theorem dX9_highest_11 : decode cX9_highest 11 = .ok (.if_icmp .gt 22, 3) := by decide +kernel
theorem dX9_highest_14 : decode cX9_highest 14 = .ok (.iload_n 1, 1) := by decide +kernel
theorem dX9_highest_15 : decode cX9_highest 15 = .ok (.aload_n 0, 1) := by decide +kernel
theorem dX9_highest_16 : decode cX9_highest 16 = .ok (.getfield 9, 3) := by decide +kernel
theorem dX9_highest_19 : decode cX9_highest 19 = .ok (.iconst 3, 1) := by decide +kernel
theorem dX9_highest_20 : decode cX9_highest 20 = .ok (.iload_n 2, 1) := by decide +kernel
theorem dX9_highest_21 : decode cX9_highest 21 = .ok (.iadd, 1) := by decide +kernel
theorem dX9_highest_22 : decode cX9_highest 22 = .ok (.iaload, 1) := by decide +kernel
theorem dX9_highest_23 : decode cX9_highest 23 = .ok (.invokestatic 111, 3) := by decide +kernel
theorem dX9_highest_26 : decode cX9_highest 26 = .ok (.istore_n 1, 1) := by decide +kernel
theorem dX9_highest_27 : decode cX9_highest 27 = .ok (.iinc 2 1, 3) := by decide +kernel
theorem dX9_highest_30 : decode cX9_highest 30 = .ok (.goto (-26), 3) := by decide +kernel
theorem dX9_highest_33 : decode cX9_highest 33 = .ok (.iload_n 1, 1) := by decide +kernel
theorem dX9_highest_34 : decode cX9_highest 34 = .ok (.ireturn, 1) := by decide +kernel
set_option maxHeartbeats 4000000 in
theorem t_X9_highest_4_b {X : sj_X} {s0 : sj_Mem} {N : Nat} {q : Int × sj_Mem} {k4 : Nat → Int → Int → sj_Mem → Option (Int × sj_Mem)} (hk4 : ∀ (a0 : Nat) (x1 : Int) (x2 : Int) (s : sj_Mem), k4 a0 x1 x2 s = some q → sj_T X m_X9_highest s0 (some (sj_i q.1), q.2) 4 [some (sj_r (some a0)), some (sj_i x1), some (sj_i x2)] [] s) :
    ∀ (a0 : Nat) (x1 : Int) (x2 : Int) (s : sj_Mem), f_X9_highest_4_b N k4 a0 x1 x2 s = some q → sj_T X m_X9_highest s0 (some (sj_i q.1), q.2) 4 [some (sj_r (some a0)), some (sj_i x1), some (sj_i x2)] [] s := by
  intro a0 x1 x2 s h
  unfold f_X9_highest_4_b at h
  refine r_iload_n (pc := 4) dX9_highest_4 rfl rfl ?_
  refine r_aload_n (pc := 5) dX9_highest_5 rfl rfl ?_
  refine r_gR (pc := 6) h dX9_highest_6 fw_X9_9 rfl (fun r1 h => ?_)
  refine r_iconst (pc := 9) dX9_highest_9 ?_
  obtain ⟨a2, ea2, g⟩ := e_nn_some h
  clear h
  subst ea2
  have h := g
  clear g
  refine r_iaload (pc := 10) h dX9_highest_10 (fun v3 h => ?_)
  refine r_icmp_gt (pc := 11) (tgt := 33) h dX9_highest_11 (by decide) (fun h => ?_) (fun h => ?_)
  · refine r_iload_n (pc := 33) dX9_highest_33 rfl rfl ?_
    exact r_iret (pc := 34) h rfl dX9_highest_34
  · refine r_iload_n (pc := 14) dX9_highest_14 rfl rfl ?_
    refine r_aload_n (pc := 15) dX9_highest_15 rfl rfl ?_
    refine r_gR (pc := 16) h dX9_highest_16 fw_X9_9 rfl (fun r4 h => ?_)
    refine r_iconst (pc := 19) dX9_highest_19 ?_
    refine r_iload_n (pc := 20) dX9_highest_20 rfl rfl ?_
    refine r_iadd (pc := 21) dX9_highest_21 ?_
    obtain ⟨a5, ea5, g⟩ := e_nn_some h
    clear h
    subst ea5
    have h := g
    clear g
    refine r_iaload (pc := 22) h dX9_highest_22 (fun v6 h => ?_)
    refine r_callS (pc := 23) (fun v => some (sj_i v)) (As := [sj_i x1, sj_i v6]) (rest := []) h dX9_highest_23 mw_X9_111 kw_1300 (fun _ _ hc => c_X9_most hc) rfl ⟨(Nat.le_of_ble_eq_true rfl), (Nat.le_of_ble_eq_true rfl)⟩ (Nat.le_of_ble_eq_true rfl) rfl (fun v8 s7 h => ?_)
    refine r_istore_n (ln := [some (sj_r (some a0)), some (sj_i v8), some (sj_i x2)]) (pc := 26) dX9_highest_26 rfl (Nat.le_of_ble_eq_true rfl) rfl ?_
    refine r_iinc (ln := fun w => [some (sj_r (some a0)), some (sj_i v8), some (sj_i w)]) (pc := 27) h dX9_highest_27 rfl (Nat.le_of_ble_eq_true rfl) (fun _ => rfl) (fun v9 h => ?_)
    refine r_goto (pc := 30) (tgt := 4) dX9_highest_30 (by decide) ?_
    exact sj_weak (l2 := [some (sj_r (some a0)), some (sj_i v8), some (sj_i v9)]) (⟨rfl, ⟨rfl, ⟨rfl, trivial⟩⟩⟩) (hk4 a0 v8 v9 s7 h)
set_option maxHeartbeats 4000000 in
theorem t_X9_highest_4 {X : sj_X} {s0 : sj_Mem} {N : Nat} {q : Int × sj_Mem} :
    ∀ (n : Nat) (a0 : Nat) (x1 : Int) (x2 : Int) (s : sj_Mem), f_X9_highest_4 N n a0 x1 x2 s = some q → sj_T X m_X9_highest s0 (some (sj_i q.1), q.2) 4 [some (sj_r (some a0)), some (sj_i x1), some (sj_i x2)] [] s := by
  intro n
  induction n with
  | zero => intro a0 x1 x2 s h; exact nomatch h
  | succ n ih => intro a0 x1 x2 s h; exact t_X9_highest_4_b (N := N) ih a0 x1 x2 s h
set_option maxHeartbeats 4000000 in
theorem t_X9_highest_0 {X : sj_X} {s0 : sj_Mem} {N : Nat} {q : Int × sj_Mem} :
    ∀ (a0 : Nat) (s : sj_Mem), f_X9_highest N a0 s = some q → sj_T X m_X9_highest s0 (some (sj_i q.1), q.2) 0 [some (sj_r (some a0)), none, none] [] s := by
  intro a0 s h
  unfold f_X9_highest at h
  refine r_iconst (pc := 0) dX9_highest_0 ?_
  refine r_istore_n (ln := [some (sj_r (some a0)), some (sj_i 0), none]) (pc := 1) dX9_highest_1 rfl (Nat.le_of_ble_eq_true rfl) rfl ?_
  refine r_iconst (pc := 2) dX9_highest_2 ?_
  refine r_istore_n (ln := [some (sj_r (some a0)), some (sj_i 0), some (sj_i 0)]) (pc := 3) dX9_highest_3 rfl (Nat.le_of_ble_eq_true rfl) rfl ?_
  exact sj_weak (l2 := [some (sj_r (some a0)), some (sj_i 0), some (sj_i 0)]) (⟨rfl, ⟨rfl, ⟨rfl, trivial⟩⟩⟩) (t_X9_highest_4 N a0 0 0 s h)
set_option maxHeartbeats 4000000 in
theorem c_X9_highest {X : sj_X} {N : Nat} {a0 : Nat} {s : sj_Mem} {q : Int × sj_Mem} (h : f_X9_highest N a0 s = some q) : sj_C X m_X9_highest [sj_r (some a0)] s (some (sj_i q.1), q.2) :=
  sj_C_of (by decide +kernel) (Nat.le_of_ble_eq_true rfl) (lo := [some (sj_r (some a0)), none, none]) rfl (sj_weak (l2 := [some (sj_r (some a0)), none, none]) (⟨rfl, trivial⟩) (t_X9_highest_0 a0 s h))
theorem dX9_hasSlip_0 : decode cX9_hasSlip 0 = .ok (.aload_n 0, 1) := by decide +kernel
theorem dX9_hasSlip_1 : decode cX9_hasSlip 1 = .ok (.getfield 9, 3) := by decide +kernel
theorem dX9_hasSlip_4 : decode cX9_hasSlip 4 = .ok (.sipush 320, 3) := by decide +kernel
theorem dX9_hasSlip_7 : decode cX9_hasSlip 7 = .ok (.iaload, 1) := by decide +kernel
theorem dX9_hasSlip_8 : decode cX9_hasSlip 8 = .ok (.iconst (-1), 1) := by decide +kernel
theorem dX9_hasSlip_9 : decode cX9_hasSlip 9 = .ok (.if_icmp .eq 7, 3) := by decide +kernel
theorem dX9_hasSlip_12 : decode cX9_hasSlip 12 = .ok (.iconst 1, 1) := by decide +kernel
theorem dX9_hasSlip_13 : decode cX9_hasSlip 13 = .ok (.goto 4, 3) := by decide +kernel
theorem dX9_hasSlip_16 : decode cX9_hasSlip 16 = .ok (.iconst 0, 1) := by decide +kernel
theorem dX9_hasSlip_17 : decode cX9_hasSlip 17 = .ok (.ireturn, 1) := by decide +kernel
set_option maxHeartbeats 4000000 in
theorem t_X9_hasSlip_0 {X : sj_X} {s0 : sj_Mem} {N : Nat} {q : Int × sj_Mem} :
    ∀ (a0 : Nat) (s : sj_Mem), f_X9_hasSlip N a0 s = some q → sj_T X m_X9_hasSlip s0 (some (sj_i q.1), q.2) 0 [some (sj_r (some a0))] [] s := by
  intro a0 s h
  unfold f_X9_hasSlip at h
  refine r_aload_n (pc := 0) dX9_hasSlip_0 rfl rfl ?_
  refine r_gR (pc := 1) h dX9_hasSlip_1 fw_X9_9 rfl (fun r1 h => ?_)
  refine r_sipush (pc := 4) dX9_hasSlip_4 ⟨by decide, by decide⟩ ?_
  obtain ⟨a2, ea2, g⟩ := e_nn_some h
  clear h
  subst ea2
  have h := g
  clear g
  refine r_iaload (pc := 7) h dX9_hasSlip_7 (fun v3 h => ?_)
  refine r_iconst (pc := 8) dX9_hasSlip_8 ?_
  refine r_icmp_eq (pc := 9) (tgt := 16) h dX9_hasSlip_9 (by decide) (fun h => ?_) (fun h => ?_)
  · refine r_iconst (pc := 16) dX9_hasSlip_16 ?_
    exact r_zret (pc := 17) h rfl dX9_hasSlip_17
  · refine r_iconst (pc := 12) dX9_hasSlip_12 ?_
    refine r_goto (pc := 13) (tgt := 17) dX9_hasSlip_13 (by decide) ?_
    exact r_zret (pc := 17) h rfl dX9_hasSlip_17
set_option maxHeartbeats 4000000 in
theorem c_X9_hasSlip {X : sj_X} {N : Nat} {a0 : Nat} {s : sj_Mem} {q : Int × sj_Mem} (h : f_X9_hasSlip N a0 s = some q) : sj_C X m_X9_hasSlip [sj_r (some a0)] s (some (sj_i q.1), q.2) :=
  sj_C_of (by decide +kernel) (Nat.le_of_ble_eq_true rfl) (lo := [some (sj_r (some a0))]) rfl (sj_weak (l2 := [some (sj_r (some a0))]) (⟨rfl, trivial⟩) (t_X9_hasSlip_0 a0 s h))
theorem dX9_isIn_0 : decode cX9_isIn 0 = .ok (.lload_n 0, 1) := by decide +kernel
theorem dX9_isIn_1 : decode cX9_isIn 1 = .ok (.lload_n 2, 1) := by decide +kernel
theorem dX9_isIn_2 : decode cX9_isIn 2 = .ok (.lcmp, 1) := by decide +kernel
theorem dX9_isIn_3 : decode cX9_isIn 3 = .ok (.ifCond .lt 14, 3) := by decide +kernel
theorem dX9_isIn_6 : decode cX9_isIn 6 = .ok (.lload_n 0, 1) := by decide +kernel
theorem dX9_isIn_7 : decode cX9_isIn 7 = .ok (.lload 4, 2) := by decide +kernel
theorem dX9_isIn_9 : decode cX9_isIn 9 = .ok (.lcmp, 1) := by decide +kernel
theorem dX9_isIn_10 : decode cX9_isIn 10 = .ok (.ifCond .gt 7, 3) := by decide +kernel
theorem dX9_isIn_13 : decode cX9_isIn 13 = .ok (.iconst 1, 1) := by decide +kernel
theorem dX9_isIn_14 : decode cX9_isIn 14 = .ok (.goto 4, 3) := by decide +kernel
theorem dX9_isIn_17 : decode cX9_isIn 17 = .ok (.iconst 0, 1) := by decide +kernel
theorem dX9_isIn_18 : decode cX9_isIn 18 = .ok (.ireturn, 1) := by decide +kernel
set_option maxHeartbeats 4000000 in
theorem t_X9_isIn_0 {X : sj_X} {s0 : sj_Mem} {N : Nat} {q : Int × sj_Mem} :
    ∀ (x0 : Int) (x2 : Int) (x4 : Int) (s : sj_Mem), f_X9_isIn N x0 x2 x4 s = some q → sj_T X m_X9_isIn s0 (some (sj_i q.1), q.2) 0 [some (sj_j x0), none, some (sj_j x2), none, some (sj_j x4), none] [] s := by
  intro x0 x2 x4 s h
  unfold f_X9_isIn at h
  refine r_lload_n (pc := 0) dX9_isIn_0 rfl rfl ?_
  refine r_lload_n (pc := 1) dX9_isIn_1 rfl rfl ?_
  refine r_llt (pc := 2) (tgt := 17) h dX9_isIn_2 rfl dX9_isIn_3 (by decide) (fun h => ?_) (fun h => ?_)
  · refine r_iconst (pc := 17) dX9_isIn_17 ?_
    exact r_zret (pc := 18) h rfl dX9_isIn_18
  · refine r_lload_n (pc := 6) dX9_isIn_6 rfl rfl ?_
    refine r_lload (pc := 7) dX9_isIn_7 rfl ?_
    refine r_lgt (pc := 9) (tgt := 17) h dX9_isIn_9 rfl dX9_isIn_10 (by decide) (fun h => ?_) (fun h => ?_)
    · refine r_iconst (pc := 17) dX9_isIn_17 ?_
      exact r_zret (pc := 18) h rfl dX9_isIn_18
    · refine r_iconst (pc := 13) dX9_isIn_13 ?_
      refine r_goto (pc := 14) (tgt := 18) dX9_isIn_14 (by decide) ?_
      exact r_zret (pc := 18) h rfl dX9_isIn_18
set_option maxHeartbeats 4000000 in
theorem c_X9_isIn {X : sj_X} {N : Nat} {x0 : Int} {x2 : Int} {x4 : Int} {s : sj_Mem} {q : Int × sj_Mem} (h : f_X9_isIn N x0 x2 x4 s = some q) : sj_C X m_X9_isIn [sj_j x0, sj_j x2, sj_j x4] s (some (sj_i q.1), q.2) :=
  sj_C_of (by decide +kernel) (Nat.le_of_ble_eq_true rfl) (lo := [some (sj_j x0), none, some (sj_j x2), none, some (sj_j x4), none]) rfl (sj_weak (l2 := [some (sj_j x0), none, some (sj_j x2), none, some (sj_j x4), none]) (⟨rfl, ⟨rfl, ⟨rfl, trivial⟩⟩⟩) (t_X9_isIn_0 x0 x2 x4 s h))
theorem dX9_isAnchor_0 : decode cX9_isAnchor 0 = .ok (.iload_n 1, 1) := by decide +kernel
theorem dX9_isAnchor_1 : decode cX9_isAnchor 1 = .ok (.i2l, 1) := by decide +kernel
theorem dX9_isAnchor_2 : decode cX9_isAnchor 2 = .ok (.lconst 0, 1) := by decide +kernel
theorem dX9_isAnchor_3 : decode cX9_isAnchor 3 = .ok (.ldc2_w 78, 3) := by decide +kernel
theorem dX9_isAnchor_6 : decode cX9_isAnchor 6 = .ok (.invokestatic 57, 3) := by decide +kernel
theorem dX9_isAnchor_9 : decode cX9_isAnchor 9 = .ok (.ifCond .eq 24, 3) := by decide +kernel
theorem dX9_isAnchor_12 : decode cX9_isAnchor 12 = .ok (.aload_n 0, 1) := by decide +kernel
theorem dX9_isAnchor_13 : decode cX9_isAnchor 13 = .ok (.getfield 9, 3) := by decide +kernel
theorem dX9_isAnchor_16 : decode cX9_isAnchor 16 = .ok (.sipush 302, 3) := by decide +kernel
theorem dX9_isAnchor_19 : decode cX9_isAnchor 19 = .ok (.iconst 3, 1) := by decide +kernel
theorem dX9_isAnchor_20 : decode cX9_isAnchor 20 = .ok (.iload_n 1, 1) := by decide +kernel
theorem dX9_isAnchor_21 : decode cX9_isAnchor 21 = .ok (.imul, 1) := by decide +kernel
theorem dX9_isAnchor_22 : decode cX9_isAnchor 22 = .ok (.iadd, 1) := by decide +kernel
theorem dX9_isAnchor_23 : decode cX9_isAnchor 23 = .ok (.iconst 2, 1) := by decide +kernel
theorem dX9_isAnchor_24 : decode cX9_isAnchor 24 = .ok (.iadd, 1) := by decide +kernel
theorem dX9_isAnchor_25 : decode cX9_isAnchor 25 = .ok (.iaload, 1) := by decide +kernel
theorem dX9_isAnchor_26 : decode cX9_isAnchor 26 = .ok (.ifCond .le 7, 3) := by decide +kernel
theorem dX9_isAnchor_29 : decode cX9_isAnchor 29 = .ok (.iconst 1, 1) := by decide +kernel
theorem dX9_isAnchor_30 : decode cX9_isAnchor 30 = .ok (.goto 4, 3) := by decide +kernel
theorem dX9_isAnchor_33 : decode cX9_isAnchor 33 = .ok (.iconst 0, 1) := by decide +kernel
theorem dX9_isAnchor_34 : decode cX9_isAnchor 34 = .ok (.ireturn, 1) := by decide +kernel
set_option maxHeartbeats 4000000 in
theorem t_X9_isAnchor_0 {X : sj_X} {s0 : sj_Mem} {N : Nat} {q : Int × sj_Mem} :
    ∀ (a0 : Nat) (x1 : Int) (s : sj_Mem), f_X9_isAnchor N a0 x1 s = some q → sj_T X m_X9_isAnchor s0 (some (sj_i q.1), q.2) 0 [some (sj_r (some a0)), some (sj_i x1)] [] s := by
  intro a0 x1 s h
  unfold f_X9_isAnchor at h
  refine r_iload_n (pc := 0) dX9_isAnchor_0 rfl rfl ?_
  refine r_i2l (pc := 1) h dX9_isAnchor_1 (fun v1 h => ?_)
  refine r_lconst0 (pc := 2) dX9_isAnchor_2 ?_
  refine r_ldc2 (n := 5) (pc := 3) dX9_isAnchor_3 kc_X9_78 ?_
  refine r_callS (pc := 6) (fun v => some (sj_i v)) (As := [sj_j v1, sj_j 0, sj_j 5]) (rest := []) h dX9_isAnchor_6 mw_X9_57 kw_1225 (fun _ _ hc => c_X9_isIn hc) rfl ⟨(Nat.le_of_ble_eq_true rfl), (Nat.le_of_ble_eq_true rfl)⟩ (Nat.le_of_ble_eq_true rfl) rfl (fun v3 s2 h => ?_)
  refine r_if_eq (pc := 9) (tgt := 33) h dX9_isAnchor_9 (by decide) (fun h => ?_) (fun h => ?_)
  · refine r_iconst (pc := 33) dX9_isAnchor_33 ?_
    exact r_zret (pc := 34) h rfl dX9_isAnchor_34
  · refine r_aload_n (pc := 12) dX9_isAnchor_12 rfl rfl ?_
    refine r_gR (pc := 13) h dX9_isAnchor_13 fw_X9_9 rfl (fun r4 h => ?_)
    refine r_sipush (pc := 16) dX9_isAnchor_16 ⟨by decide, by decide⟩ ?_
    refine r_iconst (pc := 19) dX9_isAnchor_19 ?_
    refine r_iload_n (pc := 20) dX9_isAnchor_20 rfl rfl ?_
    refine r_imul (pc := 21) dX9_isAnchor_21 ?_
    refine r_iadd (pc := 22) dX9_isAnchor_22 ?_
    refine r_iconst (pc := 23) dX9_isAnchor_23 ?_
    refine r_iadd (pc := 24) dX9_isAnchor_24 ?_
    obtain ⟨a5, ea5, g⟩ := e_nn_some h
    clear h
    subst ea5
    have h := g
    clear g
    refine r_iaload (pc := 25) h dX9_isAnchor_25 (fun v6 h => ?_)
    refine r_if_le (pc := 26) (tgt := 33) h dX9_isAnchor_26 (by decide) (fun h => ?_) (fun h => ?_)
    · refine r_iconst (pc := 33) dX9_isAnchor_33 ?_
      exact r_zret (pc := 34) h rfl dX9_isAnchor_34
    · refine r_iconst (pc := 29) dX9_isAnchor_29 ?_
      refine r_goto (pc := 30) (tgt := 34) dX9_isAnchor_30 (by decide) ?_
      exact r_zret (pc := 34) h rfl dX9_isAnchor_34
set_option maxHeartbeats 4000000 in
theorem c_X9_isAnchor {X : sj_X} {N : Nat} {a0 : Nat} {x1 : Int} {s : sj_Mem} {q : Int × sj_Mem} (h : f_X9_isAnchor N a0 x1 s = some q) : sj_C X m_X9_isAnchor [sj_r (some a0), sj_i x1] s (some (sj_i q.1), q.2) :=
  sj_C_of (by decide +kernel) (Nat.le_of_ble_eq_true rfl) (lo := [some (sj_r (some a0)), some (sj_i x1)]) rfl (sj_weak (l2 := [some (sj_r (some a0)), some (sj_i x1)]) (⟨rfl, ⟨rfl, trivial⟩⟩) (t_X9_isAnchor_0 a0 x1 s h))
theorem dX9_anchorSet_0 : decode cX9_anchorSet 0 = .ok (.iconst 0, 1) := by decide +kernel
theorem dX9_anchorSet_1 : decode cX9_anchorSet 1 = .ok (.istore_n 1, 1) := by decide +kernel
theorem dX9_anchorSet_2 : decode cX9_anchorSet 2 = .ok (.iconst 0, 1) := by decide +kernel
theorem dX9_anchorSet_3 : decode cX9_anchorSet 3 = .ok (.istore_n 2, 1) := by decide +kernel
theorem dX9_anchorSet_4 : decode cX9_anchorSet 4 = .ok (.iload_n 2, 1) := by decide +kernel
theorem dX9_anchorSet_5 : decode cX9_anchorSet 5 = .ok (.bipush 6, 2) := by decide +kernel
theorem dX9_anchorSet_7 : decode cX9_anchorSet 7 = .ok (.if_icmp .ge 27, 3) := by decide +kernel
theorem dX9_anchorSet_10 : decode cX9_anchorSet 10 = .ok (.iload_n 1, 1) := by decide +kernel
theorem dX9_anchorSet_11 : decode cX9_anchorSet 11 = .ok (.aload_n 0, 1) := by decide +kernel
theorem dX9_anchorSet_12 : decode cX9_anchorSet 12 = .ok (.iload_n 2, 1) := by decide +kernel
theorem dX9_anchorSet_13 : decode cX9_anchorSet 13 = .ok (.invokevirtual 410, 3) := by decide +kernel
theorem dX9_anchorSet_16 : decode cX9_anchorSet 16 = .ok (.ifCond .eq 9, 3) := by decide +kernel
theorem dX9_anchorSet_19 : decode cX9_anchorSet 19 = .ok (.iconst 1, 1) := by decide +kernel
theorem dX9_anchorSet_20 : decode cX9_anchorSet 20 = .ok (.iload_n 2, 1) := by decide +kernel
theorem dX9_anchorSet_21 : decode cX9_anchorSet 21 = .ok (.ishl, 1) := by decide +kernel
theorem dX9_anchorSet_22 : decode cX9_anchorSet 22 = .ok (.goto 4, 3) := by decide +kernel
theorem dX9_anchorSet_25 : decode cX9_anchorSet 25 = .ok (.iconst 0, 1) := by decide +kernel
theorem dX9_anchorSet_26 : decode cX9_anchorSet 26 = .ok (.ior, 1) := by decide +kernel
theorem dX9_anchorSet_27 : decode cX9_anchorSet 27 = .ok (.istore_n 1, 1) := by decide +kernel
theorem dX9_anchorSet_28 : decode cX9_anchorSet 28 = .ok (.iinc 2 1, 3) := by decide +kernel
theorem dX9_anchorSet_31 : decode cX9_anchorSet 31 = .ok (.goto (-27), 3) := by decide +kernel
theorem dX9_anchorSet_34 : decode cX9_anchorSet 34 = .ok (.iload_n 1, 1) := by decide +kernel
theorem dX9_anchorSet_35 : decode cX9_anchorSet 35 = .ok (.ireturn, 1) := by decide +kernel
set_option maxHeartbeats 4000000 in
theorem t_X9_anchorSet_26 {X : sj_X} {s0 : sj_Mem} {N : Nat} {q : Int × sj_Mem} {k4 : Nat → Int → Int → sj_Mem → Option (Int × sj_Mem)} (hk4 : ∀ (a0 : Nat) (x1 : Int) (x2 : Int) (s : sj_Mem), k4 a0 x1 x2 s = some q → sj_T X m_X9_anchorSet s0 (some (sj_i q.1), q.2) 4 [some (sj_r (some a0)), some (sj_i x1), some (sj_i x2)] [] s) :
    ∀ (a0 : Nat) (x2 : Int) (y0 : Int) (y1 : Int) (s : sj_Mem), f_X9_anchorSet_26 N k4 a0 x2 y0 y1 s = some q → sj_T X m_X9_anchorSet s0 (some (sj_i q.1), q.2) 26 [some (sj_r (some a0)), none, some (sj_i x2)] [(sj_i y0), (sj_i y1)] s := by
  intro a0 x2 y0 y1 s h
  unfold f_X9_anchorSet_26 at h
  refine r_ior (pc := 26) dX9_anchorSet_26 ?_
  refine r_istore_nL (ln := fun w => [some (sj_r (some a0)), some (sj_i w), some (sj_i x2)]) (pc := 27) h dX9_anchorSet_27 rfl (Nat.le_of_ble_eq_true rfl) (fun _ => rfl) (fun v1 h => ?_)
  refine r_iinc (ln := fun w => [some (sj_r (some a0)), some (sj_i v1), some (sj_i w)]) (pc := 28) h dX9_anchorSet_28 rfl (Nat.le_of_ble_eq_true rfl) (fun _ => rfl) (fun v2 h => ?_)
  refine r_goto (pc := 31) (tgt := 4) dX9_anchorSet_31 (by decide) ?_
  exact sj_weak (l2 := [some (sj_r (some a0)), some (sj_i v1), some (sj_i v2)]) (⟨rfl, ⟨rfl, ⟨rfl, trivial⟩⟩⟩) (hk4 a0 v1 v2 s h)
set_option maxHeartbeats 4000000 in
theorem t_X9_anchorSet_4_b {X : sj_X} {s0 : sj_Mem} {N : Nat} {q : Int × sj_Mem} {k4 : Nat → Int → Int → sj_Mem → Option (Int × sj_Mem)} (hk4 : ∀ (a0 : Nat) (x1 : Int) (x2 : Int) (s : sj_Mem), k4 a0 x1 x2 s = some q → sj_T X m_X9_anchorSet s0 (some (sj_i q.1), q.2) 4 [some (sj_r (some a0)), some (sj_i x1), some (sj_i x2)] [] s) :
    ∀ (a0 : Nat) (x1 : Int) (x2 : Int) (s : sj_Mem), f_X9_anchorSet_4_b N k4 a0 x1 x2 s = some q → sj_T X m_X9_anchorSet s0 (some (sj_i q.1), q.2) 4 [some (sj_r (some a0)), some (sj_i x1), some (sj_i x2)] [] s := by
  intro a0 x1 x2 s h
  unfold f_X9_anchorSet_4_b at h
  refine r_iload_n (pc := 4) dX9_anchorSet_4 rfl rfl ?_
  refine r_bipush (pc := 5) dX9_anchorSet_5 ⟨by decide, by decide⟩ ?_
  refine r_icmp_ge (pc := 7) (tgt := 34) h dX9_anchorSet_7 (by decide) (fun h => ?_) (fun h => ?_)
  · refine r_iload_n (pc := 34) dX9_anchorSet_34 rfl rfl ?_
    exact r_iret (pc := 35) h rfl dX9_anchorSet_35
  · refine r_iload_n (pc := 10) dX9_anchorSet_10 rfl rfl ?_
    refine r_aload_n (pc := 11) dX9_anchorSet_11 rfl rfl ?_
    refine r_iload_n (pc := 12) dX9_anchorSet_12 rfl rfl ?_
    refine r_callV (pc := 13) (fun v => some (sj_i v)) (As := [sj_i x2]) (rest := [(sj_i x1)]) h dX9_anchorSet_13 mw_X9_410 vw_X9_isAnchor (fun _ _ hc => c_X9_isAnchor hc) rfl ⟨(Nat.le_of_ble_eq_true rfl), (Nat.le_of_ble_eq_true rfl)⟩ (Nat.le_of_ble_eq_true rfl) rfl (fun v2 s1 h => ?_)
    refine r_if_eq (pc := 16) (tgt := 25) h dX9_anchorSet_16 (by decide) (fun h => ?_) (fun h => ?_)
    · refine r_iconst (pc := 25) dX9_anchorSet_25 ?_
      exact sj_weak (l2 := [some (sj_r (some a0)), none, some (sj_i x2)]) (⟨rfl, ⟨rfl, trivial⟩⟩) (t_X9_anchorSet_26 hk4 a0 x2 0 x1 s1 h)
    · refine r_iconst (pc := 19) dX9_anchorSet_19 ?_
      refine r_iload_n (pc := 20) dX9_anchorSet_20 rfl rfl ?_
      refine r_ishl (pc := 21) h dX9_anchorSet_21 (fun v3 h => ?_)
      refine r_goto (pc := 22) (tgt := 26) dX9_anchorSet_22 (by decide) ?_
      exact sj_weak (l2 := [some (sj_r (some a0)), none, some (sj_i x2)]) (⟨rfl, ⟨rfl, trivial⟩⟩) (t_X9_anchorSet_26 hk4 a0 x2 v3 x1 s1 h)
set_option maxHeartbeats 4000000 in
theorem t_X9_anchorSet_4 {X : sj_X} {s0 : sj_Mem} {N : Nat} {q : Int × sj_Mem} :
    ∀ (n : Nat) (a0 : Nat) (x1 : Int) (x2 : Int) (s : sj_Mem), f_X9_anchorSet_4 N n a0 x1 x2 s = some q → sj_T X m_X9_anchorSet s0 (some (sj_i q.1), q.2) 4 [some (sj_r (some a0)), some (sj_i x1), some (sj_i x2)] [] s := by
  intro n
  induction n with
  | zero => intro a0 x1 x2 s h; exact nomatch h
  | succ n ih => intro a0 x1 x2 s h; exact t_X9_anchorSet_4_b (N := N) ih a0 x1 x2 s h
set_option maxHeartbeats 4000000 in
theorem t_X9_anchorSet_0 {X : sj_X} {s0 : sj_Mem} {N : Nat} {q : Int × sj_Mem} :
    ∀ (a0 : Nat) (s : sj_Mem), f_X9_anchorSet N a0 s = some q → sj_T X m_X9_anchorSet s0 (some (sj_i q.1), q.2) 0 [some (sj_r (some a0)), none, none] [] s := by
  intro a0 s h
  unfold f_X9_anchorSet at h
  refine r_iconst (pc := 0) dX9_anchorSet_0 ?_
  refine r_istore_n (ln := [some (sj_r (some a0)), some (sj_i 0), none]) (pc := 1) dX9_anchorSet_1 rfl (Nat.le_of_ble_eq_true rfl) rfl ?_
  refine r_iconst (pc := 2) dX9_anchorSet_2 ?_
  refine r_istore_n (ln := [some (sj_r (some a0)), some (sj_i 0), some (sj_i 0)]) (pc := 3) dX9_anchorSet_3 rfl (Nat.le_of_ble_eq_true rfl) rfl ?_
  exact sj_weak (l2 := [some (sj_r (some a0)), some (sj_i 0), some (sj_i 0)]) (⟨rfl, ⟨rfl, ⟨rfl, trivial⟩⟩⟩) (t_X9_anchorSet_4 N a0 0 0 s h)
set_option maxHeartbeats 4000000 in
theorem c_X9_anchorSet {X : sj_X} {N : Nat} {a0 : Nat} {s : sj_Mem} {q : Int × sj_Mem} (h : f_X9_anchorSet N a0 s = some q) : sj_C X m_X9_anchorSet [sj_r (some a0)] s (some (sj_i q.1), q.2) :=
  sj_C_of (by decide +kernel) (Nat.le_of_ble_eq_true rfl) (lo := [some (sj_r (some a0)), none, none]) rfl (sj_weak (l2 := [some (sj_r (some a0)), none, none]) (⟨rfl, trivial⟩) (t_X9_anchorSet_0 a0 s h))
theorem dX9_look_0 : decode cX9_look 0 = .ok (.iload_n 1, 1) := by decide +kernel
theorem dX9_look_1 : decode cX9_look 1 = .ok (.tableswitch 213 0 13 #[71, 78, 85, 92, 97, 126, 135, 155, 175, 184, 189, 194, 199, 204], 71) := by decide +kernel
theorem dX9_look_72 : decode cX9_look 72 = .ok (.aload_n 0, 1) := by decide +kernel
theorem dX9_look_73 : decode cX9_look 73 = .ok (.getfield 9, 3) := by decide +kernel
theorem dX9_look_76 : decode cX9_look 76 = .ok (.iconst 0, 1) := by decide +kernel
theorem dX9_look_77 : decode cX9_look 77 = .ok (.iaload, 1) := by decide +kernel
theorem dX9_look_78 : decode cX9_look 78 = .ok (.ireturn, 1) := by decide +kernel
theorem dX9_look_79 : decode cX9_look 79 = .ok (.aload_n 0, 1) := by decide +kernel
theorem dX9_look_80 : decode cX9_look 80 = .ok (.getfield 9, 3) := by decide +kernel
theorem dX9_look_83 : decode cX9_look 83 = .ok (.iconst 1, 1) := by decide +kernel
theorem dX9_look_84 : decode cX9_look 84 = .ok (.iaload, 1) := by decide +kernel
theorem dX9_look_85 : decode cX9_look 85 = .ok (.ireturn, 1) := by decide +kernel
theorem dX9_look_86 : decode cX9_look 86 = .ok (.aload_n 0, 1) := by decide +kernel
theorem dX9_look_87 : decode cX9_look 87 = .ok (.getfield 9, 3) := by decide +kernel
theorem dX9_look_90 : decode cX9_look 90 = .ok (.iconst 2, 1) := by decide +kernel
theorem dX9_look_91 : decode cX9_look 91 = .ok (.iaload, 1) := by decide +kernel
theorem dX9_look_92 : decode cX9_look 92 = .ok (.ireturn, 1) := by decide +kernel
theorem dX9_look_93 : decode cX9_look 93 = .ok (.aload_n 0, 1) := by decide +kernel
theorem dX9_look_94 : decode cX9_look 94 = .ok (.invokevirtual 416, 3) := by decide +kernel
theorem dX9_look_97 : decode cX9_look 97 = .ok (.ireturn, 1) := by decide +kernel
theorem dX9_look_98 : decode cX9_look 98 = .ok (.aload_n 0, 1) := by decide +kernel
theorem dX9_look_99 : decode cX9_look 99 = .ok (.invokevirtual 92, 3) := by decide +kernel
theorem dX9_look_102 : decode cX9_look 102 = .ok (.ifCond .eq 23, 3) := by decide +kernel
theorem dX9_look_105 : decode cX9_look 105 = .ok (.aload_n 0, 1) := by decide +kernel
theorem dX9_look_106 : decode cX9_look 106 = .ok (.getfield 9, 3) := by decide +kernel
theorem dX9_look_109 : decode cX9_look 109 = .ok (.sipush 321, 3) := by decide +kernel
theorem dX9_look_112 : decode cX9_look 112 = .ok (.iaload, 1) := by decide +kernel
theorem dX9_look_113 : decode cX9_look 113 = .ok (.aload_n 0, 1) := by decide +kernel
theorem dX9_look_114 : decode cX9_look 114 = .ok (.getfield 9, 3) := by decide +kernel
theorem dX9_look_117 : decode cX9_look 117 = .ok (.sipush 320, 3) := by decide +kernel
theorem dX9_look_120 : decode cX9_look 120 = .ok (.iaload, 1) := by decide +kernel
theorem dX9_look_121 : decode cX9_look 121 = .ok (.isub, 1) := by decide +kernel
theorem dX9_look_122 : decode cX9_look 122 = .ok (.goto 4, 3) := by decide +kernel
theorem dX9_look_125 : decode cX9_look 125 = .ok (.iconst 0, 1) := by decide +kernel
theorem dX9_look_126 : decode cX9_look 126 = .ok (.ireturn, 1) := by decide +kernel
theorem dX9_look_127 : decode cX9_look 127 = .ok (.aload_n 0, 1) := by decide +kernel
theorem dX9_look_128 : decode cX9_look 128 = .ok (.getfield 9, 3) := by decide +kernel
theorem dX9_look_131 : decode cX9_look 131 = .ok (.sipush 320, 3) := by decide +kernel
theorem dX9_look_134 : decode cX9_look 134 = .ok (.iaload, 1) := by decide +kernel
theorem dX9_look_135 : decode cX9_look 135 = .ok (.ireturn, 1) := by decide +kernel
theorem dX9_look_136 : decode cX9_look 136 = .ok (.aload_n 0, 1) := by decide +kernel
theorem dX9_look_137 : decode cX9_look 137 = .ok (.invokevirtual 92, 3) := by decide +kernel
theorem dX9_look_140 : decode cX9_look 140 = .ok (.ifCond .eq 14, 3) := by decide +kernel
theorem dX9_look_143 : decode cX9_look 143 = .ok (.aload_n 0, 1) := by decide +kernel
theorem dX9_look_144 : decode cX9_look 144 = .ok (.getfield 9, 3) := by decide +kernel
theorem dX9_look_147 : decode cX9_look 147 = .ok (.sipush 321, 3) := by decide +kernel
theorem dX9_look_150 : decode cX9_look 150 = .ok (.iaload, 1) := by decide +kernel
theorem dX9_look_151 : decode cX9_look 151 = .ok (.goto 4, 3) := by decide +kernel
theorem dX9_look_154 : decode cX9_look 154 = .ok (.iconst (-1), 1) := by decide +kernel
theorem dX9_look_155 : decode cX9_look 155 = .ok (.ireturn, 1) := by decide +kernel
theorem dX9_look_156 : decode cX9_look 156 = .ok (.aload_n 0, 1) := by decide +kernel
theorem dX9_look_157 : decode cX9_look 157 = .ok (.invokevirtual 92, 3) := by decide +kernel
theorem dX9_look_160 : decode cX9_look 160 = .ok (.ifCond .eq 14, 3) := by decide +kernel
theorem dX9_look_163 : decode cX9_look 163 = .ok (.aload_n 0, 1) := by decide +kernel
theorem dX9_look_164 : decode cX9_look 164 = .ok (.getfield 9, 3) := by decide +kernel
theorem dX9_look_167 : decode cX9_look 167 = .ok (.sipush 322, 3) := by decide +kernel
theorem dX9_look_170 : decode cX9_look 170 = .ok (.iaload, 1) := by decide +kernel
theorem dX9_look_171 : decode cX9_look 171 = .ok (.goto 4, 3) := by decide +kernel
theorem dX9_look_174 : decode cX9_look 174 = .ok (.iconst (-1), 1) := by decide +kernel
theorem dX9_look_175 : decode cX9_look 175 = .ok (.ireturn, 1) := by decide +kernel
theorem dX9_look_176 : decode cX9_look 176 = .ok (.aload_n 0, 1) := by decide +kernel
theorem dX9_look_177 : decode cX9_look 177 = .ok (.getfield 9, 3) := by decide +kernel
theorem dX9_look_180 : decode cX9_look 180 = .ok (.sipush 364, 3) := by decide +kernel
theorem dX9_look_183 : decode cX9_look 183 = .ok (.iaload, 1) := by decide +kernel
theorem dX9_look_184 : decode cX9_look 184 = .ok (.ireturn, 1) := by decide +kernel
theorem dX9_look_185 : decode cX9_look 185 = .ok (.aload_n 0, 1) := by decide +kernel
theorem dX9_look_186 : decode cX9_look 186 = .ok (.getfield 61, 3) := by decide +kernel
theorem dX9_look_189 : decode cX9_look 189 = .ok (.ireturn, 1) := by decide +kernel
theorem dX9_look_190 : decode cX9_look 190 = .ok (.aload_n 0, 1) := by decide +kernel
theorem dX9_look_191 : decode cX9_look 191 = .ok (.getfield 337, 3) := by decide +kernel
theorem dX9_look_194 : decode cX9_look 194 = .ok (.ireturn, 1) := by decide +kernel
theorem dX9_look_195 : decode cX9_look 195 = .ok (.aload_n 0, 1) := by decide +kernel
theorem dX9_look_196 : decode cX9_look 196 = .ok (.invokevirtual 419, 3) := by decide +kernel
theorem dX9_look_199 : decode cX9_look 199 = .ok (.ireturn, 1) := by decide +kernel
theorem dX9_look_200 : decode cX9_look 200 = .ok (.aload_n 0, 1) := by decide +kernel
theorem dX9_look_201 : decode cX9_look 201 = .ok (.invokevirtual 422, 3) := by decide +kernel
theorem dX9_look_204 : decode cX9_look 204 = .ok (.ireturn, 1) := by decide +kernel
theorem dX9_look_205 : decode cX9_look 205 = .ok (.aload_n 0, 1) := by decide +kernel
theorem dX9_look_206 : decode cX9_look 206 = .ok (.getfield 9, 3) := by decide +kernel
theorem dX9_look_209 : decode cX9_look 209 = .ok (.sipush 389, 3) := by decide +kernel
theorem dX9_look_212 : decode cX9_look 212 = .ok (.iaload, 1) := by decide +kernel
theorem dX9_look_213 : decode cX9_look 213 = .ok (.ireturn, 1) := by decide +kernel
theorem dX9_look_214 : decode cX9_look 214 = .ok (.bipush (-10), 2) := by decide +kernel
theorem dX9_look_216 : decode cX9_look 216 = .ok (.ireturn, 1) := by decide +kernel
set_option maxHeartbeats 4000000 in
theorem t_X9_look_0 {X : sj_X} {s0 : sj_Mem} {N : Nat} {q : Int × sj_Mem} :
    ∀ (a0 : Nat) (x1 : Int) (s : sj_Mem), f_X9_look N a0 x1 s = some q → sj_T X m_X9_look s0 (some (sj_i q.1), q.2) 0 [some (sj_r (some a0)), some (sj_i x1)] [] s := by
  intro a0 x1 s h
  unfold f_X9_look at h
  refine r_iload_n (pc := 0) dX9_look_0 rfl rfl ?_
  obtain ⟨hr, h⟩ := e_sw_some h
  refine sj_if h (fun c0 h => ?_) (fun c0 h => ?_)
  · refine r_tcase (pc := 1) (tgt := 72) (j := 0) hr c0 dX9_look_1 (by decide) (by decide) rfl (by decide) ?_
    refine r_aload_n (pc := 72) dX9_look_72 rfl rfl ?_
    refine r_gR (pc := 73) h dX9_look_73 fw_X9_9 rfl (fun r1 h => ?_)
    refine r_iconst (pc := 76) dX9_look_76 ?_
    obtain ⟨a2, ea2, g⟩ := e_nn_some h
    clear h
    subst ea2
    have h := g
    clear g
    refine r_iaload (pc := 77) h dX9_look_77 (fun v3 h => ?_)
    exact r_iret (pc := 78) h rfl dX9_look_78
  refine sj_if h (fun c1 h => ?_) (fun c1 h => ?_)
  · refine r_tcase (pc := 1) (tgt := 79) (j := 1) hr c1 dX9_look_1 (by decide) (by decide) rfl (by decide) ?_
    refine r_aload_n (pc := 79) dX9_look_79 rfl rfl ?_
    refine r_gR (pc := 80) h dX9_look_80 fw_X9_9 rfl (fun r4 h => ?_)
    refine r_iconst (pc := 83) dX9_look_83 ?_
    obtain ⟨a5, ea5, g⟩ := e_nn_some h
    clear h
    subst ea5
    have h := g
    clear g
    refine r_iaload (pc := 84) h dX9_look_84 (fun v6 h => ?_)
    exact r_iret (pc := 85) h rfl dX9_look_85
  refine sj_if h (fun c2 h => ?_) (fun c2 h => ?_)
  · refine r_tcase (pc := 1) (tgt := 86) (j := 2) hr c2 dX9_look_1 (by decide) (by decide) rfl (by decide) ?_
    refine r_aload_n (pc := 86) dX9_look_86 rfl rfl ?_
    refine r_gR (pc := 87) h dX9_look_87 fw_X9_9 rfl (fun r7 h => ?_)
    refine r_iconst (pc := 90) dX9_look_90 ?_
    obtain ⟨a8, ea8, g⟩ := e_nn_some h
    clear h
    subst ea8
    have h := g
    clear g
    refine r_iaload (pc := 91) h dX9_look_91 (fun v9 h => ?_)
    exact r_iret (pc := 92) h rfl dX9_look_92
  refine sj_if h (fun c3 h => ?_) (fun c3 h => ?_)
  · refine r_tcase (pc := 1) (tgt := 93) (j := 3) hr c3 dX9_look_1 (by decide) (by decide) rfl (by decide) ?_
    refine r_aload_n (pc := 93) dX9_look_93 rfl rfl ?_
    refine r_callV (pc := 94) (fun v => some (sj_i v)) (As := []) (rest := []) h dX9_look_94 mw_X9_416 vw_X9_anchorSet (fun _ _ hc => c_X9_anchorSet hc) rfl ⟨(Nat.le_of_ble_eq_true rfl), (Nat.le_of_ble_eq_true rfl)⟩ (Nat.le_of_ble_eq_true rfl) rfl (fun v11 s10 h => ?_)
    exact r_iret (pc := 97) h rfl dX9_look_97
  refine sj_if h (fun c4 h => ?_) (fun c4 h => ?_)
  · refine r_tcase (pc := 1) (tgt := 98) (j := 4) hr c4 dX9_look_1 (by decide) (by decide) rfl (by decide) ?_
    refine r_aload_n (pc := 98) dX9_look_98 rfl rfl ?_
    refine r_callV (pc := 99) (fun v => some (sj_i v)) (As := []) (rest := []) h dX9_look_99 mw_X9_92 vw_X9_hasSlip (fun _ _ hc => c_X9_hasSlip hc) rfl ⟨(Nat.le_of_ble_eq_true rfl), (Nat.le_of_ble_eq_true rfl)⟩ (Nat.le_of_ble_eq_true rfl) rfl (fun v13 s12 h => ?_)
    refine r_if_eq (pc := 102) (tgt := 125) h dX9_look_102 (by decide) (fun h => ?_) (fun h => ?_)
    · refine r_iconst (pc := 125) dX9_look_125 ?_
      exact r_iret (pc := 126) h rfl dX9_look_126
    · refine r_aload_n (pc := 105) dX9_look_105 rfl rfl ?_
      refine r_gR (pc := 106) h dX9_look_106 fw_X9_9 rfl (fun r14 h => ?_)
      refine r_sipush (pc := 109) dX9_look_109 ⟨by decide, by decide⟩ ?_
      obtain ⟨a15, ea15, g⟩ := e_nn_some h
      clear h
      subst ea15
      have h := g
      clear g
      refine r_iaload (pc := 112) h dX9_look_112 (fun v16 h => ?_)
      refine r_aload_n (pc := 113) dX9_look_113 rfl rfl ?_
      refine r_gR (pc := 114) h dX9_look_114 fw_X9_9 rfl (fun r17 h => ?_)
      refine r_sipush (pc := 117) dX9_look_117 ⟨by decide, by decide⟩ ?_
      obtain ⟨a18, ea18, g⟩ := e_nn_some h
      clear h
      subst ea18
      have h := g
      clear g
      refine r_iaload (pc := 120) h dX9_look_120 (fun v19 h => ?_)
      refine r_isub (pc := 121) dX9_look_121 ?_
      refine r_goto (pc := 122) (tgt := 126) dX9_look_122 (by decide) ?_
      exact r_iret (pc := 126) h rfl dX9_look_126
  refine sj_if h (fun c5 h => ?_) (fun c5 h => ?_)
  · refine r_tcase (pc := 1) (tgt := 127) (j := 5) hr c5 dX9_look_1 (by decide) (by decide) rfl (by decide) ?_
    refine r_aload_n (pc := 127) dX9_look_127 rfl rfl ?_
    refine r_gR (pc := 128) h dX9_look_128 fw_X9_9 rfl (fun r20 h => ?_)
    refine r_sipush (pc := 131) dX9_look_131 ⟨by decide, by decide⟩ ?_
    obtain ⟨a21, ea21, g⟩ := e_nn_some h
    clear h
    subst ea21
    have h := g
    clear g
    refine r_iaload (pc := 134) h dX9_look_134 (fun v22 h => ?_)
    exact r_iret (pc := 135) h rfl dX9_look_135
  refine sj_if h (fun c6 h => ?_) (fun c6 h => ?_)
  · refine r_tcase (pc := 1) (tgt := 136) (j := 6) hr c6 dX9_look_1 (by decide) (by decide) rfl (by decide) ?_
    refine r_aload_n (pc := 136) dX9_look_136 rfl rfl ?_
    refine r_callV (pc := 137) (fun v => some (sj_i v)) (As := []) (rest := []) h dX9_look_137 mw_X9_92 vw_X9_hasSlip (fun _ _ hc => c_X9_hasSlip hc) rfl ⟨(Nat.le_of_ble_eq_true rfl), (Nat.le_of_ble_eq_true rfl)⟩ (Nat.le_of_ble_eq_true rfl) rfl (fun v24 s23 h => ?_)
    refine r_if_eq (pc := 140) (tgt := 154) h dX9_look_140 (by decide) (fun h => ?_) (fun h => ?_)
    · refine r_iconst (pc := 154) dX9_look_154 ?_
      exact r_iret (pc := 155) h rfl dX9_look_155
    · refine r_aload_n (pc := 143) dX9_look_143 rfl rfl ?_
      refine r_gR (pc := 144) h dX9_look_144 fw_X9_9 rfl (fun r25 h => ?_)
      refine r_sipush (pc := 147) dX9_look_147 ⟨by decide, by decide⟩ ?_
      obtain ⟨a26, ea26, g⟩ := e_nn_some h
      clear h
      subst ea26
      have h := g
      clear g
      refine r_iaload (pc := 150) h dX9_look_150 (fun v27 h => ?_)
      refine r_goto (pc := 151) (tgt := 155) dX9_look_151 (by decide) ?_
      exact r_iret (pc := 155) h rfl dX9_look_155
  refine sj_if h (fun c7 h => ?_) (fun c7 h => ?_)
  · refine r_tcase (pc := 1) (tgt := 156) (j := 7) hr c7 dX9_look_1 (by decide) (by decide) rfl (by decide) ?_
    refine r_aload_n (pc := 156) dX9_look_156 rfl rfl ?_
    refine r_callV (pc := 157) (fun v => some (sj_i v)) (As := []) (rest := []) h dX9_look_157 mw_X9_92 vw_X9_hasSlip (fun _ _ hc => c_X9_hasSlip hc) rfl ⟨(Nat.le_of_ble_eq_true rfl), (Nat.le_of_ble_eq_true rfl)⟩ (Nat.le_of_ble_eq_true rfl) rfl (fun v29 s28 h => ?_)
    refine r_if_eq (pc := 160) (tgt := 174) h dX9_look_160 (by decide) (fun h => ?_) (fun h => ?_)
    · refine r_iconst (pc := 174) dX9_look_174 ?_
      exact r_iret (pc := 175) h rfl dX9_look_175
    · refine r_aload_n (pc := 163) dX9_look_163 rfl rfl ?_
      refine r_gR (pc := 164) h dX9_look_164 fw_X9_9 rfl (fun r30 h => ?_)
      refine r_sipush (pc := 167) dX9_look_167 ⟨by decide, by decide⟩ ?_
      obtain ⟨a31, ea31, g⟩ := e_nn_some h
      clear h
      subst ea31
      have h := g
      clear g
      refine r_iaload (pc := 170) h dX9_look_170 (fun v32 h => ?_)
      refine r_goto (pc := 171) (tgt := 175) dX9_look_171 (by decide) ?_
      exact r_iret (pc := 175) h rfl dX9_look_175
  refine sj_if h (fun c8 h => ?_) (fun c8 h => ?_)
  · refine r_tcase (pc := 1) (tgt := 176) (j := 8) hr c8 dX9_look_1 (by decide) (by decide) rfl (by decide) ?_
    refine r_aload_n (pc := 176) dX9_look_176 rfl rfl ?_
    refine r_gR (pc := 177) h dX9_look_177 fw_X9_9 rfl (fun r33 h => ?_)
    refine r_sipush (pc := 180) dX9_look_180 ⟨by decide, by decide⟩ ?_
    obtain ⟨a34, ea34, g⟩ := e_nn_some h
    clear h
    subst ea34
    have h := g
    clear g
    refine r_iaload (pc := 183) h dX9_look_183 (fun v35 h => ?_)
    exact r_iret (pc := 184) h rfl dX9_look_184
  refine sj_if h (fun c9 h => ?_) (fun c9 h => ?_)
  · refine r_tcase (pc := 1) (tgt := 185) (j := 9) hr c9 dX9_look_1 (by decide) (by decide) rfl (by decide) ?_
    refine r_aload_n (pc := 185) dX9_look_185 rfl rfl ?_
    refine r_gI (pc := 186) h dX9_look_186 fw_X9_61 rfl (fun v36 h => ?_)
    exact r_iret (pc := 189) h rfl dX9_look_189
  refine sj_if h (fun c10 h => ?_) (fun c10 h => ?_)
  · refine r_tcase (pc := 1) (tgt := 190) (j := 10) hr c10 dX9_look_1 (by decide) (by decide) rfl (by decide) ?_
    refine r_aload_n (pc := 190) dX9_look_190 rfl rfl ?_
    refine r_gI (pc := 191) h dX9_look_191 fw_X9_337 rfl (fun v37 h => ?_)
    exact r_iret (pc := 194) h rfl dX9_look_194
  refine sj_if h (fun c11 h => ?_) (fun c11 h => ?_)
  · refine r_tcase (pc := 1) (tgt := 195) (j := 11) hr c11 dX9_look_1 (by decide) (by decide) rfl (by decide) ?_
    refine r_aload_n (pc := 195) dX9_look_195 rfl rfl ?_
    refine r_callV (pc := 196) (fun v => some (sj_i v)) (As := []) (rest := []) h dX9_look_196 mw_X9_419 vw_X9_highest (fun _ _ hc => c_X9_highest hc) rfl ⟨(Nat.le_of_ble_eq_true rfl), (Nat.le_of_ble_eq_true rfl)⟩ (Nat.le_of_ble_eq_true rfl) rfl (fun v39 s38 h => ?_)
    exact r_iret (pc := 199) h rfl dX9_look_199
  refine sj_if h (fun c12 h => ?_) (fun c12 h => ?_)
  · refine r_tcase (pc := 1) (tgt := 200) (j := 12) hr c12 dX9_look_1 (by decide) (by decide) rfl (by decide) ?_
    refine r_aload_n (pc := 200) dX9_look_200 rfl rfl ?_
    refine r_callV (pc := 201) (fun v => some (sj_i v)) (As := []) (rest := []) h dX9_look_201 mw_X9_422 vw_X9_soilOver (fun _ _ hc => c_X9_soilOver hc) rfl ⟨(Nat.le_of_ble_eq_true rfl), (Nat.le_of_ble_eq_true rfl)⟩ (Nat.le_of_ble_eq_true rfl) rfl (fun v41 s40 h => ?_)
    exact r_iret (pc := 204) h rfl dX9_look_204
  refine sj_if h (fun c13 h => ?_) (fun c13 h => ?_)
  · refine r_tcase (pc := 1) (tgt := 205) (j := 13) hr c13 dX9_look_1 (by decide) (by decide) rfl (by decide) ?_
    refine r_aload_n (pc := 205) dX9_look_205 rfl rfl ?_
    refine r_gR (pc := 206) h dX9_look_206 fw_X9_9 rfl (fun r42 h => ?_)
    refine r_sipush (pc := 209) dX9_look_209 ⟨by decide, by decide⟩ ?_
    obtain ⟨a43, ea43, g⟩ := e_nn_some h
    clear h
    subst ea43
    have h := g
    clear g
    refine r_iaload (pc := 212) h dX9_look_212 (fun v44 h => ?_)
    exact r_iret (pc := 213) h rfl dX9_look_213
  refine r_tdflt (pc := 1) (tgt := 214) hr dX9_look_1 (by omega) (by decide) ?_
  refine r_bipush (pc := 214) dX9_look_214 ⟨by decide, by decide⟩ ?_
  exact r_iret (pc := 216) h rfl dX9_look_216
set_option maxHeartbeats 4000000 in
theorem c_X9_look {X : sj_X} {N : Nat} {a0 : Nat} {x1 : Int} {s : sj_Mem} {q : Int × sj_Mem} (h : f_X9_look N a0 x1 s = some q) : sj_C X m_X9_look [sj_r (some a0), sj_i x1] s (some (sj_i q.1), q.2) :=
  sj_C_of (by decide +kernel) (Nat.le_of_ble_eq_true rfl) (lo := [some (sj_r (some a0)), some (sj_i x1)]) rfl (sj_weak (l2 := [some (sj_r (some a0)), some (sj_i x1)]) (⟨rfl, ⟨rfl, trivial⟩⟩) (t_X9_look_0 a0 x1 s h))
theorem dX9_image_0 : decode cX9_image 0 = .ok (.iload_n 1, 1) := by decide +kernel
theorem dX9_image_1 : decode cX9_image 1 = .ok (.ifCond .ne 12, 3) := by decide +kernel
theorem dX9_image_4 : decode cX9_image 4 = .ok (.aload_n 0, 1) := by decide +kernel
theorem dX9_image_5 : decode cX9_image 5 = .ok (.getfield 413, 3) := by decide +kernel
theorem dX9_image_8 : decode cX9_image 8 = .ok (.ifCond .ne 5, 3) := by decide +kernel
theorem dX9_image_11 : decode cX9_image 11 = .ok (.iconst 0, 1) := by decide +kernel
theorem dX9_image_12 : decode cX9_image 12 = .ok (.ireturn, 1) := by decide +kernel
theorem dX9_image_13 : decode cX9_image 13 = .ok (.iconst 0, 1) := by decide +kernel
theorem dX9_image_14 : decode cX9_image 14 = .ok (.istore_n 2, 1) := by decide +kernel
theorem dX9_image_15 : decode cX9_image 15 = .ok (.iload_n 2, 1) := by decide +kernel
theorem dX9_image_16 : decode cX9_image 16 = .ok (.sipush 390, 3) := by decide +kernel
theorem dX9_image_19 : decode cX9_image 19 = .ok (.if_icmp .ge 40, 3) := by decide +kernel
theorem dX9_image_22 : decode cX9_image 22 = .ok (.iload_n 1, 1) := by decide +kernel
theorem dX9_image_23 : decode cX9_image 23 = .ok (.ifCond .eq 18, 3) := by decide +kernel
theorem dX9_image_26 : decode cX9_image 26 = .ok (.aload_n 0, 1) := by decide +kernel
theorem dX9_image_27 : decode cX9_image 27 = .ok (.getfield 16, 3) := by decide +kernel
theorem dX9_image_30 : decode cX9_image 30 = .ok (.iload_n 2, 1) := by decide +kernel
theorem dX9_image_31 : decode cX9_image 31 = .ok (.aload_n 0, 1) := by decide +kernel
theorem dX9_image_32 : decode cX9_image 32 = .ok (.getfield 9, 3) := by decide +kernel
theorem dX9_image_35 : decode cX9_image 35 = .ok (.iload_n 2, 1) := by decide +kernel
theorem dX9_image_36 : decode cX9_image 36 = .ok (.iaload, 1) := by decide +kernel
theorem dX9_image_37 : decode cX9_image 37 = .ok (.iastore, 1) := by decide +kernel
theorem dX9_image_38 : decode cX9_image 38 = .ok (.goto 15, 3) := by decide +kernel
theorem dX9_image_41 : decode cX9_image 41 = .ok (.aload_n 0, 1) := by decide +kernel
theorem dX9_image_42 : decode cX9_image 42 = .ok (.getfield 9, 3) := by decide +kernel
theorem dX9_image_45 : decode cX9_image 45 = .ok (.iload_n 2, 1) := by decide +kernel
theorem dX9_image_46 : decode cX9_image 46 = .ok (.aload_n 0, 1) := by decide +kernel
theorem dX9_image_47 : decode cX9_image 47 = .ok (.getfield 16, 3) := by decide +kernel
theorem dX9_image_50 : decode cX9_image 50 = .ok (.iload_n 2, 1) := by decide +kernel
theorem dX9_image_51 : decode cX9_image 51 = .ok (.iaload, 1) := by decide +kernel
theorem dX9_image_52 : decode cX9_image 52 = .ok (.iastore, 1) := by decide +kernel
theorem dX9_image_53 : decode cX9_image 53 = .ok (.iinc 2 1, 3) := by decide +kernel
theorem dX9_image_56 : decode cX9_image 56 = .ok (.goto (-41), 3) := by decide +kernel
theorem dX9_image_59 : decode cX9_image 59 = .ok (.iload_n 1, 1) := by decide +kernel
theorem dX9_image_60 : decode cX9_image 60 = .ok (.ifCond .ne 8, 3) := by decide +kernel
theorem dX9_image_63 : decode cX9_image 63 = .ok (.aload_n 0, 1) := by decide +kernel
theorem dX9_image_64 : decode cX9_image 64 = .ok (.iconst 0, 1) := by decide +kernel
theorem dX9_image_65 : decode cX9_image 65 = .ok (.putfield 61, 3) := by decide +kernel
theorem dX9_image_68 : decode cX9_image 68 = .ok (.aload_n 0, 1) := by decide +kernel
theorem dX9_image_69 : decode cX9_image 69 = .ok (.iconst 1, 1) := by decide +kernel
theorem dX9_image_70 : decode cX9_image 70 = .ok (.putfield 413, 3) := by decide +kernel
theorem dX9_image_73 : decode cX9_image 73 = .ok (.iconst 1, 1) := by decide +kernel
theorem dX9_image_74 : decode cX9_image 74 = .ok (.ireturn, 1) := by decide +kernel
set_option maxHeartbeats 4000000 in
theorem t_X9_image_53 {X : sj_X} {s0 : sj_Mem} {N : Nat} {q : Int × sj_Mem} {k15 : Nat → Int → Int → sj_Mem → Option (Int × sj_Mem)} (hk15 : ∀ (a0 : Nat) (x1 : Int) (x2 : Int) (s : sj_Mem), k15 a0 x1 x2 s = some q → sj_T X m_X9_image s0 (some (sj_i q.1), q.2) 15 [some (sj_r (some a0)), some (sj_i x1), some (sj_i x2)] [] s) :
    ∀ (a0 : Nat) (x1 : Int) (x2 : Int) (s : sj_Mem), f_X9_image_53 N k15 a0 x1 x2 s = some q → sj_T X m_X9_image s0 (some (sj_i q.1), q.2) 53 [some (sj_r (some a0)), some (sj_i x1), some (sj_i x2)] [] s := by
  intro a0 x1 x2 s h
  unfold f_X9_image_53 at h
  refine r_iinc (ln := fun w => [some (sj_r (some a0)), some (sj_i x1), some (sj_i w)]) (pc := 53) h dX9_image_53 rfl (Nat.le_of_ble_eq_true rfl) (fun _ => rfl) (fun v1 h => ?_)
  refine r_goto (pc := 56) (tgt := 15) dX9_image_56 (by decide) ?_
  exact sj_weak (l2 := [some (sj_r (some a0)), some (sj_i x1), some (sj_i v1)]) (⟨rfl, ⟨rfl, ⟨rfl, trivial⟩⟩⟩) (hk15 a0 x1 v1 s h)
set_option maxHeartbeats 4000000 in
theorem t_X9_image_15_b {X : sj_X} {s0 : sj_Mem} {N : Nat} {q : Int × sj_Mem} {k15 : Nat → Int → Int → sj_Mem → Option (Int × sj_Mem)} (hk15 : ∀ (a0 : Nat) (x1 : Int) (x2 : Int) (s : sj_Mem), k15 a0 x1 x2 s = some q → sj_T X m_X9_image s0 (some (sj_i q.1), q.2) 15 [some (sj_r (some a0)), some (sj_i x1), some (sj_i x2)] [] s) :
    ∀ (a0 : Nat) (x1 : Int) (x2 : Int) (s : sj_Mem), f_X9_image_15_b N k15 a0 x1 x2 s = some q → sj_T X m_X9_image s0 (some (sj_i q.1), q.2) 15 [some (sj_r (some a0)), some (sj_i x1), some (sj_i x2)] [] s := by
  intro a0 x1 x2 s h
  unfold f_X9_image_15_b at h
  refine r_iload_n (pc := 15) dX9_image_15 rfl rfl ?_
  refine r_sipush (pc := 16) dX9_image_16 ⟨by decide, by decide⟩ ?_
  refine r_icmp_ge (pc := 19) (tgt := 59) h dX9_image_19 (by decide) (fun h => ?_) (fun h => ?_)
  · refine r_iload_n (pc := 59) dX9_image_59 rfl rfl ?_
    refine r_if_ne (pc := 60) (tgt := 68) h dX9_image_60 (by decide) (fun h => ?_) (fun h => ?_)
    · refine r_aload_n (pc := 63) dX9_image_63 rfl rfl ?_
      refine r_iconst (pc := 64) dX9_image_64 ?_
      refine r_pI (pc := 65) h dX9_image_65 fw_X9_61 rfl rfl (fun _ hq => by cases hq; rfl) (fun s2 h => ?_)
      refine r_aload_n (pc := 68) dX9_image_68 rfl rfl ?_
      refine r_iconst (pc := 69) dX9_image_69 ?_
      refine r_pZ (pc := 70) h dX9_image_70 fw_X9_413 rfl rfl (fun _ hq => by cases hq; rfl) (fun s3 h => ?_)
      refine r_iconst (pc := 73) dX9_image_73 ?_
      exact r_zret (pc := 74) h rfl dX9_image_74
    · refine r_aload_n (pc := 68) dX9_image_68 rfl rfl ?_
      refine r_iconst (pc := 69) dX9_image_69 ?_
      refine r_pZ (pc := 70) h dX9_image_70 fw_X9_413 rfl rfl (fun _ hq => by cases hq; rfl) (fun s1 h => ?_)
      refine r_iconst (pc := 73) dX9_image_73 ?_
      exact r_zret (pc := 74) h rfl dX9_image_74
  · refine r_iload_n (pc := 22) dX9_image_22 rfl rfl ?_
    refine r_if_eq (pc := 23) (tgt := 41) h dX9_image_23 (by decide) (fun h => ?_) (fun h => ?_)
    · refine r_aload_n (pc := 41) dX9_image_41 rfl rfl ?_
      refine r_gR (pc := 42) h dX9_image_42 fw_X9_9 rfl (fun r4 h => ?_)
      refine r_iload_n (pc := 45) dX9_image_45 rfl rfl ?_
      refine r_aload_n (pc := 46) dX9_image_46 rfl rfl ?_
      refine r_gR (pc := 47) h dX9_image_47 fw_X9_16 rfl (fun r5 h => ?_)
      refine r_iload_n (pc := 50) dX9_image_50 rfl rfl ?_
      obtain ⟨a6, ea6, g⟩ := e_nn_some h
      clear h
      subst ea6
      have h := g
      clear g
      refine r_iaload (pc := 51) h dX9_image_51 (fun v7 h => ?_)
      obtain ⟨a8, ea8, g⟩ := e_nn_some h
      clear h
      subst ea8
      have h := g
      clear g
      refine r_iastore (pc := 52) h dX9_image_52 (fun s9 h => ?_)
      exact sj_weak (l2 := [some (sj_r (some a0)), some (sj_i x1), some (sj_i x2)]) (⟨rfl, ⟨rfl, ⟨rfl, trivial⟩⟩⟩) (t_X9_image_53 hk15 a0 x1 x2 s9 h)
    · refine r_aload_n (pc := 26) dX9_image_26 rfl rfl ?_
      refine r_gR (pc := 27) h dX9_image_27 fw_X9_16 rfl (fun r10 h => ?_)
      refine r_iload_n (pc := 30) dX9_image_30 rfl rfl ?_
      refine r_aload_n (pc := 31) dX9_image_31 rfl rfl ?_
      refine r_gR (pc := 32) h dX9_image_32 fw_X9_9 rfl (fun r11 h => ?_)
      refine r_iload_n (pc := 35) dX9_image_35 rfl rfl ?_
      obtain ⟨a12, ea12, g⟩ := e_nn_some h
      clear h
      subst ea12
      have h := g
      clear g
      refine r_iaload (pc := 36) h dX9_image_36 (fun v13 h => ?_)
      obtain ⟨a14, ea14, g⟩ := e_nn_some h
      clear h
      subst ea14
      have h := g
      clear g
      refine r_iastore (pc := 37) h dX9_image_37 (fun s15 h => ?_)
      refine r_goto (pc := 38) (tgt := 53) dX9_image_38 (by decide) ?_
      exact sj_weak (l2 := [some (sj_r (some a0)), some (sj_i x1), some (sj_i x2)]) (⟨rfl, ⟨rfl, ⟨rfl, trivial⟩⟩⟩) (t_X9_image_53 hk15 a0 x1 x2 s15 h)
set_option maxHeartbeats 4000000 in
theorem t_X9_image_15 {X : sj_X} {s0 : sj_Mem} {N : Nat} {q : Int × sj_Mem} :
    ∀ (n : Nat) (a0 : Nat) (x1 : Int) (x2 : Int) (s : sj_Mem), f_X9_image_15 N n a0 x1 x2 s = some q → sj_T X m_X9_image s0 (some (sj_i q.1), q.2) 15 [some (sj_r (some a0)), some (sj_i x1), some (sj_i x2)] [] s := by
  intro n
  induction n with
  | zero => intro a0 x1 x2 s h; exact nomatch h
  | succ n ih => intro a0 x1 x2 s h; exact t_X9_image_15_b (N := N) ih a0 x1 x2 s h
set_option maxHeartbeats 4000000 in
theorem t_X9_image_13 {X : sj_X} {s0 : sj_Mem} {N : Nat} {q : Int × sj_Mem} :
    ∀ (a0 : Nat) (x1 : Int) (s : sj_Mem), f_X9_image_13 N a0 x1 s = some q → sj_T X m_X9_image s0 (some (sj_i q.1), q.2) 13 [some (sj_r (some a0)), some (sj_i x1), none] [] s := by
  intro a0 x1 s h
  unfold f_X9_image_13 at h
  refine r_iconst (pc := 13) dX9_image_13 ?_
  refine r_istore_n (ln := [some (sj_r (some a0)), some (sj_i x1), some (sj_i 0)]) (pc := 14) dX9_image_14 rfl (Nat.le_of_ble_eq_true rfl) rfl ?_
  exact sj_weak (l2 := [some (sj_r (some a0)), some (sj_i x1), some (sj_i 0)]) (⟨rfl, ⟨rfl, ⟨rfl, trivial⟩⟩⟩) (t_X9_image_15 N a0 x1 0 s h)
set_option maxHeartbeats 4000000 in
theorem t_X9_image_0 {X : sj_X} {s0 : sj_Mem} {N : Nat} {q : Int × sj_Mem} :
    ∀ (a0 : Nat) (x1 : Int) (s : sj_Mem), f_X9_image N a0 x1 s = some q → sj_T X m_X9_image s0 (some (sj_i q.1), q.2) 0 [some (sj_r (some a0)), some (sj_i x1), none] [] s := by
  intro a0 x1 s h
  unfold f_X9_image at h
  refine r_iload_n (pc := 0) dX9_image_0 rfl rfl ?_
  refine r_if_ne (pc := 1) (tgt := 13) h dX9_image_1 (by decide) (fun h => ?_) (fun h => ?_)
  · refine r_aload_n (pc := 4) dX9_image_4 rfl rfl ?_
    refine r_gI (pc := 5) h dX9_image_5 fw_X9_413 rfl (fun v1 h => ?_)
    refine r_if_ne (pc := 8) (tgt := 13) h dX9_image_8 (by decide) (fun h => ?_) (fun h => ?_)
    · refine r_iconst (pc := 11) dX9_image_11 ?_
      exact r_zret (pc := 12) h rfl dX9_image_12
    · exact sj_weak (l2 := [some (sj_r (some a0)), some (sj_i x1), none]) (⟨rfl, ⟨rfl, trivial⟩⟩) (t_X9_image_13 a0 x1 s h)
  · exact sj_weak (l2 := [some (sj_r (some a0)), some (sj_i x1), none]) (⟨rfl, ⟨rfl, trivial⟩⟩) (t_X9_image_13 a0 x1 s h)
set_option maxHeartbeats 4000000 in
theorem c_X9_image {X : sj_X} {N : Nat} {a0 : Nat} {x1 : Int} {s : sj_Mem} {q : Int × sj_Mem} (h : f_X9_image N a0 x1 s = some q) : sj_C X m_X9_image [sj_r (some a0), sj_i x1] s (some (sj_i q.1), q.2) :=
  sj_C_of (by decide +kernel) (Nat.le_of_ble_eq_true rfl) (lo := [some (sj_r (some a0)), some (sj_i x1), none]) rfl (sj_weak (l2 := [some (sj_r (some a0)), some (sj_i x1), none]) (⟨rfl, ⟨rfl, trivial⟩⟩) (t_X9_image_0 a0 x1 s h))
theorem dX9_sign_0 : decode cX9_sign 0 = .ok (.iload_n 1, 1) := by decide +kernel
theorem dX9_sign_1 : decode cX9_sign 1 = .ok (.i2l, 1) := by decide +kernel
theorem dX9_sign_2 : decode cX9_sign 2 = .ok (.lconst 0, 1) := by decide +kernel
theorem dX9_sign_3 : decode cX9_sign 3 = .ok (.aload_n 0, 1) := by decide +kernel
theorem dX9_sign_4 : decode cX9_sign 4 = .ok (.getfield 325, 3) := by decide +kernel
theorem dX9_sign_7 : decode cX9_sign 7 = .ok (.iconst 1, 1) := by decide +kernel
theorem dX9_sign_8 : decode cX9_sign 8 = .ok (.isub, 1) := by decide +kernel
theorem dX9_sign_9 : decode cX9_sign 9 = .ok (.i2l, 1) := by decide +kernel
theorem dX9_sign_10 : decode cX9_sign 10 = .ok (.invokestatic 57, 3) := by decide +kernel
theorem dX9_sign_13 : decode cX9_sign 13 = .ok (.ifCond .eq 12, 3) := by decide +kernel
theorem dX9_sign_16 : decode cX9_sign 16 = .ok (.aload_n 0, 1) := by decide +kernel
theorem dX9_sign_17 : decode cX9_sign 17 = .ok (.getfield 39, 3) := by decide +kernel
theorem dX9_sign_20 : decode cX9_sign 20 = .ok (.iload_n 1, 1) := by decide +kernel
theorem dX9_sign_21 : decode cX9_sign 21 = .ok (.iaload, 1) := by decide +kernel
theorem dX9_sign_22 : decode cX9_sign 22 = .ok (.goto 4, 3) := by decide +kernel
theorem dX9_sign_25 : decode cX9_sign 25 = .ok (.iconst (-1), 1) := by decide +kernel
theorem dX9_sign_26 : decode cX9_sign 26 = .ok (.ireturn, 1) := by decide +kernel
set_option maxHeartbeats 4000000 in
theorem t_X9_sign_0 {X : sj_X} {s0 : sj_Mem} {N : Nat} {q : Int × sj_Mem} :
    ∀ (a0 : Nat) (x1 : Int) (s : sj_Mem), f_X9_sign N a0 x1 s = some q → sj_T X m_X9_sign s0 (some (sj_i q.1), q.2) 0 [some (sj_r (some a0)), some (sj_i x1)] [] s := by
  intro a0 x1 s h
  unfold f_X9_sign at h
  refine r_iload_n (pc := 0) dX9_sign_0 rfl rfl ?_
  refine r_i2l (pc := 1) h dX9_sign_1 (fun v1 h => ?_)
  refine r_lconst0 (pc := 2) dX9_sign_2 ?_
  refine r_aload_n (pc := 3) dX9_sign_3 rfl rfl ?_
  refine r_gI (pc := 4) h dX9_sign_4 fw_X9_325 rfl (fun v2 h => ?_)
  refine r_iconst (pc := 7) dX9_sign_7 ?_
  refine r_isub (pc := 8) dX9_sign_8 ?_
  refine r_i2l (pc := 9) h dX9_sign_9 (fun v3 h => ?_)
  refine r_callS (pc := 10) (fun v => some (sj_i v)) (As := [sj_j v1, sj_j 0, sj_j v3]) (rest := []) h dX9_sign_10 mw_X9_57 kw_1225 (fun _ _ hc => c_X9_isIn hc) rfl ⟨(Nat.le_of_ble_eq_true rfl), (Nat.le_of_ble_eq_true rfl)⟩ (Nat.le_of_ble_eq_true rfl) rfl (fun v5 s4 h => ?_)
  refine r_if_eq (pc := 13) (tgt := 25) h dX9_sign_13 (by decide) (fun h => ?_) (fun h => ?_)
  · refine r_iconst (pc := 25) dX9_sign_25 ?_
    exact r_iret (pc := 26) h rfl dX9_sign_26
  · refine r_aload_n (pc := 16) dX9_sign_16 rfl rfl ?_
    refine r_gR (pc := 17) h dX9_sign_17 fw_X9_39 rfl (fun r6 h => ?_)
    refine r_iload_n (pc := 20) dX9_sign_20 rfl rfl ?_
    obtain ⟨a7, ea7, g⟩ := e_nn_some h
    clear h
    subst ea7
    have h := g
    clear g
    refine r_iaload (pc := 21) h dX9_sign_21 (fun v8 h => ?_)
    refine r_goto (pc := 22) (tgt := 26) dX9_sign_22 (by decide) ?_
    exact r_iret (pc := 26) h rfl dX9_sign_26
set_option maxHeartbeats 4000000 in
theorem c_X9_sign {X : sj_X} {N : Nat} {a0 : Nat} {x1 : Int} {s : sj_Mem} {q : Int × sj_Mem} (h : f_X9_sign N a0 x1 s = some q) : sj_C X m_X9_sign [sj_r (some a0), sj_i x1] s (some (sj_i q.1), q.2) :=
  sj_C_of (by decide +kernel) (Nat.le_of_ble_eq_true rfl) (lo := [some (sj_r (some a0)), some (sj_i x1)]) rfl (sj_weak (l2 := [some (sj_r (some a0)), some (sj_i x1)]) (⟨rfl, ⟨rfl, trivial⟩⟩) (t_X9_sign_0 a0 x1 s h))
theorem dX9_takesSlip_0 : decode cX9_takesSlip 0 = .ok (.aload_n 0, 1) := by decide +kernel
theorem dX9_takesSlip_1 : decode cX9_takesSlip 1 = .ok (.aload_n 0, 1) := by decide +kernel
theorem dX9_takesSlip_2 : decode cX9_takesSlip 2 = .ok (.getfield 9, 3) := by decide +kernel
theorem dX9_takesSlip_5 : decode cX9_takesSlip 5 = .ok (.sipush 320, 3) := by decide +kernel
theorem dX9_takesSlip_8 : decode cX9_takesSlip 8 = .ok (.iaload, 1) := by decide +kernel
theorem dX9_takesSlip_9 : decode cX9_takesSlip 9 = .ok (.putfield 22, 3) := by decide +kernel
theorem dX9_takesSlip_12 : decode cX9_takesSlip 12 = .ok (.aload_n 0, 1) := by decide +kernel
theorem dX9_takesSlip_13 : decode cX9_takesSlip 13 = .ok (.aload_n 0, 1) := by decide +kernel
theorem dX9_takesSlip_14 : decode cX9_takesSlip 14 = .ok (.getfield 9, 3) := by decide +kernel
theorem dX9_takesSlip_17 : decode cX9_takesSlip 17 = .ok (.sipush 321, 3) := by decide +kernel
theorem dX9_takesSlip_20 : decode cX9_takesSlip 20 = .ok (.iaload, 1) := by decide +kernel
theorem dX9_takesSlip_21 : decode cX9_takesSlip 21 = .ok (.putfield 150, 3) := by decide +kernel
theorem dX9_takesSlip_24 : decode cX9_takesSlip 24 = .ok (.aload_n 0, 1) := by decide +kernel
theorem dX9_takesSlip_25 : decode cX9_takesSlip 25 = .ok (.aload_n 0, 1) := by decide +kernel
theorem dX9_takesSlip_26 : decode cX9_takesSlip 26 = .ok (.getfield 9, 3) := by decide +kernel
theorem dX9_takesSlip_29 : decode cX9_takesSlip 29 = .ok (.sipush 322, 3) := by decide +kernel
theorem dX9_takesSlip_32 : decode cX9_takesSlip 32 = .ok (.iaload, 1) := by decide +kernel
theorem dX9_takesSlip_33 : decode cX9_takesSlip 33 = .ok (.iconst 1, 1) := by decide +kernel
theorem dX9_takesSlip_34 : decode cX9_takesSlip 34 = .ok (.if_icmp .ne 7, 3) := by decide +kernel
theorem dX9_takesSlip_37 : decode cX9_takesSlip 37 = .ok (.iconst 1, 1) := by decide +kernel
theorem dX9_takesSlip_38 : decode cX9_takesSlip 38 = .ok (.goto 4, 3) := by decide +kernel
theorem dX9_takesSlip_41 : decode cX9_takesSlip 41 = .ok (.iconst 0, 1) := by decide +kernel
theorem dX9_takesSlip_42 : decode cX9_takesSlip 42 = .ok (.putfield 153, 3) := by decide +kernel
theorem dX9_takesSlip_45 : decode cX9_takesSlip 45 = .ok (.iconst 0, 1) := by decide +kernel
theorem dX9_takesSlip_46 : decode cX9_takesSlip 46 = .ok (.istore_n 1, 1) := by decide +kernel
theorem dX9_takesSlip_47 : decode cX9_takesSlip 47 = .ok (.iload_n 1, 1) := by decide +kernel
theorem dX9_takesSlip_48 : decode cX9_takesSlip 48 = .ok (.bipush 41, 2) := by decide +kernel
theorem dX9_takesSlip_50 : decode cX9_takesSlip 50 = .ok (.if_icmp .ge 25, 3) := by decide +kernel
theorem dX9_takesSlip_53 : decode cX9_takesSlip 53 = .ok (.aload_n 0, 1) := by decide +kernel
theorem dX9_takesSlip_54 : decode cX9_takesSlip 54 = .ok (.getfield 26, 3) := by decide +kernel
theorem dX9_takesSlip_57 : decode cX9_takesSlip 57 = .ok (.iload_n 1, 1) := by decide +kernel
theorem dX9_takesSlip_58 : decode cX9_takesSlip 58 = .ok (.aload_n 0, 1) := by decide +kernel
theorem dX9_takesSlip_59 : decode cX9_takesSlip 59 = .ok (.getfield 9, 3) := by decide +kernel
theorem dX9_takesSlip_62 : decode cX9_takesSlip 62 = .ok (.sipush 323, 3) := by decide +kernel
theorem dX9_takesSlip_65 : decode cX9_takesSlip 65 = .ok (.iload_n 1, 1) := by decide +kernel
theorem dX9_takesSlip_66 : decode cX9_takesSlip 66 = .ok (.iadd, 1) := by decide +kernel
theorem dX9_takesSlip_67 : decode cX9_takesSlip 67 = .ok (.iaload, 1) := by decide +kernel
theorem dX9_takesSlip_68 : decode cX9_takesSlip 68 = .ok (.iastore, 1) := by decide +kernel
theorem dX9_takesSlip_69 : decode cX9_takesSlip 69 = .ok (.iinc 1 1, 3) := by decide +kernel
theorem dX9_takesSlip_72 : decode cX9_takesSlip 72 = .ok (.goto (-25), 3) := by decide +kernel
theorem dX9_takesSlip_75 : decode cX9_takesSlip 75 = .ok (.aload_n 0, 1) := by decide +kernel
theorem dX9_takesSlip_76 : decode cX9_takesSlip 76 = .ok (.getfield 22, 3) := by decide +kernel
theorem dX9_takesSlip_79 : decode cX9_takesSlip 79 = .ok (.iconst (-1), 1) := by decide +kernel
theorem dX9_takesSlip_80 : decode cX9_takesSlip 80 = .ok (.if_icmp .eq 7, 3) := by decide +kernel
theorem dX9_takesSlip_83 : decode cX9_takesSlip 83 = .ok (.iconst 1, 1) := by decide +kernel
theorem dX9_takesSlip_84 : decode cX9_takesSlip 84 = .ok (.goto 4, 3) := by decide +kernel
theorem dX9_takesSlip_87 : decode cX9_takesSlip 87 = .ok (.iconst 0, 1) := by decide +kernel
theorem dX9_takesSlip_88 : decode cX9_takesSlip 88 = .ok (.ireturn, 1) := by decide +kernel
set_option maxHeartbeats 4000000 in
theorem t_X9_takesSlip_47_b {X : sj_X} {s0 : sj_Mem} {N : Nat} {q : Int × sj_Mem} {k47 : Nat → Int → sj_Mem → Option (Int × sj_Mem)} (hk47 : ∀ (a0 : Nat) (x1 : Int) (s : sj_Mem), k47 a0 x1 s = some q → sj_T X m_X9_takesSlip s0 (some (sj_i q.1), q.2) 47 [some (sj_r (some a0)), some (sj_i x1)] [] s) :
    ∀ (a0 : Nat) (x1 : Int) (s : sj_Mem), f_X9_takesSlip_47_b N k47 a0 x1 s = some q → sj_T X m_X9_takesSlip s0 (some (sj_i q.1), q.2) 47 [some (sj_r (some a0)), some (sj_i x1)] [] s := by
  intro a0 x1 s h
  unfold f_X9_takesSlip_47_b at h
  refine r_iload_n (pc := 47) dX9_takesSlip_47 rfl rfl ?_
  refine r_bipush (pc := 48) dX9_takesSlip_48 ⟨by decide, by decide⟩ ?_
  refine r_icmp_ge (pc := 50) (tgt := 75) h dX9_takesSlip_50 (by decide) (fun h => ?_) (fun h => ?_)
  · refine r_aload_n (pc := 75) dX9_takesSlip_75 rfl rfl ?_
    refine r_gI (pc := 76) h dX9_takesSlip_76 fw_X9_22 rfl (fun v1 h => ?_)
    refine r_iconst (pc := 79) dX9_takesSlip_79 ?_
    refine r_icmp_eq (pc := 80) (tgt := 87) h dX9_takesSlip_80 (by decide) (fun h => ?_) (fun h => ?_)
    · refine r_iconst (pc := 87) dX9_takesSlip_87 ?_
      exact r_zret (pc := 88) h rfl dX9_takesSlip_88
    · refine r_iconst (pc := 83) dX9_takesSlip_83 ?_
      refine r_goto (pc := 84) (tgt := 88) dX9_takesSlip_84 (by decide) ?_
      exact r_zret (pc := 88) h rfl dX9_takesSlip_88
  · refine r_aload_n (pc := 53) dX9_takesSlip_53 rfl rfl ?_
    refine r_gR (pc := 54) h dX9_takesSlip_54 fw_X9_26 rfl (fun r2 h => ?_)
    refine r_iload_n (pc := 57) dX9_takesSlip_57 rfl rfl ?_
    refine r_aload_n (pc := 58) dX9_takesSlip_58 rfl rfl ?_
    refine r_gR (pc := 59) h dX9_takesSlip_59 fw_X9_9 rfl (fun r3 h => ?_)
    refine r_sipush (pc := 62) dX9_takesSlip_62 ⟨by decide, by decide⟩ ?_
    refine r_iload_n (pc := 65) dX9_takesSlip_65 rfl rfl ?_
    refine r_iadd (pc := 66) dX9_takesSlip_66 ?_
    obtain ⟨a4, ea4, g⟩ := e_nn_some h
    clear h
    subst ea4
    have h := g
    clear g
    refine r_iaload (pc := 67) h dX9_takesSlip_67 (fun v5 h => ?_)
    obtain ⟨a6, ea6, g⟩ := e_nn_some h
    clear h
    subst ea6
    have h := g
    clear g
    refine r_iastore (pc := 68) h dX9_takesSlip_68 (fun s7 h => ?_)
    refine r_iinc (ln := fun w => [some (sj_r (some a0)), some (sj_i w)]) (pc := 69) h dX9_takesSlip_69 rfl (Nat.le_of_ble_eq_true rfl) (fun _ => rfl) (fun v8 h => ?_)
    refine r_goto (pc := 72) (tgt := 47) dX9_takesSlip_72 (by decide) ?_
    exact sj_weak (l2 := [some (sj_r (some a0)), some (sj_i v8)]) (⟨rfl, ⟨rfl, trivial⟩⟩) (hk47 a0 v8 s7 h)
set_option maxHeartbeats 4000000 in
theorem t_X9_takesSlip_47 {X : sj_X} {s0 : sj_Mem} {N : Nat} {q : Int × sj_Mem} :
    ∀ (n : Nat) (a0 : Nat) (x1 : Int) (s : sj_Mem), f_X9_takesSlip_47 N n a0 x1 s = some q → sj_T X m_X9_takesSlip s0 (some (sj_i q.1), q.2) 47 [some (sj_r (some a0)), some (sj_i x1)] [] s := by
  intro n
  induction n with
  | zero => intro a0 x1 s h; exact nomatch h
  | succ n ih => intro a0 x1 s h; exact t_X9_takesSlip_47_b (N := N) ih a0 x1 s h
set_option maxHeartbeats 4000000 in
theorem t_X9_takesSlip_42 {X : sj_X} {s0 : sj_Mem} {N : Nat} {q : Int × sj_Mem} :
    ∀ (a0 : Nat) (y0 : Int) (y1 : Option Nat) (s : sj_Mem), f_X9_takesSlip_42 N a0 y0 y1 s = some q → sj_T X m_X9_takesSlip s0 (some (sj_i q.1), q.2) 42 [some (sj_r (some a0)), none] [(sj_i y0), (sj_r y1)] s := by
  intro a0 y0 y1 s h
  unfold f_X9_takesSlip_42 at h
  obtain ⟨a1, ea1, g⟩ := e_nn_some h
  clear h
  subst ea1
  have h := g
  clear g
  refine r_pZ (pc := 42) h dX9_takesSlip_42 fw_X9_153 rfl rfl (fun _ hq => by cases hq; rfl) (fun s2 h => ?_)
  refine r_iconst (pc := 45) dX9_takesSlip_45 ?_
  refine r_istore_n (ln := [some (sj_r (some a0)), some (sj_i 0)]) (pc := 46) dX9_takesSlip_46 rfl (Nat.le_of_ble_eq_true rfl) rfl ?_
  exact sj_weak (l2 := [some (sj_r (some a0)), some (sj_i 0)]) (⟨rfl, ⟨rfl, trivial⟩⟩) (t_X9_takesSlip_47 N a0 0 s2 h)
set_option maxHeartbeats 4000000 in
theorem t_X9_takesSlip_0 {X : sj_X} {s0 : sj_Mem} {N : Nat} {q : Int × sj_Mem} :
    ∀ (a0 : Nat) (s : sj_Mem), f_X9_takesSlip N a0 s = some q → sj_T X m_X9_takesSlip s0 (some (sj_i q.1), q.2) 0 [some (sj_r (some a0)), none] [] s := by
  intro a0 s h
  unfold f_X9_takesSlip at h
  refine r_aload_n (pc := 0) dX9_takesSlip_0 rfl rfl ?_
  refine r_aload_n (pc := 1) dX9_takesSlip_1 rfl rfl ?_
  refine r_gR (pc := 2) h dX9_takesSlip_2 fw_X9_9 rfl (fun r1 h => ?_)
  refine r_sipush (pc := 5) dX9_takesSlip_5 ⟨by decide, by decide⟩ ?_
  obtain ⟨a2, ea2, g⟩ := e_nn_some h
  clear h
  subst ea2
  have h := g
  clear g
  refine r_iaload (pc := 8) h dX9_takesSlip_8 (fun v3 h => ?_)
  refine r_pI (pc := 9) h dX9_takesSlip_9 fw_X9_22 rfl rfl (fun _ hq => by cases hq; rfl) (fun s4 h => ?_)
  refine r_aload_n (pc := 12) dX9_takesSlip_12 rfl rfl ?_
  refine r_aload_n (pc := 13) dX9_takesSlip_13 rfl rfl ?_
  refine r_gR (pc := 14) h dX9_takesSlip_14 fw_X9_9 rfl (fun r5 h => ?_)
  refine r_sipush (pc := 17) dX9_takesSlip_17 ⟨by decide, by decide⟩ ?_
  obtain ⟨a6, ea6, g⟩ := e_nn_some h
  clear h
  subst ea6
  have h := g
  clear g
  refine r_iaload (pc := 20) h dX9_takesSlip_20 (fun v7 h => ?_)
  refine r_pI (pc := 21) h dX9_takesSlip_21 fw_X9_150 rfl rfl (fun _ hq => by cases hq; rfl) (fun s8 h => ?_)
  refine r_aload_n (pc := 24) dX9_takesSlip_24 rfl rfl ?_
  refine r_aload_n (pc := 25) dX9_takesSlip_25 rfl rfl ?_
  refine r_gR (pc := 26) h dX9_takesSlip_26 fw_X9_9 rfl (fun r9 h => ?_)
  refine r_sipush (pc := 29) dX9_takesSlip_29 ⟨by decide, by decide⟩ ?_
  obtain ⟨a10, ea10, g⟩ := e_nn_some h
  clear h
  subst ea10
  have h := g
  clear g
  refine r_iaload (pc := 32) h dX9_takesSlip_32 (fun v11 h => ?_)
  refine r_iconst (pc := 33) dX9_takesSlip_33 ?_
  refine r_icmp_ne (pc := 34) (tgt := 41) h dX9_takesSlip_34 (by decide) (fun h => ?_) (fun h => ?_)
  · refine r_iconst (pc := 37) dX9_takesSlip_37 ?_
    refine r_goto (pc := 38) (tgt := 42) dX9_takesSlip_38 (by decide) ?_
    exact sj_weak (l2 := [some (sj_r (some a0)), none]) (⟨rfl, trivial⟩) (t_X9_takesSlip_42 a0 1 (some a0) s8 h)
  · refine r_iconst (pc := 41) dX9_takesSlip_41 ?_
    exact sj_weak (l2 := [some (sj_r (some a0)), none]) (⟨rfl, trivial⟩) (t_X9_takesSlip_42 a0 0 (some a0) s8 h)
set_option maxHeartbeats 4000000 in
theorem c_X9_takesSlip {X : sj_X} {N : Nat} {a0 : Nat} {s : sj_Mem} {q : Int × sj_Mem} (h : f_X9_takesSlip N a0 s = some q) : sj_C X m_X9_takesSlip [sj_r (some a0)] s (some (sj_i q.1), q.2) :=
  sj_C_of (by decide +kernel) (Nat.le_of_ble_eq_true rfl) (lo := [some (sj_r (some a0)), none]) rfl (sj_weak (l2 := [some (sj_r (some a0)), none]) (⟨rfl, trivial⟩) (t_X9_takesSlip_0 a0 s h))
theorem dX9_isCounting_0 : decode cX9_isCounting 0 = .ok (.aload_n 0, 1) := by decide +kernel
theorem dX9_isCounting_1 : decode cX9_isCounting 1 = .ok (.getfield 9, 3) := by decide +kernel
theorem dX9_isCounting_4 : decode cX9_isCounting 4 = .ok (.sipush 302, 3) := by decide +kernel
theorem dX9_isCounting_7 : decode cX9_isCounting 7 = .ok (.iconst 3, 1) := by decide +kernel
theorem dX9_isCounting_8 : decode cX9_isCounting 8 = .ok (.iload_n 1, 1) := by decide +kernel
theorem dX9_isCounting_9 : decode cX9_isCounting 9 = .ok (.imul, 1) := by decide +kernel
theorem dX9_isCounting_10 : decode cX9_isCounting 10 = .ok (.iadd, 1) := by decide +kernel
theorem dX9_isCounting_11 : decode cX9_isCounting 11 = .ok (.iaload, 1) := by decide +kernel
theorem dX9_isCounting_12 : decode cX9_isCounting 12 = .ok (.istore_n 2, 1) := by decide +kernel
theorem dX9_isCounting_13 : decode cX9_isCounting 13 = .ok (.aload_n 0, 1) := by decide +kernel
theorem dX9_isCounting_14 : decode cX9_isCounting 14 = .ok (.getfield 9, 3) := by decide +kernel
theorem dX9_isCounting_17 : decode cX9_isCounting 17 = .ok (.sipush 302, 3) := by decide +kernel
theorem dX9_isCounting_20 : decode cX9_isCounting 20 = .ok (.iconst 3, 1) := by decide +kernel
theorem dX9_isCounting_21 : decode cX9_isCounting 21 = .ok (.iload_n 1, 1) := by decide +kernel
theorem dX9_isCounting_22 : decode cX9_isCounting 22 = .ok (.imul, 1) := by decide +kernel
theorem dX9_isCounting_23 : decode cX9_isCounting 23 = .ok (.iadd, 1) := by decide +kernel
theorem dX9_isCounting_24 : decode cX9_isCounting 24 = .ok (.iconst 2, 1) := by decide +kernel
theorem dX9_isCounting_25 : decode cX9_isCounting 25 = .ok (.iadd, 1) := by decide +kernel
theorem dX9_isCounting_26 : decode cX9_isCounting 26 = .ok (.iaload, 1) := by decide +kernel
theorem dX9_isCounting_27 : decode cX9_isCounting 27 = .ok (.ifCond .le 50, 3) := by decide +kernel
theorem dX9_isCounting_30 : decode cX9_isCounting 30 = .ok (.iload_n 2, 1) := by decide +kernel
theorem dX9_isCounting_31 : decode cX9_isCounting 31 = .ok (.i2l, 1) := by decide +kernel
theorem dX9_isCounting_32 : decode cX9_isCounting 32 = .ok (.aload_n 0, 1) := by decide +kernel
theorem dX9_isCounting_33 : decode cX9_isCounting 33 = .ok (.getfield 22, 3) := by decide +kernel
theorem dX9_isCounting_36 : decode cX9_isCounting 36 = .ok (.i2l, 1) := by decide +kernel
theorem dX9_isCounting_37 : decode cX9_isCounting 37 = .ok (.aload_n 0, 1) := by decide +kernel
theorem dX9_isCounting_38 : decode cX9_isCounting 38 = .ok (.getfield 150, 3) := by decide +kernel
theorem dX9_isCounting_41 : decode cX9_isCounting 41 = .ok (.iconst 1, 1) := by decide +kernel
theorem dX9_isCounting_42 : decode cX9_isCounting 42 = .ok (.isub, 1) := by decide +kernel
theorem dX9_isCounting_43 : decode cX9_isCounting 43 = .ok (.i2l, 1) := by decide +kernel
theorem dX9_isCounting_44 : decode cX9_isCounting 44 = .ok (.invokestatic 57, 3) := by decide +kernel
theorem dX9_isCounting_47 : decode cX9_isCounting 47 = .ok (.ifCond .eq 30, 3) := by decide +kernel
theorem dX9_isCounting_50 : decode cX9_isCounting 50 = .ok (.aload_n 0, 1) := by decide +kernel
theorem dX9_isCounting_51 : decode cX9_isCounting 51 = .ok (.getfield 9, 3) := by decide +kernel
theorem dX9_isCounting_54 : decode cX9_isCounting 54 = .ok (.sipush 302, 3) := by decide +kernel
theorem dX9_isCounting_57 : decode cX9_isCounting 57 = .ok (.iconst 3, 1) := by decide +kernel
theorem dX9_isCounting_58 : decode cX9_isCounting 58 = .ok (.iload_n 1, 1) := by decide +kernel
theorem dX9_isCounting_59 : decode cX9_isCounting 59 = .ok (.imul, 1) := by decide +kernel
theorem dX9_isCounting_60 : decode cX9_isCounting 60 = .ok (.iadd, 1) := by decide +kernel
theorem dX9_isCounting_61 : decode cX9_isCounting 61 = .ok (.iconst 1, 1) := by decide +kernel
theorem dX9_isCounting_62 : decode cX9_isCounting 62 = .ok (.iadd, 1) := by decide +kernel
theorem dX9_isCounting_63 : decode cX9_isCounting 63 = .ok (.iaload, 1) := by decide +kernel
theorem dX9_isCounting_64 : decode cX9_isCounting 64 = .ok (.aload_n 0, 1) := by decide +kernel
theorem dX9_isCounting_65 : decode cX9_isCounting 65 = .ok (.getfield 26, 3) := by decide +kernel
theorem dX9_isCounting_68 : decode cX9_isCounting 68 = .ok (.iload_n 2, 1) := by decide +kernel
theorem dX9_isCounting_69 : decode cX9_isCounting 69 = .ok (.iaload, 1) := by decide +kernel
theorem dX9_isCounting_70 : decode cX9_isCounting 70 = .ok (.if_icmp .le 7, 3) := by decide +kernel
theorem dX9_isCounting_73 : decode cX9_isCounting 73 = .ok (.iconst 1, 1) := by decide +kernel
theorem dX9_isCounting_74 : decode cX9_isCounting 74 = .ok (.goto 4, 3) := by decide +kernel
theorem dX9_isCounting_77 : decode cX9_isCounting 77 = .ok (.iconst 0, 1) := by decide +kernel
theorem dX9_isCounting_78 : decode cX9_isCounting 78 = .ok (.ireturn, 1) := by decide +kernel
set_option maxHeartbeats 4000000 in
theorem t_X9_isCounting_0 {X : sj_X} {s0 : sj_Mem} {N : Nat} {q : Int × sj_Mem} :
    ∀ (a0 : Nat) (x1 : Int) (s : sj_Mem), f_X9_isCounting N a0 x1 s = some q → sj_T X m_X9_isCounting s0 (some (sj_i q.1), q.2) 0 [some (sj_r (some a0)), some (sj_i x1), none] [] s := by
  intro a0 x1 s h
  unfold f_X9_isCounting at h
  refine r_aload_n (pc := 0) dX9_isCounting_0 rfl rfl ?_
  refine r_gR (pc := 1) h dX9_isCounting_1 fw_X9_9 rfl (fun r1 h => ?_)
  refine r_sipush (pc := 4) dX9_isCounting_4 ⟨by decide, by decide⟩ ?_
  refine r_iconst (pc := 7) dX9_isCounting_7 ?_
  refine r_iload_n (pc := 8) dX9_isCounting_8 rfl rfl ?_
  refine r_imul (pc := 9) dX9_isCounting_9 ?_
  refine r_iadd (pc := 10) dX9_isCounting_10 ?_
  obtain ⟨a2, ea2, g⟩ := e_nn_some h
  clear h
  subst ea2
  have h := g
  clear g
  refine r_iaload (pc := 11) h dX9_isCounting_11 (fun v3 h => ?_)
  refine r_istore_n (ln := [some (sj_r (some a0)), some (sj_i x1), some (sj_i v3)]) (pc := 12) dX9_isCounting_12 rfl (Nat.le_of_ble_eq_true rfl) rfl ?_
  refine r_aload_n (pc := 13) dX9_isCounting_13 rfl rfl ?_
  refine r_gR (pc := 14) h dX9_isCounting_14 fw_X9_9 rfl (fun r4 h => ?_)
  refine r_sipush (pc := 17) dX9_isCounting_17 ⟨by decide, by decide⟩ ?_
  refine r_iconst (pc := 20) dX9_isCounting_20 ?_
  refine r_iload_n (pc := 21) dX9_isCounting_21 rfl rfl ?_
  refine r_imul (pc := 22) dX9_isCounting_22 ?_
  refine r_iadd (pc := 23) dX9_isCounting_23 ?_
  refine r_iconst (pc := 24) dX9_isCounting_24 ?_
  refine r_iadd (pc := 25) dX9_isCounting_25 ?_
  obtain ⟨a5, ea5, g⟩ := e_nn_some h
  clear h
  subst ea5
  have h := g
  clear g
  refine r_iaload (pc := 26) h dX9_isCounting_26 (fun v6 h => ?_)
  refine r_if_le (pc := 27) (tgt := 77) h dX9_isCounting_27 (by decide) (fun h => ?_) (fun h => ?_)
  · refine r_iconst (pc := 77) dX9_isCounting_77 ?_
    exact r_zret (pc := 78) h rfl dX9_isCounting_78
  · refine r_iload_n (pc := 30) dX9_isCounting_30 rfl rfl ?_
    refine r_i2l (pc := 31) h dX9_isCounting_31 (fun v7 h => ?_)
    refine r_aload_n (pc := 32) dX9_isCounting_32 rfl rfl ?_
    refine r_gI (pc := 33) h dX9_isCounting_33 fw_X9_22 rfl (fun v8 h => ?_)
    refine r_i2l (pc := 36) h dX9_isCounting_36 (fun v9 h => ?_)
    refine r_aload_n (pc := 37) dX9_isCounting_37 rfl rfl ?_
    refine r_gI (pc := 38) h dX9_isCounting_38 fw_X9_150 rfl (fun v10 h => ?_)
    refine r_iconst (pc := 41) dX9_isCounting_41 ?_
    refine r_isub (pc := 42) dX9_isCounting_42 ?_
    refine r_i2l (pc := 43) h dX9_isCounting_43 (fun v11 h => ?_)
    refine r_callS (pc := 44) (fun v => some (sj_i v)) (As := [sj_j v7, sj_j v9, sj_j v11]) (rest := []) h dX9_isCounting_44 mw_X9_57 kw_1225 (fun _ _ hc => c_X9_isIn hc) rfl ⟨(Nat.le_of_ble_eq_true rfl), (Nat.le_of_ble_eq_true rfl)⟩ (Nat.le_of_ble_eq_true rfl) rfl (fun v13 s12 h => ?_)
    refine r_if_eq (pc := 47) (tgt := 77) h dX9_isCounting_47 (by decide) (fun h => ?_) (fun h => ?_)
    · refine r_iconst (pc := 77) dX9_isCounting_77 ?_
      exact r_zret (pc := 78) h rfl dX9_isCounting_78
    · refine r_aload_n (pc := 50) dX9_isCounting_50 rfl rfl ?_
      refine r_gR (pc := 51) h dX9_isCounting_51 fw_X9_9 rfl (fun r14 h => ?_)
      refine r_sipush (pc := 54) dX9_isCounting_54 ⟨by decide, by decide⟩ ?_
      refine r_iconst (pc := 57) dX9_isCounting_57 ?_
      refine r_iload_n (pc := 58) dX9_isCounting_58 rfl rfl ?_
      refine r_imul (pc := 59) dX9_isCounting_59 ?_
      refine r_iadd (pc := 60) dX9_isCounting_60 ?_
      refine r_iconst (pc := 61) dX9_isCounting_61 ?_
      refine r_iadd (pc := 62) dX9_isCounting_62 ?_
      obtain ⟨a15, ea15, g⟩ := e_nn_some h
      clear h
      subst ea15
      have h := g
      clear g
      refine r_iaload (pc := 63) h dX9_isCounting_63 (fun v16 h => ?_)
      refine r_aload_n (pc := 64) dX9_isCounting_64 rfl rfl ?_
      refine r_gR (pc := 65) h dX9_isCounting_65 fw_X9_26 rfl (fun r17 h => ?_)
      refine r_iload_n (pc := 68) dX9_isCounting_68 rfl rfl ?_
      obtain ⟨a18, ea18, g⟩ := e_nn_some h
      clear h
      subst ea18
      have h := g
      clear g
      refine r_iaload (pc := 69) h dX9_isCounting_69 (fun v19 h => ?_)
      refine r_icmp_le (pc := 70) (tgt := 77) h dX9_isCounting_70 (by decide) (fun h => ?_) (fun h => ?_)
      · refine r_iconst (pc := 77) dX9_isCounting_77 ?_
        exact r_zret (pc := 78) h rfl dX9_isCounting_78
      · refine r_iconst (pc := 73) dX9_isCounting_73 ?_
        refine r_goto (pc := 74) (tgt := 78) dX9_isCounting_74 (by decide) ?_
        exact r_zret (pc := 78) h rfl dX9_isCounting_78
set_option maxHeartbeats 4000000 in
theorem c_X9_isCounting {X : sj_X} {N : Nat} {a0 : Nat} {x1 : Int} {s : sj_Mem} {q : Int × sj_Mem} (h : f_X9_isCounting N a0 x1 s = some q) : sj_C X m_X9_isCounting [sj_r (some a0), sj_i x1] s (some (sj_i q.1), q.2) :=
  sj_C_of (by decide +kernel) (Nat.le_of_ble_eq_true rfl) (lo := [some (sj_r (some a0)), some (sj_i x1), none]) rfl (sj_weak (l2 := [some (sj_r (some a0)), some (sj_i x1), none]) (⟨rfl, ⟨rfl, trivial⟩⟩) (t_X9_isCounting_0 a0 x1 s h))
theorem dX9_pulls_0 : decode cX9_pulls 0 = .ok (.lconst 0, 1) := by decide +kernel
theorem dX9_pulls_1 : decode cX9_pulls 1 = .ok (.lstore_n 1, 1) := by decide +kernel
theorem dX9_pulls_2 : decode cX9_pulls 2 = .ok (.iconst 0, 1) := by decide +kernel
theorem dX9_pulls_3 : decode cX9_pulls 3 = .ok (.istore_n 3, 1) := by decide +kernel
theorem dX9_pulls_4 : decode cX9_pulls 4 = .ok (.iload_n 3, 1) := by decide +kernel
theorem dX9_pulls_5 : decode cX9_pulls 5 = .ok (.bipush 6, 2) := by decide +kernel
theorem dX9_pulls_7 : decode cX9_pulls 7 = .ok (.if_icmp .ge 51, 3) := by decide +kernel
theorem dX9_pulls_10 : decode cX9_pulls 10 = .ok (.lload_n 1, 1) := by decide +kernel
theorem dX9_pulls_11 : decode cX9_pulls 11 = .ok (.aload_n 0, 1) := by decide +kernel
theorem dX9_pulls_12 : decode cX9_pulls 12 = .ok (.iload_n 3, 1) := by decide +kernel
theorem dX9_pulls_13 : decode cX9_pulls 13 = .ok (.invokevirtual 161, 3) := by decide +kernel
theorem dX9_pulls_16 : decode cX9_pulls 16 = .ok (.ifCond .eq 33, 3) := by decide +kernel
theorem dX9_pulls_19 : decode cX9_pulls 19 = .ok (.ldc2_w 138, 3) := by decide +kernel
theorem dX9_pulls_22 : decode cX9_pulls 22 = .ok (.aload_n 0, 1) := by decide +kernel
theorem dX9_pulls_23 : decode cX9_pulls 23 = .ok (.getfield 9, 3) := by decide +kernel
theorem dX9_pulls_26 : decode cX9_pulls 26 = .ok (.iconst 1, 1) := by decide +kernel
theorem dX9_pulls_27 : decode cX9_pulls 27 = .ok (.iaload, 1) := by decide +kernel
theorem dX9_pulls_28 : decode cX9_pulls 28 = .ok (.i2l, 1) := by decide +kernel
theorem dX9_pulls_29 : decode cX9_pulls 29 = .ok (.lmul, 1) := by decide +kernel
theorem dX9_pulls_30 : decode cX9_pulls 30 = .ok (.aload_n 0, 1) := by decide +kernel
theorem dX9_pulls_31 : decode cX9_pulls 31 = .ok (.getfield 9, 3) := by decide +kernel
theorem dX9_pulls_34 : decode cX9_pulls 34 = .ok (.sipush 302, 3) := by decide +kernel
theorem dX9_pulls_37 : decode cX9_pulls 37 = .ok (.iconst 3, 1) := by decide +kernel
theorem dX9_pulls_38 : decode cX9_pulls 38 = .ok (.iload_n 3, 1) := by decide +kernel
theorem dX9_pulls_39 : decode cX9_pulls 39 = .ok (.imul, 1) := by decide +kernel
theorem dX9_pulls_40 : decode cX9_pulls 40 = .ok (.iadd, 1) := by decide +kernel
theorem dX9_pulls_41 : decode cX9_pulls 41 = .ok (.iconst 2, 1) := by decide +kernel
theorem dX9_pulls_42 : decode cX9_pulls 42 = .ok (.iadd, 1) := by decide +kernel
theorem dX9_pulls_43 : decode cX9_pulls 43 = .ok (.iaload, 1) := by decide +kernel
theorem dX9_pulls_44 : decode cX9_pulls 44 = .ok (.i2l, 1) := by decide +kernel
theorem dX9_pulls_45 : decode cX9_pulls 45 = .ok (.lmul, 1) := by decide +kernel
theorem dX9_pulls_46 : decode cX9_pulls 46 = .ok (.goto 4, 3) := by decide +kernel
theorem dX9_pulls_49 : decode cX9_pulls 49 = .ok (.lconst 0, 1) := by decide +kernel
theorem dX9_pulls_50 : decode cX9_pulls 50 = .ok (.ladd, 1) := by decide +kernel
theorem dX9_pulls_51 : decode cX9_pulls 51 = .ok (.lstore_n 1, 1) := by decide +kernel
theorem dX9_pulls_52 : decode cX9_pulls 52 = .ok (.iinc 3 1, 3) := by decide +kernel
theorem dX9_pulls_55 : decode cX9_pulls 55 = .ok (.goto (-51), 3) := by decide +kernel
theorem dX9_pulls_58 : decode cX9_pulls 58 = .ok (.lload_n 1, 1) := by decide +kernel
theorem dX9_pulls_59 : decode cX9_pulls 59 = .ok (.lreturn, 1) := by decide +kernel
set_option maxHeartbeats 4000000 in
theorem t_X9_pulls_50 {X : sj_X} {s0 : sj_Mem} {N : Nat} {q : Int × sj_Mem} {k4 : Nat → Int → Int → sj_Mem → Option (Int × sj_Mem)} (hk4 : ∀ (a0 : Nat) (x1 : Int) (x3 : Int) (s : sj_Mem), k4 a0 x1 x3 s = some q → sj_T X m_X9_pulls s0 (some (sj_j q.1), q.2) 4 [some (sj_r (some a0)), some (sj_j x1), none, some (sj_i x3)] [] s) :
    ∀ (a0 : Nat) (x3 : Int) (y0 : Int) (y1 : Int) (s : sj_Mem), f_X9_pulls_50 N k4 a0 x3 y0 y1 s = some q → sj_T X m_X9_pulls s0 (some (sj_j q.1), q.2) 50 [some (sj_r (some a0)), none, none, some (sj_i x3)] [(sj_j y0), (sj_j y1)] s := by
  intro a0 x3 y0 y1 s h
  unfold f_X9_pulls_50 at h
  refine r_ladd (pc := 50) dX9_pulls_50 ?_
  refine r_lstore_nL (ln := fun w => [some (sj_r (some a0)), some (sj_j w), none, some (sj_i x3)]) (pc := 51) h dX9_pulls_51 rfl (Nat.le_of_ble_eq_true rfl) (fun _ => rfl) (fun v1 h => ?_)
  refine r_iinc (ln := fun w => [some (sj_r (some a0)), some (sj_j v1), none, some (sj_i w)]) (pc := 52) h dX9_pulls_52 rfl (Nat.le_of_ble_eq_true rfl) (fun _ => rfl) (fun v2 h => ?_)
  refine r_goto (pc := 55) (tgt := 4) dX9_pulls_55 (by decide) ?_
  exact sj_weak (l2 := [some (sj_r (some a0)), some (sj_j v1), none, some (sj_i v2)]) (⟨rfl, ⟨rfl, ⟨rfl, trivial⟩⟩⟩) (hk4 a0 v1 v2 s h)
set_option maxHeartbeats 4000000 in
theorem t_X9_pulls_4_b {X : sj_X} {s0 : sj_Mem} {N : Nat} {q : Int × sj_Mem} {k4 : Nat → Int → Int → sj_Mem → Option (Int × sj_Mem)} (hk4 : ∀ (a0 : Nat) (x1 : Int) (x3 : Int) (s : sj_Mem), k4 a0 x1 x3 s = some q → sj_T X m_X9_pulls s0 (some (sj_j q.1), q.2) 4 [some (sj_r (some a0)), some (sj_j x1), none, some (sj_i x3)] [] s) :
    ∀ (a0 : Nat) (x1 : Int) (x3 : Int) (s : sj_Mem), f_X9_pulls_4_b N k4 a0 x1 x3 s = some q → sj_T X m_X9_pulls s0 (some (sj_j q.1), q.2) 4 [some (sj_r (some a0)), some (sj_j x1), none, some (sj_i x3)] [] s := by
  intro a0 x1 x3 s h
  unfold f_X9_pulls_4_b at h
  refine r_iload_n (pc := 4) dX9_pulls_4 rfl rfl ?_
  refine r_bipush (pc := 5) dX9_pulls_5 ⟨by decide, by decide⟩ ?_
  refine r_icmp_ge (pc := 7) (tgt := 58) h dX9_pulls_7 (by decide) (fun h => ?_) (fun h => ?_)
  · refine r_lload_n (pc := 58) dX9_pulls_58 rfl rfl ?_
    exact r_lret (pc := 59) h rfl dX9_pulls_59
  · refine r_lload_n (pc := 10) dX9_pulls_10 rfl rfl ?_
    refine r_aload_n (pc := 11) dX9_pulls_11 rfl rfl ?_
    refine r_iload_n (pc := 12) dX9_pulls_12 rfl rfl ?_
    refine r_callV (pc := 13) (fun v => some (sj_i v)) (As := [sj_i x3]) (rest := [(sj_j x1)]) h dX9_pulls_13 mw_X9_161 vw_X9_isCounting (fun _ _ hc => c_X9_isCounting hc) rfl ⟨(Nat.le_of_ble_eq_true rfl), (Nat.le_of_ble_eq_true rfl)⟩ (Nat.le_of_ble_eq_true rfl) rfl (fun v2 s1 h => ?_)
    refine r_if_eq (pc := 16) (tgt := 49) h dX9_pulls_16 (by decide) (fun h => ?_) (fun h => ?_)
    · refine r_lconst0 (pc := 49) dX9_pulls_49 ?_
      exact sj_weak (l2 := [some (sj_r (some a0)), none, none, some (sj_i x3)]) (⟨rfl, ⟨rfl, trivial⟩⟩) (t_X9_pulls_50 hk4 a0 x3 0 x1 s1 h)
    · refine r_ldc2 (n := 2000) (pc := 19) dX9_pulls_19 kc_X9_138 ?_
      refine r_aload_n (pc := 22) dX9_pulls_22 rfl rfl ?_
      refine r_gR (pc := 23) h dX9_pulls_23 fw_X9_9 rfl (fun r3 h => ?_)
      refine r_iconst (pc := 26) dX9_pulls_26 ?_
      obtain ⟨a4, ea4, g⟩ := e_nn_some h
      clear h
      subst ea4
      have h := g
      clear g
      refine r_iaload (pc := 27) h dX9_pulls_27 (fun v5 h => ?_)
      refine r_i2l (pc := 28) h dX9_pulls_28 (fun v6 h => ?_)
      refine r_lmul (pc := 29) dX9_pulls_29 ?_
      refine r_aload_n (pc := 30) dX9_pulls_30 rfl rfl ?_
      refine r_gR (pc := 31) h dX9_pulls_31 fw_X9_9 rfl (fun r7 h => ?_)
      refine r_sipush (pc := 34) dX9_pulls_34 ⟨by decide, by decide⟩ ?_
      refine r_iconst (pc := 37) dX9_pulls_37 ?_
      refine r_iload_n (pc := 38) dX9_pulls_38 rfl rfl ?_
      refine r_imul (pc := 39) dX9_pulls_39 ?_
      refine r_iadd (pc := 40) dX9_pulls_40 ?_
      refine r_iconst (pc := 41) dX9_pulls_41 ?_
      refine r_iadd (pc := 42) dX9_pulls_42 ?_
      obtain ⟨a8, ea8, g⟩ := e_nn_some h
      clear h
      subst ea8
      have h := g
      clear g
      refine r_iaload (pc := 43) h dX9_pulls_43 (fun v9 h => ?_)
      refine r_i2l (pc := 44) h dX9_pulls_44 (fun v10 h => ?_)
      refine r_lmul (pc := 45) dX9_pulls_45 ?_
      refine r_goto (pc := 46) (tgt := 50) dX9_pulls_46 (by decide) ?_
      exact sj_weak (l2 := [some (sj_r (some a0)), none, none, some (sj_i x3)]) (⟨rfl, ⟨rfl, trivial⟩⟩) (t_X9_pulls_50 hk4 a0 x3 ((2000 * v6) * v10) x1 s1 h)
set_option maxHeartbeats 4000000 in
theorem t_X9_pulls_4 {X : sj_X} {s0 : sj_Mem} {N : Nat} {q : Int × sj_Mem} :
    ∀ (n : Nat) (a0 : Nat) (x1 : Int) (x3 : Int) (s : sj_Mem), f_X9_pulls_4 N n a0 x1 x3 s = some q → sj_T X m_X9_pulls s0 (some (sj_j q.1), q.2) 4 [some (sj_r (some a0)), some (sj_j x1), none, some (sj_i x3)] [] s := by
  intro n
  induction n with
  | zero => intro a0 x1 x3 s h; exact nomatch h
  | succ n ih => intro a0 x1 x3 s h; exact t_X9_pulls_4_b (N := N) ih a0 x1 x3 s h
set_option maxHeartbeats 4000000 in
theorem t_X9_pulls_0 {X : sj_X} {s0 : sj_Mem} {N : Nat} {q : Int × sj_Mem} :
    ∀ (a0 : Nat) (s : sj_Mem), f_X9_pulls N a0 s = some q → sj_T X m_X9_pulls s0 (some (sj_j q.1), q.2) 0 [some (sj_r (some a0)), none, none, none] [] s := by
  intro a0 s h
  unfold f_X9_pulls at h
  refine r_lconst0 (pc := 0) dX9_pulls_0 ?_
  refine r_lstore_n (ln := [some (sj_r (some a0)), some (sj_j 0), none, none]) (pc := 1) dX9_pulls_1 rfl (Nat.le_of_ble_eq_true rfl) rfl ?_
  refine r_iconst (pc := 2) dX9_pulls_2 ?_
  refine r_istore_n (ln := [some (sj_r (some a0)), some (sj_j 0), none, some (sj_i 0)]) (pc := 3) dX9_pulls_3 rfl (Nat.le_of_ble_eq_true rfl) rfl ?_
  exact sj_weak (l2 := [some (sj_r (some a0)), some (sj_j 0), none, some (sj_i 0)]) (⟨rfl, ⟨rfl, ⟨rfl, trivial⟩⟩⟩) (t_X9_pulls_4 N a0 0 0 s h)
set_option maxHeartbeats 4000000 in
theorem c_X9_pulls {X : sj_X} {N : Nat} {a0 : Nat} {s : sj_Mem} {q : Int × sj_Mem} (h : f_X9_pulls N a0 s = some q) : sj_C X m_X9_pulls [sj_r (some a0)] s (some (sj_j q.1), q.2) :=
  sj_C_of (by decide +kernel) (Nat.le_of_ble_eq_true rfl) (lo := [some (sj_r (some a0)), none, none, none]) rfl (sj_weak (l2 := [some (sj_r (some a0)), none, none, none]) (⟨rfl, trivial⟩) (t_X9_pulls_0 a0 s h))
theorem dX9_upwards_0 : decode cX9_upwards 0 = .ok (.lload_n 0, 1) := by decide +kernel
theorem dX9_upwards_1 : decode cX9_upwards 1 = .ok (.lconst 0, 1) := by decide +kernel
theorem dX9_upwards_2 : decode cX9_upwards 2 = .ok (.lcmp, 1) := by decide +kernel
theorem dX9_upwards_3 : decode cX9_upwards 3 = .ok (.ifCond .lt 13, 3) := by decide +kernel
theorem dX9_upwards_6 : decode cX9_upwards 6 = .ok (.lload_n 0, 1) := by decide +kernel
theorem dX9_upwards_7 : decode cX9_upwards 7 = .ok (.lload_n 2, 1) := by decide +kernel
theorem dX9_upwards_8 : decode cX9_upwards 8 = .ok (.ladd, 1) := by decide +kernel
theorem dX9_upwards_9 : decode cX9_upwards 9 = .ok (.lconst 1, 1) := by decide +kernel
theorem dX9_upwards_10 : decode cX9_upwards 10 = .ok (.lsub, 1) := by decide +kernel
theorem dX9_upwards_11 : decode cX9_upwards 11 = .ok (.lload_n 2, 1) := by decide +kernel
theorem dX9_upwards_12 : decode cX9_upwards 12 = .ok (.ldiv, 1) := by decide +kernel
theorem dX9_upwards_13 : decode cX9_upwards 13 = .ok (.goto 8, 3) := by decide +kernel
theorem dX9_upwards_16 : decode cX9_upwards 16 = .ok (.lload_n 0, 1) := by decide +kernel
theorem dX9_upwards_17 : decode cX9_upwards 17 = .ok (.lneg, 1) := by decide +kernel
theorem dX9_upwards_18 : decode cX9_upwards 18 = .ok (.lload_n 2, 1) := by decide +kernel
theorem dX9_upwards_19 : decode cX9_upwards 19 = .ok (.ldiv, 1) := by decide +kernel
theorem dX9_upwards_20 : decode cX9_upwards 20 = .ok (.lneg, 1) := by decide +kernel
theorem dX9_upwards_21 : decode cX9_upwards 21 = .ok (.lreturn, 1) := by decide +kernel
set_option maxHeartbeats 4000000 in
theorem t_X9_upwards_0 {X : sj_X} {s0 : sj_Mem} {N : Nat} {q : Int × sj_Mem} :
    ∀ (x0 : Int) (x2 : Int) (s : sj_Mem), f_X9_upwards N x0 x2 s = some q → sj_T X m_X9_upwards s0 (some (sj_j q.1), q.2) 0 [some (sj_j x0), none, some (sj_j x2), none] [] s := by
  intro x0 x2 s h
  unfold f_X9_upwards at h
  refine r_lload_n (pc := 0) dX9_upwards_0 rfl rfl ?_
  refine r_lconst0 (pc := 1) dX9_upwards_1 ?_
  refine r_llt (pc := 2) (tgt := 16) h dX9_upwards_2 rfl dX9_upwards_3 (by decide) (fun h => ?_) (fun h => ?_)
  · refine r_lload_n (pc := 16) dX9_upwards_16 rfl rfl ?_
    refine r_lneg (pc := 17) dX9_upwards_17 ?_
    refine r_lload_n (pc := 18) dX9_upwards_18 rfl rfl ?_
    refine r_ldiv (pc := 19) h dX9_upwards_19 (fun v1 h => ?_)
    refine r_lneg (pc := 20) dX9_upwards_20 ?_
    exact r_lret (pc := 21) h rfl dX9_upwards_21
  · refine r_lload_n (pc := 6) dX9_upwards_6 rfl rfl ?_
    refine r_lload_n (pc := 7) dX9_upwards_7 rfl rfl ?_
    refine r_ladd (pc := 8) dX9_upwards_8 ?_
    refine r_lconst1 (pc := 9) dX9_upwards_9 ?_
    refine r_lsub (pc := 10) dX9_upwards_10 ?_
    refine r_lload_n (pc := 11) dX9_upwards_11 rfl rfl ?_
    refine r_ldiv (pc := 12) h dX9_upwards_12 (fun v2 h => ?_)
    refine r_goto (pc := 13) (tgt := 21) dX9_upwards_13 (by decide) ?_
    exact r_lret (pc := 21) h rfl dX9_upwards_21
set_option maxHeartbeats 4000000 in
theorem c_X9_upwards {X : sj_X} {N : Nat} {x0 : Int} {x2 : Int} {s : sj_Mem} {q : Int × sj_Mem} (h : f_X9_upwards N x0 x2 s = some q) : sj_C X m_X9_upwards [sj_j x0, sj_j x2] s (some (sj_j q.1), q.2) :=
  sj_C_of (by decide +kernel) (Nat.le_of_ble_eq_true rfl) (lo := [some (sj_j x0), none, some (sj_j x2), none]) rfl (sj_weak (l2 := [some (sj_j x0), none, some (sj_j x2), none]) (⟨rfl, ⟨rfl, trivial⟩⟩) (t_X9_upwards_0 x0 x2 s h))
theorem dX9_least_0 : decode cX9_least 0 = .ok (.iload_n 0, 1) := by decide +kernel
theorem dX9_least_1 : decode cX9_least 1 = .ok (.iload_n 1, 1) := by decide +kernel
theorem dX9_least_2 : decode cX9_least 2 = .ok (.if_icmp .ge 7, 3) := by decide +kernel
theorem dX9_least_5 : decode cX9_least 5 = .ok (.iload_n 0, 1) := by decide +kernel
theorem dX9_least_6 : decode cX9_least 6 = .ok (.goto 4, 3) := by decide +kernel
theorem dX9_least_9 : decode cX9_least 9 = .ok (.iload_n 1, 1) := by decide +kernel
theorem dX9_least_10 : decode cX9_least 10 = .ok (.ireturn, 1) := by decide +kernel
set_option maxHeartbeats 4000000 in
theorem t_X9_least_0 {X : sj_X} {s0 : sj_Mem} {N : Nat} {q : Int × sj_Mem} :
    ∀ (x0 : Int) (x1 : Int) (s : sj_Mem), f_X9_least N x0 x1 s = some q → sj_T X m_X9_least s0 (some (sj_i q.1), q.2) 0 [some (sj_i x0), some (sj_i x1)] [] s := by
  intro x0 x1 s h
  unfold f_X9_least at h
  refine r_iload_n (pc := 0) dX9_least_0 rfl rfl ?_
  refine r_iload_n (pc := 1) dX9_least_1 rfl rfl ?_
  refine r_icmp_ge (pc := 2) (tgt := 9) h dX9_least_2 (by decide) (fun h => ?_) (fun h => ?_)
  · refine r_iload_n (pc := 9) dX9_least_9 rfl rfl ?_
    exact r_iret (pc := 10) h rfl dX9_least_10
  · refine r_iload_n (pc := 5) dX9_least_5 rfl rfl ?_
    refine r_goto (pc := 6) (tgt := 10) dX9_least_6 (by decide) ?_
    exact r_iret (pc := 10) h rfl dX9_least_10
set_option maxHeartbeats 4000000 in
theorem c_X9_least {X : sj_X} {N : Nat} {x0 : Int} {x1 : Int} {s : sj_Mem} {q : Int × sj_Mem} (h : f_X9_least N x0 x1 s = some q) : sj_C X m_X9_least [sj_i x0, sj_i x1] s (some (sj_i q.1), q.2) :=
  sj_C_of (by decide +kernel) (Nat.le_of_ble_eq_true rfl) (lo := [some (sj_i x0), some (sj_i x1)]) rfl (sj_weak (l2 := [some (sj_i x0), some (sj_i x1)]) (⟨rfl, ⟨rfl, trivial⟩⟩) (t_X9_least_0 x0 x1 s h))
theorem dX9_water_0 : decode cX9_water 0 = .ok (.aload_n 0, 1) := by decide +kernel
theorem dX9_water_1 : decode cX9_water 1 = .ok (.getfield 9, 3) := by decide +kernel
theorem dX9_water_4 : decode cX9_water 4 = .ok (.bipush 85, 2) := by decide +kernel
theorem dX9_water_6 : decode cX9_water 6 = .ok (.iload_n 1, 1) := by decide +kernel
theorem dX9_water_7 : decode cX9_water 7 = .ok (.iadd, 1) := by decide +kernel
theorem dX9_water_8 : decode cX9_water 8 = .ok (.iaload, 1) := by decide +kernel
theorem dX9_water_9 : decode cX9_water 9 = .ok (.aload_n 0, 1) := by decide +kernel
theorem dX9_water_10 : decode cX9_water 10 = .ok (.getfield 9, 3) := by decide +kernel
theorem dX9_water_13 : decode cX9_water 13 = .ok (.iconst 3, 1) := by decide +kernel
theorem dX9_water_14 : decode cX9_water 14 = .ok (.iload_n 1, 1) := by decide +kernel
theorem dX9_water_15 : decode cX9_water 15 = .ok (.iadd, 1) := by decide +kernel
theorem dX9_water_16 : decode cX9_water 16 = .ok (.iaload, 1) := by decide +kernel
theorem dX9_water_17 : decode cX9_water 17 = .ok (.invokestatic 104, 3) := by decide +kernel
theorem dX9_water_20 : decode cX9_water 20 = .ok (.ireturn, 1) := by decide +kernel
set_option maxHeartbeats 4000000 in
theorem t_X9_water_0 {X : sj_X} {s0 : sj_Mem} {N : Nat} {q : Int × sj_Mem} :
    ∀ (a0 : Nat) (x1 : Int) (s : sj_Mem), f_X9_water N a0 x1 s = some q → sj_T X m_X9_water s0 (some (sj_i q.1), q.2) 0 [some (sj_r (some a0)), some (sj_i x1)] [] s := by
  intro a0 x1 s h
  unfold f_X9_water at h
  refine r_aload_n (pc := 0) dX9_water_0 rfl rfl ?_
  refine r_gR (pc := 1) h dX9_water_1 fw_X9_9 rfl (fun r1 h => ?_)
  refine r_bipush (pc := 4) dX9_water_4 ⟨by decide, by decide⟩ ?_
  refine r_iload_n (pc := 6) dX9_water_6 rfl rfl ?_
  refine r_iadd (pc := 7) dX9_water_7 ?_
  obtain ⟨a2, ea2, g⟩ := e_nn_some h
  clear h
  subst ea2
  have h := g
  clear g
  refine r_iaload (pc := 8) h dX9_water_8 (fun v3 h => ?_)
  refine r_aload_n (pc := 9) dX9_water_9 rfl rfl ?_
  refine r_gR (pc := 10) h dX9_water_10 fw_X9_9 rfl (fun r4 h => ?_)
  refine r_iconst (pc := 13) dX9_water_13 ?_
  refine r_iload_n (pc := 14) dX9_water_14 rfl rfl ?_
  refine r_iadd (pc := 15) dX9_water_15 ?_
  obtain ⟨a5, ea5, g⟩ := e_nn_some h
  clear h
  subst ea5
  have h := g
  clear g
  refine r_iaload (pc := 16) h dX9_water_16 (fun v6 h => ?_)
  refine r_callS (pc := 17) (fun v => some (sj_i v)) (As := [sj_i v3, sj_i v6]) (rest := []) h dX9_water_17 mw_X9_104 kw_1352 (fun _ _ hc => c_X9_least hc) rfl ⟨(Nat.le_of_ble_eq_true rfl), (Nat.le_of_ble_eq_true rfl)⟩ (Nat.le_of_ble_eq_true rfl) rfl (fun v8 s7 h => ?_)
  exact r_iret (pc := 20) h rfl dX9_water_20
set_option maxHeartbeats 4000000 in
theorem c_X9_water {X : sj_X} {N : Nat} {a0 : Nat} {x1 : Int} {s : sj_Mem} {q : Int × sj_Mem} (h : f_X9_water N a0 x1 s = some q) : sj_C X m_X9_water [sj_r (some a0), sj_i x1] s (some (sj_i q.1), q.2) :=
  sj_C_of (by decide +kernel) (Nat.le_of_ble_eq_true rfl) (lo := [some (sj_r (some a0)), some (sj_i x1)]) rfl (sj_weak (l2 := [some (sj_r (some a0)), some (sj_i x1)]) (⟨rfl, ⟨rfl, trivial⟩⟩) (t_X9_water_0 a0 x1 s h))
theorem dX9_top_0 : decode cX9_top 0 = .ok (.aload_n 0, 1) := by decide +kernel
theorem dX9_top_1 : decode cX9_top 1 = .ok (.getfield 9, 3) := by decide +kernel
theorem dX9_top_4 : decode cX9_top 4 = .ok (.iconst 3, 1) := by decide +kernel
theorem dX9_top_5 : decode cX9_top 5 = .ok (.iload_n 2, 1) := by decide +kernel
theorem dX9_top_6 : decode cX9_top 6 = .ok (.iadd, 1) := by decide +kernel
theorem dX9_top_7 : decode cX9_top 7 = .ok (.iaload, 1) := by decide +kernel
theorem dX9_top_8 : decode cX9_top 8 = .ok (.istore_n 3, 1) := by decide +kernel
theorem dX9_top_9 : decode cX9_top 9 = .ok (.iconst 1, 1) := by decide +kernel
theorem dX9_top_10 : decode cX9_top 10 = .ok (.istore 4, 2) := by decide +kernel
theorem dX9_top_12 : decode cX9_top 12 = .ok (.iload 4, 2) := by decide +kernel
theorem dX9_top_14 : decode cX9_top 14 = .ok (.iload_n 1, 1) := by decide +kernel
theorem dX9_top_15 : decode cX9_top 15 = .ok (.if_icmp .gt 32, 3) := by decide +kernel
theorem dX9_top_18 : decode cX9_top 18 = .ok (.iload_n 3, 1) := by decide +kernel
theorem dX9_top_19 : decode cX9_top 19 = .ok (.aload_n 0, 1) := by decide +kernel
theorem dX9_top_20 : decode cX9_top 20 = .ok (.getfield 9, 3) := by decide +kernel
theorem dX9_top_23 : decode cX9_top 23 = .ok (.sipush 167, 3) := by decide +kernel
theorem dX9_top_26 : decode cX9_top 26 = .ok (.bipush 41, 2) := by decide +kernel
theorem dX9_top_28 : decode cX9_top 28 = .ok (.iload 4, 2) := by decide +kernel
theorem dX9_top_30 : decode cX9_top 30 = .ok (.iconst 1, 1) := by decide +kernel
theorem dX9_top_31 : decode cX9_top 31 = .ok (.isub, 1) := by decide +kernel
theorem dX9_top_32 : decode cX9_top 32 = .ok (.imul, 1) := by decide +kernel
theorem dX9_top_33 : decode cX9_top 33 = .ok (.iadd, 1) := by decide +kernel
theorem dX9_top_34 : decode cX9_top 34 = .ok (.iload_n 2, 1) := by decide +kernel
theorem dX9_top_35 : decode cX9_top 35 = .ok (.iadd, 1) := by decide +kernel
theorem dX9_top_36 : decode cX9_top 36 = .ok (.iaload, 1) := by decide +kernel
theorem dX9_top_37 : decode cX9_top 37 = .ok (.invokestatic 104, 3) := by decide +kernel
theorem dX9_top_40 : decode cX9_top 40 = .ok (.istore_n 3, 1) := by decide +kernel
theorem dX9_top_41 : decode cX9_top 41 = .ok (.iinc 4 1, 3) := by decide +kernel
theorem dX9_top_44 : decode cX9_top 44 = .ok (.goto (-32), 3) := by decide +kernel
theorem dX9_top_47 : decode cX9_top 47 = .ok (.iload_n 3, 1) := by decide +kernel
theorem dX9_top_48 : decode cX9_top 48 = .ok (.ireturn, 1) := by decide +kernel
set_option maxHeartbeats 4000000 in
theorem t_X9_top_12_b {X : sj_X} {s0 : sj_Mem} {N : Nat} {q : Int × sj_Mem} {k12 : Nat → Int → Int → Int → Int → sj_Mem → Option (Int × sj_Mem)} (hk12 : ∀ (a0 : Nat) (x1 : Int) (x2 : Int) (x3 : Int) (x4 : Int) (s : sj_Mem), k12 a0 x1 x2 x3 x4 s = some q → sj_T X m_X9_top s0 (some (sj_i q.1), q.2) 12 [some (sj_r (some a0)), some (sj_i x1), some (sj_i x2), some (sj_i x3), some (sj_i x4)] [] s) :
    ∀ (a0 : Nat) (x1 : Int) (x2 : Int) (x3 : Int) (x4 : Int) (s : sj_Mem), f_X9_top_12_b N k12 a0 x1 x2 x3 x4 s = some q → sj_T X m_X9_top s0 (some (sj_i q.1), q.2) 12 [some (sj_r (some a0)), some (sj_i x1), some (sj_i x2), some (sj_i x3), some (sj_i x4)] [] s := by
  intro a0 x1 x2 x3 x4 s h
  unfold f_X9_top_12_b at h
  refine r_iload (pc := 12) dX9_top_12 rfl ?_
  refine r_iload_n (pc := 14) dX9_top_14 rfl rfl ?_
  refine r_icmp_gt (pc := 15) (tgt := 47) h dX9_top_15 (by decide) (fun h => ?_) (fun h => ?_)
  · refine r_iload_n (pc := 47) dX9_top_47 rfl rfl ?_
    exact r_iret (pc := 48) h rfl dX9_top_48
  · refine r_iload_n (pc := 18) dX9_top_18 rfl rfl ?_
    refine r_aload_n (pc := 19) dX9_top_19 rfl rfl ?_
    refine r_gR (pc := 20) h dX9_top_20 fw_X9_9 rfl (fun r1 h => ?_)
    refine r_sipush (pc := 23) dX9_top_23 ⟨by decide, by decide⟩ ?_
    refine r_bipush (pc := 26) dX9_top_26 ⟨by decide, by decide⟩ ?_
    refine r_iload (pc := 28) dX9_top_28 rfl ?_
    refine r_iconst (pc := 30) dX9_top_30 ?_
    refine r_isub (pc := 31) dX9_top_31 ?_
    refine r_imul (pc := 32) dX9_top_32 ?_
    refine r_iadd (pc := 33) dX9_top_33 ?_
    refine r_iload_n (pc := 34) dX9_top_34 rfl rfl ?_
    refine r_iadd (pc := 35) dX9_top_35 ?_
    obtain ⟨a2, ea2, g⟩ := e_nn_some h
    clear h
    subst ea2
    have h := g
    clear g
    refine r_iaload (pc := 36) h dX9_top_36 (fun v3 h => ?_)
    refine r_callS (pc := 37) (fun v => some (sj_i v)) (As := [sj_i x3, sj_i v3]) (rest := []) h dX9_top_37 mw_X9_104 kw_1352 (fun _ _ hc => c_X9_least hc) rfl ⟨(Nat.le_of_ble_eq_true rfl), (Nat.le_of_ble_eq_true rfl)⟩ (Nat.le_of_ble_eq_true rfl) rfl (fun v5 s4 h => ?_)
    refine r_istore_n (ln := [some (sj_r (some a0)), some (sj_i x1), some (sj_i x2), some (sj_i v5), some (sj_i x4)]) (pc := 40) dX9_top_40 rfl (Nat.le_of_ble_eq_true rfl) rfl ?_
    refine r_iinc (ln := fun w => [some (sj_r (some a0)), some (sj_i x1), some (sj_i x2), some (sj_i v5), some (sj_i w)]) (pc := 41) h dX9_top_41 rfl (Nat.le_of_ble_eq_true rfl) (fun _ => rfl) (fun v6 h => ?_)
    refine r_goto (pc := 44) (tgt := 12) dX9_top_44 (by decide) ?_
    exact sj_weak (l2 := [some (sj_r (some a0)), some (sj_i x1), some (sj_i x2), some (sj_i v5), some (sj_i v6)]) (⟨rfl, ⟨rfl, ⟨rfl, ⟨rfl, ⟨rfl, trivial⟩⟩⟩⟩⟩) (hk12 a0 x1 x2 v5 v6 s4 h)
set_option maxHeartbeats 4000000 in
theorem t_X9_top_12 {X : sj_X} {s0 : sj_Mem} {N : Nat} {q : Int × sj_Mem} :
    ∀ (n : Nat) (a0 : Nat) (x1 : Int) (x2 : Int) (x3 : Int) (x4 : Int) (s : sj_Mem), f_X9_top_12 N n a0 x1 x2 x3 x4 s = some q → sj_T X m_X9_top s0 (some (sj_i q.1), q.2) 12 [some (sj_r (some a0)), some (sj_i x1), some (sj_i x2), some (sj_i x3), some (sj_i x4)] [] s := by
  intro n
  induction n with
  | zero => intro a0 x1 x2 x3 x4 s h; exact nomatch h
  | succ n ih => intro a0 x1 x2 x3 x4 s h; exact t_X9_top_12_b (N := N) ih a0 x1 x2 x3 x4 s h
set_option maxHeartbeats 4000000 in
theorem t_X9_top_0 {X : sj_X} {s0 : sj_Mem} {N : Nat} {q : Int × sj_Mem} :
    ∀ (a0 : Nat) (x1 : Int) (x2 : Int) (s : sj_Mem), f_X9_top N a0 x1 x2 s = some q → sj_T X m_X9_top s0 (some (sj_i q.1), q.2) 0 [some (sj_r (some a0)), some (sj_i x1), some (sj_i x2), none, none] [] s := by
  intro a0 x1 x2 s h
  unfold f_X9_top at h
  refine r_aload_n (pc := 0) dX9_top_0 rfl rfl ?_
  refine r_gR (pc := 1) h dX9_top_1 fw_X9_9 rfl (fun r1 h => ?_)
  refine r_iconst (pc := 4) dX9_top_4 ?_
  refine r_iload_n (pc := 5) dX9_top_5 rfl rfl ?_
  refine r_iadd (pc := 6) dX9_top_6 ?_
  obtain ⟨a2, ea2, g⟩ := e_nn_some h
  clear h
  subst ea2
  have h := g
  clear g
  refine r_iaload (pc := 7) h dX9_top_7 (fun v3 h => ?_)
  refine r_istore_n (ln := [some (sj_r (some a0)), some (sj_i x1), some (sj_i x2), some (sj_i v3), none]) (pc := 8) dX9_top_8 rfl (Nat.le_of_ble_eq_true rfl) rfl ?_
  refine r_iconst (pc := 9) dX9_top_9 ?_
  refine r_istore (ln := [some (sj_r (some a0)), some (sj_i x1), some (sj_i x2), some (sj_i v3), some (sj_i 1)]) (pc := 10) dX9_top_10 (Nat.le_of_ble_eq_true rfl) rfl ?_
  exact sj_weak (l2 := [some (sj_r (some a0)), some (sj_i x1), some (sj_i x2), some (sj_i v3), some (sj_i 1)]) (⟨rfl, ⟨rfl, ⟨rfl, ⟨rfl, ⟨rfl, trivial⟩⟩⟩⟩⟩) (t_X9_top_12 N a0 x1 x2 v3 1 s h)
set_option maxHeartbeats 4000000 in
theorem c_X9_top {X : sj_X} {N : Nat} {a0 : Nat} {x1 : Int} {x2 : Int} {s : sj_Mem} {q : Int × sj_Mem} (h : f_X9_top N a0 x1 x2 s = some q) : sj_C X m_X9_top [sj_r (some a0), sj_i x1, sj_i x2] s (some (sj_i q.1), q.2) :=
  sj_C_of (by decide +kernel) (Nat.le_of_ble_eq_true rfl) (lo := [some (sj_r (some a0)), some (sj_i x1), some (sj_i x2), none, none]) rfl (sj_weak (l2 := [some (sj_r (some a0)), some (sj_i x1), some (sj_i x2), none, none]) (⟨rfl, ⟨rfl, ⟨rfl, trivial⟩⟩⟩) (t_X9_top_0 a0 x1 x2 s h))
theorem dX9_thick_0 : decode cX9_thick 0 = .ok (.iload_n 1, 1) := by decide +kernel
theorem dX9_thick_1 : decode cX9_thick 1 = .ok (.iconst 3, 1) := by decide +kernel
theorem dX9_thick_2 : decode cX9_thick 2 = .ok (.if_icmp .ne 7, 3) := by decide +kernel
theorem dX9_thick_5 : decode cX9_thick 5 = .ok (.iload_n 3, 1) := by decide +kernel
theorem dX9_thick_6 : decode cX9_thick 6 = .ok (.goto 15, 3) := by decide +kernel
theorem dX9_thick_9 : decode cX9_thick 9 = .ok (.iload_n 3, 1) := by decide +kernel
theorem dX9_thick_10 : decode cX9_thick 10 = .ok (.aload_n 0, 1) := by decide +kernel
theorem dX9_thick_11 : decode cX9_thick 11 = .ok (.iload_n 1, 1) := by decide +kernel
theorem dX9_thick_12 : decode cX9_thick 12 = .ok (.iconst 1, 1) := by decide +kernel
theorem dX9_thick_13 : decode cX9_thick 13 = .ok (.iadd, 1) := by decide +kernel
theorem dX9_thick_14 : decode cX9_thick 14 = .ok (.iload_n 2, 1) := by decide +kernel
theorem dX9_thick_15 : decode cX9_thick 15 = .ok (.invokevirtual 108, 3) := by decide +kernel
theorem dX9_thick_18 : decode cX9_thick 18 = .ok (.invokestatic 111, 3) := by decide +kernel
theorem dX9_thick_21 : decode cX9_thick 21 = .ok (.istore 4, 2) := by decide +kernel
theorem dX9_thick_23 : decode cX9_thick 23 = .ok (.aload_n 0, 1) := by decide +kernel
theorem dX9_thick_24 : decode cX9_thick 24 = .ok (.iload_n 1, 1) := by decide +kernel
theorem dX9_thick_25 : decode cX9_thick 25 = .ok (.iload_n 2, 1) := by decide +kernel
theorem dX9_thick_26 : decode cX9_thick 26 = .ok (.invokevirtual 108, 3) := by decide +kernel
theorem dX9_thick_29 : decode cX9_thick 29 = .ok (.iload 4, 2) := by decide +kernel
theorem dX9_thick_31 : decode cX9_thick 31 = .ok (.isub, 1) := by decide +kernel
theorem dX9_thick_32 : decode cX9_thick 32 = .ok (.istore 5, 2) := by decide +kernel
theorem dX9_thick_34 : decode cX9_thick 34 = .ok (.iload 5, 2) := by decide +kernel
theorem dX9_thick_36 : decode cX9_thick 36 = .ok (.ifCond .le 8, 3) := by decide +kernel
theorem dX9_thick_39 : decode cX9_thick 39 = .ok (.iload 5, 2) := by decide +kernel
theorem dX9_thick_41 : decode cX9_thick 41 = .ok (.goto 4, 3) := by decide +kernel
theorem dX9_thick_44 : decode cX9_thick 44 = .ok (.iconst 0, 1) := by decide +kernel
theorem dX9_thick_45 : decode cX9_thick 45 = .ok (.ireturn, 1) := by decide +kernel
set_option maxHeartbeats 4000000 in
theorem t_X9_thick_21 {X : sj_X} {s0 : sj_Mem} {N : Nat} {q : Int × sj_Mem} :
    ∀ (a0 : Nat) (x1 : Int) (x2 : Int) (y0 : Int) (s : sj_Mem), f_X9_thick_21 N a0 x1 x2 y0 s = some q → sj_T X m_X9_thick s0 (some (sj_i q.1), q.2) 21 [some (sj_r (some a0)), some (sj_i x1), some (sj_i x2), none, none, none] [(sj_i y0)] s := by
  intro a0 x1 x2 y0 s h
  unfold f_X9_thick_21 at h
  refine r_istore (ln := [some (sj_r (some a0)), some (sj_i x1), some (sj_i x2), none, some (sj_i y0), none]) (pc := 21) dX9_thick_21 (Nat.le_of_ble_eq_true rfl) rfl ?_
  refine r_aload_n (pc := 23) dX9_thick_23 rfl rfl ?_
  refine r_iload_n (pc := 24) dX9_thick_24 rfl rfl ?_
  refine r_iload_n (pc := 25) dX9_thick_25 rfl rfl ?_
  refine r_callV (pc := 26) (fun v => some (sj_i v)) (As := [sj_i x1, sj_i x2]) (rest := []) h dX9_thick_26 mw_X9_108 vw_X9_top (fun _ _ hc => c_X9_top hc) rfl ⟨(Nat.le_of_ble_eq_true rfl), (Nat.le_of_ble_eq_true rfl)⟩ (Nat.le_of_ble_eq_true rfl) rfl (fun v2 s1 h => ?_)
  refine r_iload (pc := 29) dX9_thick_29 rfl ?_
  refine r_isub (pc := 31) dX9_thick_31 ?_
  refine r_istoreL (ln := fun w => [some (sj_r (some a0)), some (sj_i x1), some (sj_i x2), none, some (sj_i y0), some (sj_i w)]) (pc := 32) h dX9_thick_32 (Nat.le_of_ble_eq_true rfl) (fun _ => rfl) (fun v3 h => ?_)
  refine r_iload (pc := 34) dX9_thick_34 rfl ?_
  refine r_if_le (pc := 36) (tgt := 44) h dX9_thick_36 (by decide) (fun h => ?_) (fun h => ?_)
  · refine r_iconst (pc := 44) dX9_thick_44 ?_
    exact r_iret (pc := 45) h rfl dX9_thick_45
  · refine r_iload (pc := 39) dX9_thick_39 rfl ?_
    refine r_goto (pc := 41) (tgt := 45) dX9_thick_41 (by decide) ?_
    exact r_iret (pc := 45) h rfl dX9_thick_45
set_option maxHeartbeats 4000000 in
theorem t_X9_thick_0 {X : sj_X} {s0 : sj_Mem} {N : Nat} {q : Int × sj_Mem} :
    ∀ (a0 : Nat) (x1 : Int) (x2 : Int) (x3 : Int) (s : sj_Mem), f_X9_thick N a0 x1 x2 x3 s = some q → sj_T X m_X9_thick s0 (some (sj_i q.1), q.2) 0 [some (sj_r (some a0)), some (sj_i x1), some (sj_i x2), some (sj_i x3), none, none] [] s := by
  intro a0 x1 x2 x3 s h
  unfold f_X9_thick at h
  refine r_iload_n (pc := 0) dX9_thick_0 rfl rfl ?_
  refine r_iconst (pc := 1) dX9_thick_1 ?_
  refine r_icmp_ne (pc := 2) (tgt := 9) h dX9_thick_2 (by decide) (fun h => ?_) (fun h => ?_)
  · refine r_iload_n (pc := 5) dX9_thick_5 rfl rfl ?_
    refine r_goto (pc := 6) (tgt := 21) dX9_thick_6 (by decide) ?_
    exact sj_weak (l2 := [some (sj_r (some a0)), some (sj_i x1), some (sj_i x2), none, none, none]) (⟨rfl, ⟨rfl, ⟨rfl, trivial⟩⟩⟩) (t_X9_thick_21 a0 x1 x2 x3 s h)
  · refine r_iload_n (pc := 9) dX9_thick_9 rfl rfl ?_
    refine r_aload_n (pc := 10) dX9_thick_10 rfl rfl ?_
    refine r_iload_n (pc := 11) dX9_thick_11 rfl rfl ?_
    refine r_iconst (pc := 12) dX9_thick_12 ?_
    refine r_iadd (pc := 13) dX9_thick_13 ?_
    refine r_iload_n (pc := 14) dX9_thick_14 rfl rfl ?_
    refine r_callV (pc := 15) (fun v => some (sj_i v)) (As := [sj_i (x1 + 1), sj_i x2]) (rest := [(sj_i x3)]) h dX9_thick_15 mw_X9_108 vw_X9_top (fun _ _ hc => c_X9_top hc) rfl ⟨(Nat.le_of_ble_eq_true rfl), (Nat.le_of_ble_eq_true rfl)⟩ (Nat.le_of_ble_eq_true rfl) rfl (fun v2 s1 h => ?_)
    refine r_callS (pc := 18) (fun v => some (sj_i v)) (As := [sj_i x3, sj_i v2]) (rest := []) h dX9_thick_18 mw_X9_111 kw_1300 (fun _ _ hc => c_X9_most hc) rfl ⟨(Nat.le_of_ble_eq_true rfl), (Nat.le_of_ble_eq_true rfl)⟩ (Nat.le_of_ble_eq_true rfl) rfl (fun v4 s3 h => ?_)
    exact sj_weak (l2 := [some (sj_r (some a0)), some (sj_i x1), some (sj_i x2), none, none, none]) (⟨rfl, ⟨rfl, ⟨rfl, trivial⟩⟩⟩) (t_X9_thick_21 a0 x1 x2 v4 s3 h)
set_option maxHeartbeats 4000000 in
theorem c_X9_thick {X : sj_X} {N : Nat} {a0 : Nat} {x1 : Int} {x2 : Int} {x3 : Int} {s : sj_Mem} {q : Int × sj_Mem} (h : f_X9_thick N a0 x1 x2 x3 s = some q) : sj_C X m_X9_thick [sj_r (some a0), sj_i x1, sj_i x2, sj_i x3] s (some (sj_i q.1), q.2) :=
  sj_C_of (by decide +kernel) (Nat.le_of_ble_eq_true rfl) (lo := [some (sj_r (some a0)), some (sj_i x1), some (sj_i x2), some (sj_i x3), none, none]) rfl (sj_weak (l2 := [some (sj_r (some a0)), some (sj_i x1), some (sj_i x2), some (sj_i x3), none, none]) (⟨rfl, ⟨rfl, ⟨rfl, ⟨rfl, trivial⟩⟩⟩⟩) (t_X9_thick_0 a0 x1 x2 x3 s h))
theorem dX9_laysSlice_0 : decode cX9_laysSlice 0 = .ok (.aload_n 0, 1) := by decide +kernel
theorem dX9_laysSlice_1 : decode cX9_laysSlice 1 = .ok (.iload 4, 2) := by decide +kernel
theorem dX9_laysSlice_3 : decode cX9_laysSlice 3 = .ok (.ifCond .eq 9, 3) := by decide +kernel
theorem dX9_laysSlice_6 : decode cX9_laysSlice 6 = .ok (.iload_n 3, 1) := by decide +kernel
theorem dX9_laysSlice_7 : decode cX9_laysSlice 7 = .ok (.iload_n 2, 1) := by decide +kernel
theorem dX9_laysSlice_8 : decode cX9_laysSlice 8 = .ok (.isub, 1) := by decide +kernel
theorem dX9_laysSlice_9 : decode cX9_laysSlice 9 = .ok (.goto 6, 3) := by decide +kernel
theorem dX9_laysSlice_12 : decode cX9_laysSlice 12 = .ok (.iload_n 2, 1) := by decide +kernel
theorem dX9_laysSlice_13 : decode cX9_laysSlice 13 = .ok (.iload_n 3, 1) := by decide +kernel
theorem dX9_laysSlice_14 : decode cX9_laysSlice 14 = .ok (.isub, 1) := by decide +kernel
theorem dX9_laysSlice_15 : decode cX9_laysSlice 15 = .ok (.putfield 114, 3) := by decide +kernel
theorem dX9_laysSlice_18 : decode cX9_laysSlice 18 = .ok (.lconst 0, 1) := by decide +kernel
theorem dX9_laysSlice_19 : decode cX9_laysSlice 19 = .ok (.lstore 5, 2) := by decide +kernel
theorem dX9_laysSlice_21 : decode cX9_laysSlice 21 = .ok (.aload_n 0, 1) := by decide +kernel
theorem dX9_laysSlice_22 : decode cX9_laysSlice 22 = .ok (.iconst 0, 1) := by decide +kernel
theorem dX9_laysSlice_23 : decode cX9_laysSlice 23 = .ok (.putfield 117, 3) := by decide +kernel
theorem dX9_laysSlice_26 : decode cX9_laysSlice 26 = .ok (.iconst 0, 1) := by decide +kernel
theorem dX9_laysSlice_27 : decode cX9_laysSlice 27 = .ok (.istore 7, 2) := by decide +kernel
theorem dX9_laysSlice_29 : decode cX9_laysSlice 29 = .ok (.iload 7, 2) := by decide +kernel
theorem dX9_laysSlice_31 : decode cX9_laysSlice 31 = .ok (.iconst 4, 1) := by decide +kernel
theorem dX9_laysSlice_32 : decode cX9_laysSlice 32 = .ok (.if_icmp .ge 78, 3) := by decide +kernel
theorem dX9_laysSlice_35 : decode cX9_laysSlice 35 = .ok (.lload 5, 2) := by decide +kernel
theorem dX9_laysSlice_37 : decode cX9_laysSlice 37 = .ok (.aload_n 0, 1) := by decide +kernel
theorem dX9_laysSlice_38 : decode cX9_laysSlice 38 = .ok (.getfield 9, 3) := by decide +kernel
theorem dX9_laysSlice_41 : decode cX9_laysSlice 41 = .ok (.sipush 290, 3) := by decide +kernel
theorem dX9_laysSlice_44 : decode cX9_laysSlice 44 = .ok (.iconst 3, 1) := by decide +kernel
theorem dX9_laysSlice_45 : decode cX9_laysSlice 45 = .ok (.iload 7, 2) := by decide +kernel
theorem dX9_laysSlice_47 : decode cX9_laysSlice 47 = .ok (.imul, 1) := by decide +kernel
theorem dX9_laysSlice_48 : decode cX9_laysSlice 48 = .ok (.iadd, 1) := by decide +kernel
theorem dX9_laysSlice_49 : decode cX9_laysSlice 49 = .ok (.iaload, 1) := by decide +kernel
theorem dX9_laysSlice_50 : decode cX9_laysSlice 50 = .ok (.i2l, 1) := by decide +kernel
theorem dX9_laysSlice_51 : decode cX9_laysSlice 51 = .ok (.aload_n 0, 1) := by decide +kernel
theorem dX9_laysSlice_52 : decode cX9_laysSlice 52 = .ok (.iload 7, 2) := by decide +kernel
theorem dX9_laysSlice_54 : decode cX9_laysSlice 54 = .ok (.iload_n 1, 1) := by decide +kernel
theorem dX9_laysSlice_55 : decode cX9_laysSlice 55 = .ok (.iload_n 2, 1) := by decide +kernel
theorem dX9_laysSlice_56 : decode cX9_laysSlice 56 = .ok (.invokevirtual 120, 3) := by decide +kernel
theorem dX9_laysSlice_59 : decode cX9_laysSlice 59 = .ok (.aload_n 0, 1) := by decide +kernel
theorem dX9_laysSlice_60 : decode cX9_laysSlice 60 = .ok (.iload 7, 2) := by decide +kernel
theorem dX9_laysSlice_62 : decode cX9_laysSlice 62 = .ok (.iload_n 1, 1) := by decide +kernel
theorem dX9_laysSlice_63 : decode cX9_laysSlice 63 = .ok (.iconst 1, 1) := by decide +kernel
theorem dX9_laysSlice_64 : decode cX9_laysSlice 64 = .ok (.iadd, 1) := by decide +kernel
theorem dX9_laysSlice_65 : decode cX9_laysSlice 65 = .ok (.iload_n 3, 1) := by decide +kernel
theorem dX9_laysSlice_66 : decode cX9_laysSlice 66 = .ok (.invokevirtual 120, 3) := by decide +kernel
theorem dX9_laysSlice_69 : decode cX9_laysSlice 69 = .ok (.iadd, 1) := by decide +kernel
theorem dX9_laysSlice_70 : decode cX9_laysSlice 70 = .ok (.i2l, 1) := by decide +kernel
theorem dX9_laysSlice_71 : decode cX9_laysSlice 71 = .ok (.lmul, 1) := by decide +kernel
theorem dX9_laysSlice_72 : decode cX9_laysSlice 72 = .ok (.ladd, 1) := by decide +kernel
theorem dX9_laysSlice_73 : decode cX9_laysSlice 73 = .ok (.lstore 5, 2) := by decide +kernel
theorem dX9_laysSlice_75 : decode cX9_laysSlice 75 = .ok (.aload_n 0, 1) := by decide +kernel
theorem dX9_laysSlice_76 : decode cX9_laysSlice 76 = .ok (.iload 7, 2) := by decide +kernel
theorem dX9_laysSlice_78 : decode cX9_laysSlice 78 = .ok (.iload_n 1, 1) := by decide +kernel
theorem dX9_laysSlice_79 : decode cX9_laysSlice 79 = .ok (.invokevirtual 108, 3) := by decide +kernel
theorem dX9_laysSlice_82 : decode cX9_laysSlice 82 = .ok (.aload_n 0, 1) := by decide +kernel
theorem dX9_laysSlice_83 : decode cX9_laysSlice 83 = .ok (.iload 7, 2) := by decide +kernel
theorem dX9_laysSlice_85 : decode cX9_laysSlice 85 = .ok (.iload_n 1, 1) := by decide +kernel
theorem dX9_laysSlice_86 : decode cX9_laysSlice 86 = .ok (.iconst 1, 1) := by decide +kernel
theorem dX9_laysSlice_87 : decode cX9_laysSlice 87 = .ok (.iadd, 1) := by decide +kernel
theorem dX9_laysSlice_88 : decode cX9_laysSlice 88 = .ok (.invokevirtual 108, 3) := by decide +kernel
theorem dX9_laysSlice_91 : decode cX9_laysSlice 91 = .ok (.iadd, 1) := by decide +kernel
theorem dX9_laysSlice_92 : decode cX9_laysSlice 92 = .ok (.iload_n 2, 1) := by decide +kernel
theorem dX9_laysSlice_93 : decode cX9_laysSlice 93 = .ok (.iload_n 3, 1) := by decide +kernel
theorem dX9_laysSlice_94 : decode cX9_laysSlice 94 = .ok (.iadd, 1) := by decide +kernel
theorem dX9_laysSlice_95 : decode cX9_laysSlice 95 = .ok (.if_icmp .le 9, 3) := by decide +kernel
theorem dX9_laysSlice_98 : decode cX9_laysSlice 98 = .ok (.aload_n 0, 1) := by decide +kernel
theorem dX9_laysSlice_99 : decode cX9_laysSlice 99 = .ok (.iload 7, 2) := by decide +kernel
theorem dX9_laysSlice_101 : decode cX9_laysSlice 101 = .ok (.putfield 117, 3) := by decide +kernel
theorem dX9_laysSlice_104 : decode cX9_laysSlice 104 = .ok (.iinc 7 1, 3) := by decide +kernel
theorem dX9_laysSlice_107 : decode cX9_laysSlice 107 = .ok (.goto (-78), 3) := by decide +kernel
theorem dX9_laysSlice_110 : decode cX9_laysSlice 110 = .ok (.aload_n 0, 1) := by decide +kernel
theorem dX9_laysSlice_111 : decode cX9_laysSlice 111 = .ok (.aload_n 0, 1) := by decide +kernel
theorem dX9_laysSlice_112 : decode cX9_laysSlice 112 = .ok (.getfield 9, 3) := by decide +kernel
theorem dX9_laysSlice_115 : decode cX9_laysSlice 115 = .ok (.iconst 1, 1) := by decide +kernel
theorem dX9_laysSlice_116 : decode cX9_laysSlice 116 = .ok (.iaload, 1) := by decide +kernel
theorem dX9_laysSlice_117 : decode cX9_laysSlice 117 = .ok (.i2l, 1) := by decide +kernel
theorem dX9_laysSlice_118 : decode cX9_laysSlice 118 = .ok (.lload 5, 2) := by decide +kernel
theorem dX9_laysSlice_120 : decode cX9_laysSlice 120 = .ok (.aload_n 0, 1) := by decide +kernel
theorem dX9_laysSlice_121 : decode cX9_laysSlice 121 = .ok (.getfield 9, 3) := by decide +kernel
theorem dX9_laysSlice_124 : decode cX9_laysSlice 124 = .ok (.bipush 126, 2) := by decide +kernel
theorem dX9_laysSlice_126 : decode cX9_laysSlice 126 = .ok (.iload_n 1, 1) := by decide +kernel
theorem dX9_laysSlice_127 : decode cX9_laysSlice 127 = .ok (.iadd, 1) := by decide +kernel
theorem dX9_laysSlice_128 : decode cX9_laysSlice 128 = .ok (.iaload, 1) := by decide +kernel
theorem dX9_laysSlice_129 : decode cX9_laysSlice 129 = .ok (.i2l, 1) := by decide +kernel
theorem dX9_laysSlice_130 : decode cX9_laysSlice 130 = .ok (.ladd, 1) := by decide +kernel
theorem dX9_laysSlice_131 : decode cX9_laysSlice 131 = .ok (.aload_n 0, 1) := by decide +kernel
theorem dX9_laysSlice_132 : decode cX9_laysSlice 132 = .ok (.getfield 9, 3) := by decide +kernel
theorem dX9_laysSlice_135 : decode cX9_laysSlice 135 = .ok (.bipush 126, 2) := by decide +kernel
theorem dX9_laysSlice_137 : decode cX9_laysSlice 137 = .ok (.iload_n 1, 1) := by decide +kernel
theorem dX9_laysSlice_138 : decode cX9_laysSlice 138 = .ok (.iadd, 1) := by decide +kernel
theorem dX9_laysSlice_139 : decode cX9_laysSlice 139 = .ok (.iconst 1, 1) := by decide +kernel
theorem dX9_laysSlice_140 : decode cX9_laysSlice 140 = .ok (.iadd, 1) := by decide +kernel
theorem dX9_laysSlice_141 : decode cX9_laysSlice 141 = .ok (.iaload, 1) := by decide +kernel
theorem dX9_laysSlice_142 : decode cX9_laysSlice 142 = .ok (.i2l, 1) := by decide +kernel
theorem dX9_laysSlice_143 : decode cX9_laysSlice 143 = .ok (.ladd, 1) := by decide +kernel
theorem dX9_laysSlice_144 : decode cX9_laysSlice 144 = .ok (.lmul, 1) := by decide +kernel
theorem dX9_laysSlice_145 : decode cX9_laysSlice 145 = .ok (.putfield 124, 3) := by decide +kernel
theorem dX9_laysSlice_148 : decode cX9_laysSlice 148 = .ok (.aload_n 0, 1) := by decide +kernel
theorem dX9_laysSlice_149 : decode cX9_laysSlice 149 = .ok (.ldc2_w 68, 3) := by decide +kernel
theorem dX9_laysSlice_152 : decode cX9_laysSlice 152 = .ok (.aload_n 0, 1) := by decide +kernel
theorem dX9_laysSlice_153 : decode cX9_laysSlice 153 = .ok (.getfield 9, 3) := by decide +kernel
theorem dX9_laysSlice_156 : decode cX9_laysSlice 156 = .ok (.iconst 1, 1) := by decide +kernel
theorem dX9_laysSlice_157 : decode cX9_laysSlice 157 = .ok (.iaload, 1) := by decide +kernel
theorem dX9_laysSlice_158 : decode cX9_laysSlice 158 = .ok (.i2l, 1) := by decide +kernel
theorem dX9_laysSlice_159 : decode cX9_laysSlice 159 = .ok (.lmul, 1) := by decide +kernel
theorem dX9_laysSlice_160 : decode cX9_laysSlice 160 = .ok (.iconst 0, 1) := by decide +kernel
theorem dX9_laysSlice_161 : decode cX9_laysSlice 161 = .ok (.aload_n 0, 1) := by decide +kernel
theorem dX9_laysSlice_162 : decode cX9_laysSlice 162 = .ok (.iload_n 1, 1) := by decide +kernel
theorem dX9_laysSlice_163 : decode cX9_laysSlice 163 = .ok (.invokevirtual 128, 3) := by decide +kernel
theorem dX9_laysSlice_166 : decode cX9_laysSlice 166 = .ok (.iload_n 2, 1) := by decide +kernel
theorem dX9_laysSlice_167 : decode cX9_laysSlice 167 = .ok (.isub, 1) := by decide +kernel
theorem dX9_laysSlice_168 : decode cX9_laysSlice 168 = .ok (.invokestatic 111, 3) := by decide +kernel
theorem dX9_laysSlice_171 : decode cX9_laysSlice 171 = .ok (.iconst 0, 1) := by decide +kernel
theorem dX9_laysSlice_172 : decode cX9_laysSlice 172 = .ok (.aload_n 0, 1) := by decide +kernel
theorem dX9_laysSlice_173 : decode cX9_laysSlice 173 = .ok (.iload_n 1, 1) := by decide +kernel
theorem dX9_laysSlice_174 : decode cX9_laysSlice 174 = .ok (.iconst 1, 1) := by decide +kernel
theorem dX9_laysSlice_175 : decode cX9_laysSlice 175 = .ok (.iadd, 1) := by decide +kernel
theorem dX9_laysSlice_176 : decode cX9_laysSlice 176 = .ok (.invokevirtual 128, 3) := by decide +kernel
theorem dX9_laysSlice_179 : decode cX9_laysSlice 179 = .ok (.iload_n 3, 1) := by decide +kernel
theorem dX9_laysSlice_180 : decode cX9_laysSlice 180 = .ok (.isub, 1) := by decide +kernel
theorem dX9_laysSlice_181 : decode cX9_laysSlice 181 = .ok (.invokestatic 111, 3) := by decide +kernel
theorem dX9_laysSlice_184 : decode cX9_laysSlice 184 = .ok (.iadd, 1) := by decide +kernel
theorem dX9_laysSlice_185 : decode cX9_laysSlice 185 = .ok (.i2l, 1) := by decide +kernel
theorem dX9_laysSlice_186 : decode cX9_laysSlice 186 = .ok (.lmul, 1) := by decide +kernel
theorem dX9_laysSlice_187 : decode cX9_laysSlice 187 = .ok (.putfield 132, 3) := by decide +kernel
theorem dX9_laysSlice_190 : decode cX9_laysSlice 190 = .ok (.aload_n 0, 1) := by decide +kernel
theorem dX9_laysSlice_191 : decode cX9_laysSlice 191 = .ok (.aload_n 0, 1) := by decide +kernel
theorem dX9_laysSlice_192 : decode cX9_laysSlice 192 = .ok (.getfield 124, 3) := by decide +kernel
theorem dX9_laysSlice_195 : decode cX9_laysSlice 195 = .ok (.aload_n 0, 1) := by decide +kernel
theorem dX9_laysSlice_196 : decode cX9_laysSlice 196 = .ok (.getfield 132, 3) := by decide +kernel
theorem dX9_laysSlice_199 : decode cX9_laysSlice 199 = .ok (.lcmp, 1) := by decide +kernel
theorem dX9_laysSlice_200 : decode cX9_laysSlice 200 = .ok (.ifCond .le 15, 3) := by decide +kernel
theorem dX9_laysSlice_203 : decode cX9_laysSlice 203 = .ok (.aload_n 0, 1) := by decide +kernel
theorem dX9_laysSlice_204 : decode cX9_laysSlice 204 = .ok (.getfield 124, 3) := by decide +kernel
theorem dX9_laysSlice_207 : decode cX9_laysSlice 207 = .ok (.aload_n 0, 1) := by decide +kernel
theorem dX9_laysSlice_208 : decode cX9_laysSlice 208 = .ok (.getfield 132, 3) := by decide +kernel
theorem dX9_laysSlice_211 : decode cX9_laysSlice 211 = .ok (.lsub, 1) := by decide +kernel
theorem dX9_laysSlice_212 : decode cX9_laysSlice 212 = .ok (.goto 4, 3) := by decide +kernel
theorem dX9_laysSlice_215 : decode cX9_laysSlice 215 = .ok (.lconst 0, 1) := by decide +kernel
theorem dX9_laysSlice_216 : decode cX9_laysSlice 216 = .ok (.putfield 135, 3) := by decide +kernel
theorem dX9_laysSlice_219 : decode cX9_laysSlice 219 = .ok (.aload_n 0, 1) := by decide +kernel
theorem dX9_laysSlice_220 : decode cX9_laysSlice 220 = .ok (.ldc2_w 138, 3) := by decide +kernel
theorem dX9_laysSlice_223 : decode cX9_laysSlice 223 = .ok (.aload_n 0, 1) := by decide +kernel
theorem dX9_laysSlice_224 : decode cX9_laysSlice 224 = .ok (.getfield 9, 3) := by decide +kernel
theorem dX9_laysSlice_227 : decode cX9_laysSlice 227 = .ok (.sipush 290, 3) := by decide +kernel
theorem dX9_laysSlice_230 : decode cX9_laysSlice 230 = .ok (.iconst 3, 1) := by decide +kernel
theorem dX9_laysSlice_231 : decode cX9_laysSlice 231 = .ok (.aload_n 0, 1) := by decide +kernel
theorem dX9_laysSlice_232 : decode cX9_laysSlice 232 = .ok (.getfield 117, 3) := by decide +kernel
theorem dX9_laysSlice_235 : decode cX9_laysSlice 235 = .ok (.imul, 1) := by decide +kernel
theorem dX9_laysSlice_236 : decode cX9_laysSlice 236 = .ok (.iadd, 1) := by decide +kernel
theorem dX9_laysSlice_237 : decode cX9_laysSlice 237 = .ok (.iconst 1, 1) := by decide +kernel
theorem dX9_laysSlice_238 : decode cX9_laysSlice 238 = .ok (.iadd, 1) := by decide +kernel
theorem dX9_laysSlice_239 : decode cX9_laysSlice 239 = .ok (.iaload, 1) := by decide +kernel
theorem dX9_laysSlice_240 : decode cX9_laysSlice 240 = .ok (.i2l, 1) := by decide +kernel
theorem dX9_laysSlice_241 : decode cX9_laysSlice 241 = .ok (.lmul, 1) := by decide +kernel
theorem dX9_laysSlice_242 : decode cX9_laysSlice 242 = .ok (.aload_n 0, 1) := by decide +kernel
theorem dX9_laysSlice_243 : decode cX9_laysSlice 243 = .ok (.getfield 9, 3) := by decide +kernel
theorem dX9_laysSlice_246 : decode cX9_laysSlice 246 = .ok (.iconst 1, 1) := by decide +kernel
theorem dX9_laysSlice_247 : decode cX9_laysSlice 247 = .ok (.iaload, 1) := by decide +kernel
theorem dX9_laysSlice_248 : decode cX9_laysSlice 248 = .ok (.i2l, 1) := by decide +kernel
theorem dX9_laysSlice_249 : decode cX9_laysSlice 249 = .ok (.lmul, 1) := by decide +kernel
theorem dX9_laysSlice_250 : decode cX9_laysSlice 250 = .ok (.aload_n 0, 1) := by decide +kernel
theorem dX9_laysSlice_251 : decode cX9_laysSlice 251 = .ok (.getfield 135, 3) := by decide +kernel
theorem dX9_laysSlice_254 : decode cX9_laysSlice 254 = .ok (.aload_n 0, 1) := by decide +kernel
theorem dX9_laysSlice_255 : decode cX9_laysSlice 255 = .ok (.getfield 9, 3) := by decide +kernel
theorem dX9_laysSlice_258 : decode cX9_laysSlice 258 = .ok (.sipush 290, 3) := by decide +kernel
theorem dX9_laysSlice_261 : decode cX9_laysSlice 261 = .ok (.iconst 3, 1) := by decide +kernel
theorem dX9_laysSlice_262 : decode cX9_laysSlice 262 = .ok (.aload_n 0, 1) := by decide +kernel
theorem dX9_laysSlice_263 : decode cX9_laysSlice 263 = .ok (.getfield 117, 3) := by decide +kernel
theorem dX9_laysSlice_266 : decode cX9_laysSlice 266 = .ok (.imul, 1) := by decide +kernel
theorem dX9_laysSlice_267 : decode cX9_laysSlice 267 = .ok (.iadd, 1) := by decide +kernel
theorem dX9_laysSlice_268 : decode cX9_laysSlice 268 = .ok (.iconst 2, 1) := by decide +kernel
theorem dX9_laysSlice_269 : decode cX9_laysSlice 269 = .ok (.iadd, 1) := by decide +kernel
theorem dX9_laysSlice_270 : decode cX9_laysSlice 270 = .ok (.iaload, 1) := by decide +kernel
theorem dX9_laysSlice_271 : decode cX9_laysSlice 271 = .ok (.i2l, 1) := by decide +kernel
theorem dX9_laysSlice_272 : decode cX9_laysSlice 272 = .ok (.lmul, 1) := by decide +kernel
theorem dX9_laysSlice_273 : decode cX9_laysSlice 273 = .ok (.ladd, 1) := by decide +kernel
theorem dX9_laysSlice_274 : decode cX9_laysSlice 274 = .ok (.putfield 140, 3) := by decide +kernel
theorem dX9_laysSlice_277 : decode cX9_laysSlice 277 = .ok (.aload_n 0, 1) := by decide +kernel
theorem dX9_laysSlice_278 : decode cX9_laysSlice 278 = .ok (.aload_n 0, 1) := by decide +kernel
theorem dX9_laysSlice_279 : decode cX9_laysSlice 279 = .ok (.getfield 124, 3) := by decide +kernel
theorem dX9_laysSlice_282 : decode cX9_laysSlice 282 = .ok (.ldc2_w 143, 3) := by decide +kernel
theorem dX9_laysSlice_285 : decode cX9_laysSlice 285 = .ok (.aload_n 0, 1) := by decide +kernel
theorem dX9_laysSlice_286 : decode cX9_laysSlice 286 = .ok (.getfield 114, 3) := by decide +kernel
theorem dX9_laysSlice_289 : decode cX9_laysSlice 289 = .ok (.i2l, 1) := by decide +kernel
theorem dX9_laysSlice_290 : decode cX9_laysSlice 290 = .ok (.lmul, 1) := by decide +kernel
theorem dX9_laysSlice_291 : decode cX9_laysSlice 291 = .ok (.aload_n 0, 1) := by decide +kernel
theorem dX9_laysSlice_292 : decode cX9_laysSlice 292 = .ok (.getfield 9, 3) := by decide +kernel
theorem dX9_laysSlice_295 : decode cX9_laysSlice 295 = .ok (.iconst 2, 1) := by decide +kernel
theorem dX9_laysSlice_296 : decode cX9_laysSlice 296 = .ok (.iaload, 1) := by decide +kernel
theorem dX9_laysSlice_297 : decode cX9_laysSlice 297 = .ok (.i2l, 1) := by decide +kernel
theorem dX9_laysSlice_298 : decode cX9_laysSlice 298 = .ok (.aload_n 0, 1) := by decide +kernel
theorem dX9_laysSlice_299 : decode cX9_laysSlice 299 = .ok (.getfield 9, 3) := by decide +kernel
theorem dX9_laysSlice_302 : decode cX9_laysSlice 302 = .ok (.iconst 1, 1) := by decide +kernel
theorem dX9_laysSlice_303 : decode cX9_laysSlice 303 = .ok (.iaload, 1) := by decide +kernel
theorem dX9_laysSlice_304 : decode cX9_laysSlice 304 = .ok (.i2l, 1) := by decide +kernel
theorem dX9_laysSlice_305 : decode cX9_laysSlice 305 = .ok (.lmul, 1) := by decide +kernel
theorem dX9_laysSlice_306 : decode cX9_laysSlice 306 = .ok (.ladd, 1) := by decide +kernel
theorem dX9_laysSlice_307 : decode cX9_laysSlice 307 = .ok (.lmul, 1) := by decide +kernel
theorem dX9_laysSlice_308 : decode cX9_laysSlice 308 = .ok (.putfield 145, 3) := by decide +kernel
theorem dX9_laysSlice_311 : decode cX9_laysSlice 311 = .ok (.return_, 1) := by decide +kernel
set_option maxHeartbeats 4000000 in
theorem t_X9_laysSlice_104 {X : sj_X} {s0 : sj_Mem} {N : Nat} {q : Unit × sj_Mem} {k29 : Nat → Int → Int → Int → Int → Int → sj_Mem → Option (Unit × sj_Mem)} (hk29 : ∀ (a0 : Nat) (x1 : Int) (x2 : Int) (x3 : Int) (x5 : Int) (x7 : Int) (s : sj_Mem), k29 a0 x1 x2 x3 x5 x7 s = some q → sj_T X m_X9_laysSlice s0 (none, q.2) 29 [some (sj_r (some a0)), some (sj_i x1), some (sj_i x2), some (sj_i x3), none, some (sj_j x5), none, some (sj_i x7)] [] s) :
    ∀ (a0 : Nat) (x1 : Int) (x2 : Int) (x3 : Int) (x5 : Int) (x7 : Int) (s : sj_Mem), f_X9_laysSlice_104 N k29 a0 x1 x2 x3 x5 x7 s = some q → sj_T X m_X9_laysSlice s0 (none, q.2) 104 [some (sj_r (some a0)), some (sj_i x1), some (sj_i x2), some (sj_i x3), none, some (sj_j x5), none, some (sj_i x7)] [] s := by
  intro a0 x1 x2 x3 x5 x7 s h
  unfold f_X9_laysSlice_104 at h
  refine r_iinc (ln := fun w => [some (sj_r (some a0)), some (sj_i x1), some (sj_i x2), some (sj_i x3), none, some (sj_j x5), none, some (sj_i w)]) (pc := 104) h dX9_laysSlice_104 rfl (Nat.le_of_ble_eq_true rfl) (fun _ => rfl) (fun v1 h => ?_)
  refine r_goto (pc := 107) (tgt := 29) dX9_laysSlice_107 (by decide) ?_
  exact sj_weak (l2 := [some (sj_r (some a0)), some (sj_i x1), some (sj_i x2), some (sj_i x3), none, some (sj_j x5), none, some (sj_i v1)]) (⟨rfl, ⟨rfl, ⟨rfl, ⟨rfl, ⟨rfl, ⟨rfl, trivial⟩⟩⟩⟩⟩⟩) (hk29 a0 x1 x2 x3 x5 v1 s h)
set_option maxHeartbeats 4000000 in
theorem t_X9_laysSlice_216 {X : sj_X} {s0 : sj_Mem} {N : Nat} {q : Unit × sj_Mem} :
    ∀ (a0 : Nat) (y0 : Int) (y1 : Option Nat) (s : sj_Mem), f_X9_laysSlice_216 N a0 y0 y1 s = some q → sj_T X m_X9_laysSlice s0 (none, q.2) 216 [some (sj_r (some a0)), none, none, none, none, none, none, none] [(sj_j y0), (sj_r y1)] s := by
  intro a0 y0 y1 s h
  unfold f_X9_laysSlice_216 at h
  obtain ⟨a1, ea1, g⟩ := e_nn_some h
  clear h
  subst ea1
  have h := g
  clear g
  refine r_pJ (pc := 216) h dX9_laysSlice_216 fw_X9_135 rfl rfl (fun _ hq => by cases hq; rfl) (fun s2 h => ?_)
  refine r_aload_n (pc := 219) dX9_laysSlice_219 rfl rfl ?_
  refine r_ldc2 (n := 2000) (pc := 220) dX9_laysSlice_220 kc_X9_138 ?_
  refine r_aload_n (pc := 223) dX9_laysSlice_223 rfl rfl ?_
  refine r_gR (pc := 224) h dX9_laysSlice_224 fw_X9_9 rfl (fun r3 h => ?_)
  refine r_sipush (pc := 227) dX9_laysSlice_227 ⟨by decide, by decide⟩ ?_
  refine r_iconst (pc := 230) dX9_laysSlice_230 ?_
  refine r_aload_n (pc := 231) dX9_laysSlice_231 rfl rfl ?_
  refine r_gI (pc := 232) h dX9_laysSlice_232 fw_X9_117 rfl (fun v4 h => ?_)
  refine r_imul (pc := 235) dX9_laysSlice_235 ?_
  refine r_iadd (pc := 236) dX9_laysSlice_236 ?_
  refine r_iconst (pc := 237) dX9_laysSlice_237 ?_
  refine r_iadd (pc := 238) dX9_laysSlice_238 ?_
  obtain ⟨a5, ea5, g⟩ := e_nn_some h
  clear h
  subst ea5
  have h := g
  clear g
  refine r_iaload (pc := 239) h dX9_laysSlice_239 (fun v6 h => ?_)
  refine r_i2l (pc := 240) h dX9_laysSlice_240 (fun v7 h => ?_)
  refine r_lmul (pc := 241) dX9_laysSlice_241 ?_
  refine r_aload_n (pc := 242) dX9_laysSlice_242 rfl rfl ?_
  refine r_gR (pc := 243) h dX9_laysSlice_243 fw_X9_9 rfl (fun r8 h => ?_)
  refine r_iconst (pc := 246) dX9_laysSlice_246 ?_
  obtain ⟨a9, ea9, g⟩ := e_nn_some h
  clear h
  subst ea9
  have h := g
  clear g
  refine r_iaload (pc := 247) h dX9_laysSlice_247 (fun v10 h => ?_)
  refine r_i2l (pc := 248) h dX9_laysSlice_248 (fun v11 h => ?_)
  refine r_lmul (pc := 249) dX9_laysSlice_249 ?_
  refine r_aload_n (pc := 250) dX9_laysSlice_250 rfl rfl ?_
  refine r_gJ (pc := 251) h dX9_laysSlice_251 fw_X9_135 rfl (fun v12 h => ?_)
  refine r_aload_n (pc := 254) dX9_laysSlice_254 rfl rfl ?_
  refine r_gR (pc := 255) h dX9_laysSlice_255 fw_X9_9 rfl (fun r13 h => ?_)
  refine r_sipush (pc := 258) dX9_laysSlice_258 ⟨by decide, by decide⟩ ?_
  refine r_iconst (pc := 261) dX9_laysSlice_261 ?_
  refine r_aload_n (pc := 262) dX9_laysSlice_262 rfl rfl ?_
  refine r_gI (pc := 263) h dX9_laysSlice_263 fw_X9_117 rfl (fun v14 h => ?_)
  refine r_imul (pc := 266) dX9_laysSlice_266 ?_
  refine r_iadd (pc := 267) dX9_laysSlice_267 ?_
  refine r_iconst (pc := 268) dX9_laysSlice_268 ?_
  refine r_iadd (pc := 269) dX9_laysSlice_269 ?_
  obtain ⟨a15, ea15, g⟩ := e_nn_some h
  clear h
  subst ea15
  have h := g
  clear g
  refine r_iaload (pc := 270) h dX9_laysSlice_270 (fun v16 h => ?_)
  refine r_i2l (pc := 271) h dX9_laysSlice_271 (fun v17 h => ?_)
  refine r_lmul (pc := 272) dX9_laysSlice_272 ?_
  refine r_ladd (pc := 273) dX9_laysSlice_273 ?_
  refine r_pJ (pc := 274) h dX9_laysSlice_274 fw_X9_140 rfl rfl (fun _ hq => by cases hq; rfl) (fun s18 h => ?_)
  refine r_aload_n (pc := 277) dX9_laysSlice_277 rfl rfl ?_
  refine r_aload_n (pc := 278) dX9_laysSlice_278 rfl rfl ?_
  refine r_gJ (pc := 279) h dX9_laysSlice_279 fw_X9_124 rfl (fun v19 h => ?_)
  refine r_ldc2 (n := 1000) (pc := 282) dX9_laysSlice_282 kc_X9_143 ?_
  refine r_aload_n (pc := 285) dX9_laysSlice_285 rfl rfl ?_
  refine r_gI (pc := 286) h dX9_laysSlice_286 fw_X9_114 rfl (fun v20 h => ?_)
  refine r_i2l (pc := 289) h dX9_laysSlice_289 (fun v21 h => ?_)
  refine r_lmul (pc := 290) dX9_laysSlice_290 ?_
  refine r_aload_n (pc := 291) dX9_laysSlice_291 rfl rfl ?_
  refine r_gR (pc := 292) h dX9_laysSlice_292 fw_X9_9 rfl (fun r22 h => ?_)
  refine r_iconst (pc := 295) dX9_laysSlice_295 ?_
  obtain ⟨a23, ea23, g⟩ := e_nn_some h
  clear h
  subst ea23
  have h := g
  clear g
  refine r_iaload (pc := 296) h dX9_laysSlice_296 (fun v24 h => ?_)
  refine r_i2l (pc := 297) h dX9_laysSlice_297 (fun v25 h => ?_)
  refine r_aload_n (pc := 298) dX9_laysSlice_298 rfl rfl ?_
  refine r_gR (pc := 299) h dX9_laysSlice_299 fw_X9_9 rfl (fun r26 h => ?_)
  refine r_iconst (pc := 302) dX9_laysSlice_302 ?_
  obtain ⟨a27, ea27, g⟩ := e_nn_some h
  clear h
  subst ea27
  have h := g
  clear g
  refine r_iaload (pc := 303) h dX9_laysSlice_303 (fun v28 h => ?_)
  refine r_i2l (pc := 304) h dX9_laysSlice_304 (fun v29 h => ?_)
  refine r_lmul (pc := 305) dX9_laysSlice_305 ?_
  refine r_ladd (pc := 306) dX9_laysSlice_306 ?_
  refine r_lmul (pc := 307) dX9_laysSlice_307 ?_
  refine r_pJ (pc := 308) h dX9_laysSlice_308 fw_X9_145 rfl rfl (fun _ hq => by cases hq; rfl) (fun s30 h => ?_)
  exact r_vret (pc := 311) h rfl dX9_laysSlice_311
set_option maxHeartbeats 4000000 in
theorem t_X9_laysSlice_29_b {X : sj_X} {s0 : sj_Mem} {N : Nat} {q : Unit × sj_Mem} {k29 : Nat → Int → Int → Int → Int → Int → sj_Mem → Option (Unit × sj_Mem)} (hk29 : ∀ (a0 : Nat) (x1 : Int) (x2 : Int) (x3 : Int) (x5 : Int) (x7 : Int) (s : sj_Mem), k29 a0 x1 x2 x3 x5 x7 s = some q → sj_T X m_X9_laysSlice s0 (none, q.2) 29 [some (sj_r (some a0)), some (sj_i x1), some (sj_i x2), some (sj_i x3), none, some (sj_j x5), none, some (sj_i x7)] [] s) :
    ∀ (a0 : Nat) (x1 : Int) (x2 : Int) (x3 : Int) (x5 : Int) (x7 : Int) (s : sj_Mem), f_X9_laysSlice_29_b N k29 a0 x1 x2 x3 x5 x7 s = some q → sj_T X m_X9_laysSlice s0 (none, q.2) 29 [some (sj_r (some a0)), some (sj_i x1), some (sj_i x2), some (sj_i x3), none, some (sj_j x5), none, some (sj_i x7)] [] s := by
  intro a0 x1 x2 x3 x5 x7 s h
  unfold f_X9_laysSlice_29_b at h
  refine r_iload (pc := 29) dX9_laysSlice_29 rfl ?_
  refine r_iconst (pc := 31) dX9_laysSlice_31 ?_
  refine r_icmp_ge (pc := 32) (tgt := 110) h dX9_laysSlice_32 (by decide) (fun h => ?_) (fun h => ?_)
  · refine r_aload_n (pc := 110) dX9_laysSlice_110 rfl rfl ?_
    refine r_aload_n (pc := 111) dX9_laysSlice_111 rfl rfl ?_
    refine r_gR (pc := 112) h dX9_laysSlice_112 fw_X9_9 rfl (fun r1 h => ?_)
    refine r_iconst (pc := 115) dX9_laysSlice_115 ?_
    obtain ⟨a2, ea2, g⟩ := e_nn_some h
    clear h
    subst ea2
    have h := g
    clear g
    refine r_iaload (pc := 116) h dX9_laysSlice_116 (fun v3 h => ?_)
    refine r_i2l (pc := 117) h dX9_laysSlice_117 (fun v4 h => ?_)
    refine r_lload (pc := 118) dX9_laysSlice_118 rfl ?_
    refine r_aload_n (pc := 120) dX9_laysSlice_120 rfl rfl ?_
    refine r_gR (pc := 121) h dX9_laysSlice_121 fw_X9_9 rfl (fun r5 h => ?_)
    refine r_bipush (pc := 124) dX9_laysSlice_124 ⟨by decide, by decide⟩ ?_
    refine r_iload_n (pc := 126) dX9_laysSlice_126 rfl rfl ?_
    refine r_iadd (pc := 127) dX9_laysSlice_127 ?_
    obtain ⟨a6, ea6, g⟩ := e_nn_some h
    clear h
    subst ea6
    have h := g
    clear g
    refine r_iaload (pc := 128) h dX9_laysSlice_128 (fun v7 h => ?_)
    refine r_i2l (pc := 129) h dX9_laysSlice_129 (fun v8 h => ?_)
    refine r_ladd (pc := 130) dX9_laysSlice_130 ?_
    refine r_aload_n (pc := 131) dX9_laysSlice_131 rfl rfl ?_
    refine r_gR (pc := 132) h dX9_laysSlice_132 fw_X9_9 rfl (fun r9 h => ?_)
    refine r_bipush (pc := 135) dX9_laysSlice_135 ⟨by decide, by decide⟩ ?_
    refine r_iload_n (pc := 137) dX9_laysSlice_137 rfl rfl ?_
    refine r_iadd (pc := 138) dX9_laysSlice_138 ?_
    refine r_iconst (pc := 139) dX9_laysSlice_139 ?_
    refine r_iadd (pc := 140) dX9_laysSlice_140 ?_
    obtain ⟨a10, ea10, g⟩ := e_nn_some h
    clear h
    subst ea10
    have h := g
    clear g
    refine r_iaload (pc := 141) h dX9_laysSlice_141 (fun v11 h => ?_)
    refine r_i2l (pc := 142) h dX9_laysSlice_142 (fun v12 h => ?_)
    refine r_ladd (pc := 143) dX9_laysSlice_143 ?_
    refine r_lmul (pc := 144) dX9_laysSlice_144 ?_
    refine r_pJ (pc := 145) h dX9_laysSlice_145 fw_X9_124 rfl rfl (fun _ hq => by cases hq; rfl) (fun s13 h => ?_)
    refine r_aload_n (pc := 148) dX9_laysSlice_148 rfl rfl ?_
    refine r_ldc2 (n := 10) (pc := 149) dX9_laysSlice_149 kc_X9_68 ?_
    refine r_aload_n (pc := 152) dX9_laysSlice_152 rfl rfl ?_
    refine r_gR (pc := 153) h dX9_laysSlice_153 fw_X9_9 rfl (fun r14 h => ?_)
    refine r_iconst (pc := 156) dX9_laysSlice_156 ?_
    obtain ⟨a15, ea15, g⟩ := e_nn_some h
    clear h
    subst ea15
    have h := g
    clear g
    refine r_iaload (pc := 157) h dX9_laysSlice_157 (fun v16 h => ?_)
    refine r_i2l (pc := 158) h dX9_laysSlice_158 (fun v17 h => ?_)
    refine r_lmul (pc := 159) dX9_laysSlice_159 ?_
    refine r_iconst (pc := 160) dX9_laysSlice_160 ?_
    refine r_aload_n (pc := 161) dX9_laysSlice_161 rfl rfl ?_
    refine r_iload_n (pc := 162) dX9_laysSlice_162 rfl rfl ?_
    refine r_callV (pc := 163) (fun v => some (sj_i v)) (As := [sj_i x1]) (rest := [(sj_i 0), (sj_j (10 * v17)), (sj_r (some a0))]) h dX9_laysSlice_163 mw_X9_128 vw_X9_water (fun _ _ hc => c_X9_water hc) rfl ⟨(Nat.le_of_ble_eq_true rfl), (Nat.le_of_ble_eq_true rfl)⟩ (Nat.le_of_ble_eq_true rfl) rfl (fun v19 s18 h => ?_)
    refine r_iload_n (pc := 166) dX9_laysSlice_166 rfl rfl ?_
    refine r_isub (pc := 167) dX9_laysSlice_167 ?_
    refine r_callS (pc := 168) (fun v => some (sj_i v)) (As := [sj_i 0, sj_i (v19 - x2)]) (rest := [(sj_j (10 * v17)), (sj_r (some a0))]) h dX9_laysSlice_168 mw_X9_111 kw_1300 (fun _ _ hc => c_X9_most hc) rfl ⟨(Nat.le_of_ble_eq_true rfl), (Nat.le_of_ble_eq_true rfl)⟩ (Nat.le_of_ble_eq_true rfl) rfl (fun v21 s20 h => ?_)
    refine r_iconst (pc := 171) dX9_laysSlice_171 ?_
    refine r_aload_n (pc := 172) dX9_laysSlice_172 rfl rfl ?_
    refine r_iload_n (pc := 173) dX9_laysSlice_173 rfl rfl ?_
    refine r_iconst (pc := 174) dX9_laysSlice_174 ?_
    refine r_iadd (pc := 175) dX9_laysSlice_175 ?_
    refine r_callV (pc := 176) (fun v => some (sj_i v)) (As := [sj_i (x1 + 1)]) (rest := [(sj_i 0), (sj_i v21), (sj_j (10 * v17)), (sj_r (some a0))]) h dX9_laysSlice_176 mw_X9_128 vw_X9_water (fun _ _ hc => c_X9_water hc) rfl ⟨(Nat.le_of_ble_eq_true rfl), (Nat.le_of_ble_eq_true rfl)⟩ (Nat.le_of_ble_eq_true rfl) rfl (fun v23 s22 h => ?_)
    refine r_iload_n (pc := 179) dX9_laysSlice_179 rfl rfl ?_
    refine r_isub (pc := 180) dX9_laysSlice_180 ?_
    refine r_callS (pc := 181) (fun v => some (sj_i v)) (As := [sj_i 0, sj_i (v23 - x3)]) (rest := [(sj_i v21), (sj_j (10 * v17)), (sj_r (some a0))]) h dX9_laysSlice_181 mw_X9_111 kw_1300 (fun _ _ hc => c_X9_most hc) rfl ⟨(Nat.le_of_ble_eq_true rfl), (Nat.le_of_ble_eq_true rfl)⟩ (Nat.le_of_ble_eq_true rfl) rfl (fun v25 s24 h => ?_)
    refine r_iadd (pc := 184) dX9_laysSlice_184 ?_
    refine r_i2l (pc := 185) h dX9_laysSlice_185 (fun v26 h => ?_)
    refine r_lmul (pc := 186) dX9_laysSlice_186 ?_
    refine r_pJ (pc := 187) h dX9_laysSlice_187 fw_X9_132 rfl rfl (fun _ hq => by cases hq; rfl) (fun s27 h => ?_)
    refine r_aload_n (pc := 190) dX9_laysSlice_190 rfl rfl ?_
    refine r_aload_n (pc := 191) dX9_laysSlice_191 rfl rfl ?_
    refine r_gJ (pc := 192) h dX9_laysSlice_192 fw_X9_124 rfl (fun v28 h => ?_)
    refine r_aload_n (pc := 195) dX9_laysSlice_195 rfl rfl ?_
    refine r_gJ (pc := 196) h dX9_laysSlice_196 fw_X9_132 rfl (fun v29 h => ?_)
    refine r_lle (pc := 199) (tgt := 215) h dX9_laysSlice_199 rfl dX9_laysSlice_200 (by decide) (fun h => ?_) (fun h => ?_)
    · refine r_lconst0 (pc := 215) dX9_laysSlice_215 ?_
      exact sj_weak (l2 := [some (sj_r (some a0)), none, none, none, none, none, none, none]) (⟨rfl, trivial⟩) (t_X9_laysSlice_216 a0 0 (some a0) s27 h)
    · refine r_aload_n (pc := 203) dX9_laysSlice_203 rfl rfl ?_
      refine r_gJ (pc := 204) h dX9_laysSlice_204 fw_X9_124 rfl (fun v30 h => ?_)
      refine r_aload_n (pc := 207) dX9_laysSlice_207 rfl rfl ?_
      refine r_gJ (pc := 208) h dX9_laysSlice_208 fw_X9_132 rfl (fun v31 h => ?_)
      refine r_lsub (pc := 211) dX9_laysSlice_211 ?_
      refine r_goto (pc := 212) (tgt := 216) dX9_laysSlice_212 (by decide) ?_
      exact sj_weak (l2 := [some (sj_r (some a0)), none, none, none, none, none, none, none]) (⟨rfl, trivial⟩) (t_X9_laysSlice_216 a0 (v30 - v31) (some a0) s27 h)
  · refine r_lload (pc := 35) dX9_laysSlice_35 rfl ?_
    refine r_aload_n (pc := 37) dX9_laysSlice_37 rfl rfl ?_
    refine r_gR (pc := 38) h dX9_laysSlice_38 fw_X9_9 rfl (fun r32 h => ?_)
    refine r_sipush (pc := 41) dX9_laysSlice_41 ⟨by decide, by decide⟩ ?_
    refine r_iconst (pc := 44) dX9_laysSlice_44 ?_
    refine r_iload (pc := 45) dX9_laysSlice_45 rfl ?_
    refine r_imul (pc := 47) dX9_laysSlice_47 ?_
    refine r_iadd (pc := 48) dX9_laysSlice_48 ?_
    obtain ⟨a33, ea33, g⟩ := e_nn_some h
    clear h
    subst ea33
    have h := g
    clear g
    refine r_iaload (pc := 49) h dX9_laysSlice_49 (fun v34 h => ?_)
    refine r_i2l (pc := 50) h dX9_laysSlice_50 (fun v35 h => ?_)
    refine r_aload_n (pc := 51) dX9_laysSlice_51 rfl rfl ?_
    refine r_iload (pc := 52) dX9_laysSlice_52 rfl ?_
    refine r_iload_n (pc := 54) dX9_laysSlice_54 rfl rfl ?_
    refine r_iload_n (pc := 55) dX9_laysSlice_55 rfl rfl ?_
    refine r_callV (pc := 56) (fun v => some (sj_i v)) (As := [sj_i x7, sj_i x1, sj_i x2]) (rest := [(sj_j v35), (sj_j x5)]) h dX9_laysSlice_56 mw_X9_120 vw_X9_thick (fun _ _ hc => c_X9_thick hc) rfl ⟨(Nat.le_of_ble_eq_true rfl), (Nat.le_of_ble_eq_true rfl)⟩ (Nat.le_of_ble_eq_true rfl) rfl (fun v37 s36 h => ?_)
    refine r_aload_n (pc := 59) dX9_laysSlice_59 rfl rfl ?_
    refine r_iload (pc := 60) dX9_laysSlice_60 rfl ?_
    refine r_iload_n (pc := 62) dX9_laysSlice_62 rfl rfl ?_
    refine r_iconst (pc := 63) dX9_laysSlice_63 ?_
    refine r_iadd (pc := 64) dX9_laysSlice_64 ?_
    refine r_iload_n (pc := 65) dX9_laysSlice_65 rfl rfl ?_
    refine r_callV (pc := 66) (fun v => some (sj_i v)) (As := [sj_i x7, sj_i (x1 + 1), sj_i x3]) (rest := [(sj_i v37), (sj_j v35), (sj_j x5)]) h dX9_laysSlice_66 mw_X9_120 vw_X9_thick (fun _ _ hc => c_X9_thick hc) rfl ⟨(Nat.le_of_ble_eq_true rfl), (Nat.le_of_ble_eq_true rfl)⟩ (Nat.le_of_ble_eq_true rfl) rfl (fun v39 s38 h => ?_)
    refine r_iadd (pc := 69) dX9_laysSlice_69 ?_
    refine r_i2l (pc := 70) h dX9_laysSlice_70 (fun v40 h => ?_)
    refine r_lmul (pc := 71) dX9_laysSlice_71 ?_
    refine r_ladd (pc := 72) dX9_laysSlice_72 ?_
    refine r_lstoreL (ln := fun w => [some (sj_r (some a0)), some (sj_i x1), some (sj_i x2), some (sj_i x3), none, some (sj_j w), none, some (sj_i x7)]) (pc := 73) h dX9_laysSlice_73 (Nat.le_of_ble_eq_true rfl) (fun _ => rfl) (fun v41 h => ?_)
    refine r_aload_n (pc := 75) dX9_laysSlice_75 rfl rfl ?_
    refine r_iload (pc := 76) dX9_laysSlice_76 rfl ?_
    refine r_iload_n (pc := 78) dX9_laysSlice_78 rfl rfl ?_
    refine r_callV (pc := 79) (fun v => some (sj_i v)) (As := [sj_i x7, sj_i x1]) (rest := []) h dX9_laysSlice_79 mw_X9_108 vw_X9_top (fun _ _ hc => c_X9_top hc) rfl ⟨(Nat.le_of_ble_eq_true rfl), (Nat.le_of_ble_eq_true rfl)⟩ (Nat.le_of_ble_eq_true rfl) rfl (fun v43 s42 h => ?_)
    refine r_aload_n (pc := 82) dX9_laysSlice_82 rfl rfl ?_
    refine r_iload (pc := 83) dX9_laysSlice_83 rfl ?_
    refine r_iload_n (pc := 85) dX9_laysSlice_85 rfl rfl ?_
    refine r_iconst (pc := 86) dX9_laysSlice_86 ?_
    refine r_iadd (pc := 87) dX9_laysSlice_87 ?_
    refine r_callV (pc := 88) (fun v => some (sj_i v)) (As := [sj_i x7, sj_i (x1 + 1)]) (rest := [(sj_i v43)]) h dX9_laysSlice_88 mw_X9_108 vw_X9_top (fun _ _ hc => c_X9_top hc) rfl ⟨(Nat.le_of_ble_eq_true rfl), (Nat.le_of_ble_eq_true rfl)⟩ (Nat.le_of_ble_eq_true rfl) rfl (fun v45 s44 h => ?_)
    refine r_iadd (pc := 91) dX9_laysSlice_91 ?_
    refine r_iload_n (pc := 92) dX9_laysSlice_92 rfl rfl ?_
    refine r_iload_n (pc := 93) dX9_laysSlice_93 rfl rfl ?_
    refine r_iadd (pc := 94) dX9_laysSlice_94 ?_
    refine r_icmp_le (pc := 95) (tgt := 104) h dX9_laysSlice_95 (by decide) (fun h => ?_) (fun h => ?_)
    · exact sj_weak (l2 := [some (sj_r (some a0)), some (sj_i x1), some (sj_i x2), some (sj_i x3), none, some (sj_j v41), none, some (sj_i x7)]) (⟨rfl, ⟨rfl, ⟨rfl, ⟨rfl, ⟨rfl, ⟨rfl, trivial⟩⟩⟩⟩⟩⟩) (t_X9_laysSlice_104 hk29 a0 x1 x2 x3 v41 x7 s44 h)
    · refine r_aload_n (pc := 98) dX9_laysSlice_98 rfl rfl ?_
      refine r_iload (pc := 99) dX9_laysSlice_99 rfl ?_
      refine r_pI (pc := 101) h dX9_laysSlice_101 fw_X9_117 rfl rfl (fun _ hq => by cases hq; rfl) (fun s46 h => ?_)
      exact sj_weak (l2 := [some (sj_r (some a0)), some (sj_i x1), some (sj_i x2), some (sj_i x3), none, some (sj_j v41), none, some (sj_i x7)]) (⟨rfl, ⟨rfl, ⟨rfl, ⟨rfl, ⟨rfl, ⟨rfl, trivial⟩⟩⟩⟩⟩⟩) (t_X9_laysSlice_104 hk29 a0 x1 x2 x3 v41 x7 s46 h)
set_option maxHeartbeats 4000000 in
theorem t_X9_laysSlice_29 {X : sj_X} {s0 : sj_Mem} {N : Nat} {q : Unit × sj_Mem} :
    ∀ (n : Nat) (a0 : Nat) (x1 : Int) (x2 : Int) (x3 : Int) (x5 : Int) (x7 : Int) (s : sj_Mem), f_X9_laysSlice_29 N n a0 x1 x2 x3 x5 x7 s = some q → sj_T X m_X9_laysSlice s0 (none, q.2) 29 [some (sj_r (some a0)), some (sj_i x1), some (sj_i x2), some (sj_i x3), none, some (sj_j x5), none, some (sj_i x7)] [] s := by
  intro n
  induction n with
  | zero => intro a0 x1 x2 x3 x5 x7 s h; exact nomatch h
  | succ n ih => intro a0 x1 x2 x3 x5 x7 s h; exact t_X9_laysSlice_29_b (N := N) ih a0 x1 x2 x3 x5 x7 s h
set_option maxHeartbeats 4000000 in
theorem t_X9_laysSlice_15 {X : sj_X} {s0 : sj_Mem} {N : Nat} {q : Unit × sj_Mem} :
    ∀ (a0 : Nat) (x1 : Int) (x2 : Int) (x3 : Int) (y0 : Int) (y1 : Option Nat) (s : sj_Mem), f_X9_laysSlice_15 N a0 x1 x2 x3 y0 y1 s = some q → sj_T X m_X9_laysSlice s0 (none, q.2) 15 [some (sj_r (some a0)), some (sj_i x1), some (sj_i x2), some (sj_i x3), none, none, none, none] [(sj_i y0), (sj_r y1)] s := by
  intro a0 x1 x2 x3 y0 y1 s h
  unfold f_X9_laysSlice_15 at h
  obtain ⟨a1, ea1, g⟩ := e_nn_some h
  clear h
  subst ea1
  have h := g
  clear g
  refine r_pI (pc := 15) h dX9_laysSlice_15 fw_X9_114 rfl rfl (fun _ hq => by cases hq; rfl) (fun s2 h => ?_)
  refine r_lconst0 (pc := 18) dX9_laysSlice_18 ?_
  refine r_lstore (ln := [some (sj_r (some a0)), some (sj_i x1), some (sj_i x2), some (sj_i x3), none, some (sj_j 0), none, none]) (pc := 19) dX9_laysSlice_19 (Nat.le_of_ble_eq_true rfl) rfl ?_
  refine r_aload_n (pc := 21) dX9_laysSlice_21 rfl rfl ?_
  refine r_iconst (pc := 22) dX9_laysSlice_22 ?_
  refine r_pI (pc := 23) h dX9_laysSlice_23 fw_X9_117 rfl rfl (fun _ hq => by cases hq; rfl) (fun s3 h => ?_)
  refine r_iconst (pc := 26) dX9_laysSlice_26 ?_
  refine r_istore (ln := [some (sj_r (some a0)), some (sj_i x1), some (sj_i x2), some (sj_i x3), none, some (sj_j 0), none, some (sj_i 0)]) (pc := 27) dX9_laysSlice_27 (Nat.le_of_ble_eq_true rfl) rfl ?_
  exact sj_weak (l2 := [some (sj_r (some a0)), some (sj_i x1), some (sj_i x2), some (sj_i x3), none, some (sj_j 0), none, some (sj_i 0)]) (⟨rfl, ⟨rfl, ⟨rfl, ⟨rfl, ⟨rfl, ⟨rfl, trivial⟩⟩⟩⟩⟩⟩) (t_X9_laysSlice_29 N a0 x1 x2 x3 0 0 s3 h)
set_option maxHeartbeats 4000000 in
theorem t_X9_laysSlice_0 {X : sj_X} {s0 : sj_Mem} {N : Nat} {q : Unit × sj_Mem} :
    ∀ (a0 : Nat) (x1 : Int) (x2 : Int) (x3 : Int) (x4 : Int) (s : sj_Mem), f_X9_laysSlice N a0 x1 x2 x3 x4 s = some q → sj_T X m_X9_laysSlice s0 (none, q.2) 0 [some (sj_r (some a0)), some (sj_i x1), some (sj_i x2), some (sj_i x3), some (sj_i x4), none, none, none] [] s := by
  intro a0 x1 x2 x3 x4 s h
  unfold f_X9_laysSlice at h
  refine r_aload_n (pc := 0) dX9_laysSlice_0 rfl rfl ?_
  refine r_iload (pc := 1) dX9_laysSlice_1 rfl ?_
  refine r_if_eq (pc := 3) (tgt := 12) h dX9_laysSlice_3 (by decide) (fun h => ?_) (fun h => ?_)
  · refine r_iload_n (pc := 12) dX9_laysSlice_12 rfl rfl ?_
    refine r_iload_n (pc := 13) dX9_laysSlice_13 rfl rfl ?_
    refine r_isub (pc := 14) dX9_laysSlice_14 ?_
    exact sj_weak (l2 := [some (sj_r (some a0)), some (sj_i x1), some (sj_i x2), some (sj_i x3), none, none, none, none]) (⟨rfl, ⟨rfl, ⟨rfl, ⟨rfl, trivial⟩⟩⟩⟩) (t_X9_laysSlice_15 a0 x1 x2 x3 (x2 - x3) (some a0) s h)
  · refine r_iload_n (pc := 6) dX9_laysSlice_6 rfl rfl ?_
    refine r_iload_n (pc := 7) dX9_laysSlice_7 rfl rfl ?_
    refine r_isub (pc := 8) dX9_laysSlice_8 ?_
    refine r_goto (pc := 9) (tgt := 15) dX9_laysSlice_9 (by decide) ?_
    exact sj_weak (l2 := [some (sj_r (some a0)), some (sj_i x1), some (sj_i x2), some (sj_i x3), none, none, none, none]) (⟨rfl, ⟨rfl, ⟨rfl, ⟨rfl, trivial⟩⟩⟩⟩) (t_X9_laysSlice_15 a0 x1 x2 x3 (x3 - x2) (some a0) s h)
set_option maxHeartbeats 4000000 in
theorem c_X9_laysSlice {X : sj_X} {N : Nat} {a0 : Nat} {x1 : Int} {x2 : Int} {x3 : Int} {x4 : Int} {s : sj_Mem} {q : Unit × sj_Mem} (h : f_X9_laysSlice N a0 x1 x2 x3 x4 s = some q) : sj_C X m_X9_laysSlice [sj_r (some a0), sj_i x1, sj_i x2, sj_i x3, sj_i x4] s (none, q.2) :=
  sj_C_of (by decide +kernel) (Nat.le_of_ble_eq_true rfl) (lo := [some (sj_r (some a0)), some (sj_i x1), some (sj_i x2), some (sj_i x3), some (sj_i x4), none, none, none]) rfl (sj_weak (l2 := [some (sj_r (some a0)), some (sj_i x1), some (sj_i x2), some (sj_i x3), some (sj_i x4), none, none, none]) (⟨rfl, ⟨rfl, ⟨rfl, ⟨rfl, ⟨rfl, trivial⟩⟩⟩⟩⟩) (t_X9_laysSlice_0 a0 x1 x2 x3 x4 s h))
theorem dX9_laysAt_0 : decode cX9_laysAt 0 = .ok (.aload_n 0, 1) := by decide +kernel
theorem dX9_laysAt_1 : decode cX9_laysAt 1 = .ok (.iload_n 1, 1) := by decide +kernel
theorem dX9_laysAt_2 : decode cX9_laysAt 2 = .ok (.aload_n 0, 1) := by decide +kernel
theorem dX9_laysAt_3 : decode cX9_laysAt 3 = .ok (.getfield 26, 3) := by decide +kernel
theorem dX9_laysAt_6 : decode cX9_laysAt 6 = .ok (.iload_n 1, 1) := by decide +kernel
theorem dX9_laysAt_7 : decode cX9_laysAt 7 = .ok (.iaload, 1) := by decide +kernel
theorem dX9_laysAt_8 : decode cX9_laysAt 8 = .ok (.aload_n 0, 1) := by decide +kernel
theorem dX9_laysAt_9 : decode cX9_laysAt 9 = .ok (.getfield 26, 3) := by decide +kernel
theorem dX9_laysAt_12 : decode cX9_laysAt 12 = .ok (.iload_n 1, 1) := by decide +kernel
theorem dX9_laysAt_13 : decode cX9_laysAt 13 = .ok (.iconst 1, 1) := by decide +kernel
theorem dX9_laysAt_14 : decode cX9_laysAt 14 = .ok (.iadd, 1) := by decide +kernel
theorem dX9_laysAt_15 : decode cX9_laysAt 15 = .ok (.iaload, 1) := by decide +kernel
theorem dX9_laysAt_16 : decode cX9_laysAt 16 = .ok (.aload_n 0, 1) := by decide +kernel
theorem dX9_laysAt_17 : decode cX9_laysAt 17 = .ok (.getfield 153, 3) := by decide +kernel
theorem dX9_laysAt_20 : decode cX9_laysAt 20 = .ok (.invokevirtual 157, 3) := by decide +kernel
theorem dX9_laysAt_23 : decode cX9_laysAt 23 = .ok (.return_, 1) := by decide +kernel
set_option maxHeartbeats 4000000 in
theorem t_X9_laysAt_0 {X : sj_X} {s0 : sj_Mem} {N : Nat} {q : Unit × sj_Mem} :
    ∀ (a0 : Nat) (x1 : Int) (s : sj_Mem), f_X9_laysAt N a0 x1 s = some q → sj_T X m_X9_laysAt s0 (none, q.2) 0 [some (sj_r (some a0)), some (sj_i x1)] [] s := by
  intro a0 x1 s h
  unfold f_X9_laysAt at h
  refine r_aload_n (pc := 0) dX9_laysAt_0 rfl rfl ?_
  refine r_iload_n (pc := 1) dX9_laysAt_1 rfl rfl ?_
  refine r_aload_n (pc := 2) dX9_laysAt_2 rfl rfl ?_
  refine r_gR (pc := 3) h dX9_laysAt_3 fw_X9_26 rfl (fun r1 h => ?_)
  refine r_iload_n (pc := 6) dX9_laysAt_6 rfl rfl ?_
  obtain ⟨a2, ea2, g⟩ := e_nn_some h
  clear h
  subst ea2
  have h := g
  clear g
  refine r_iaload (pc := 7) h dX9_laysAt_7 (fun v3 h => ?_)
  refine r_aload_n (pc := 8) dX9_laysAt_8 rfl rfl ?_
  refine r_gR (pc := 9) h dX9_laysAt_9 fw_X9_26 rfl (fun r4 h => ?_)
  refine r_iload_n (pc := 12) dX9_laysAt_12 rfl rfl ?_
  refine r_iconst (pc := 13) dX9_laysAt_13 ?_
  refine r_iadd (pc := 14) dX9_laysAt_14 ?_
  obtain ⟨a5, ea5, g⟩ := e_nn_some h
  clear h
  subst ea5
  have h := g
  clear g
  refine r_iaload (pc := 15) h dX9_laysAt_15 (fun v6 h => ?_)
  refine r_aload_n (pc := 16) dX9_laysAt_16 rfl rfl ?_
  refine r_gI (pc := 17) h dX9_laysAt_17 fw_X9_153 rfl (fun v7 h => ?_)
  refine r_callV (pc := 20) (fun _ => none) (As := [sj_i x1, sj_i v3, sj_i v6, sj_i v7]) (rest := []) h dX9_laysAt_20 mw_X9_157 vw_X9_laysSlice (fun _ _ hc => c_X9_laysSlice hc) rfl ⟨(Nat.le_of_ble_eq_true rfl), (Nat.le_of_ble_eq_true rfl)⟩ (Nat.le_of_ble_eq_true rfl) rfl (fun _u s8 h => ?_)
  exact r_vret (pc := 23) h rfl dX9_laysAt_23
set_option maxHeartbeats 4000000 in
theorem c_X9_laysAt {X : sj_X} {N : Nat} {a0 : Nat} {x1 : Int} {s : sj_Mem} {q : Unit × sj_Mem} (h : f_X9_laysAt N a0 x1 s = some q) : sj_C X m_X9_laysAt [sj_r (some a0), sj_i x1] s (none, q.2) :=
  sj_C_of (by decide +kernel) (Nat.le_of_ble_eq_true rfl) (lo := [some (sj_r (some a0)), some (sj_i x1)]) rfl (sj_weak (l2 := [some (sj_r (some a0)), some (sj_i x1)]) (⟨rfl, ⟨rfl, trivial⟩⟩) (t_X9_laysAt_0 a0 x1 s h))
theorem dX9_rubsOf_0 : decode cX9_rubsOf 0 = .ok (.aload_n 0, 1) := by decide +kernel
theorem dX9_rubsOf_1 : decode cX9_rubsOf 1 = .ok (.getfield 9, 3) := by decide +kernel
theorem dX9_rubsOf_4 : decode cX9_rubsOf 4 = .ok (.iconst 1, 1) := by decide +kernel
theorem dX9_rubsOf_5 : decode cX9_rubsOf 5 = .ok (.iaload, 1) := by decide +kernel
theorem dX9_rubsOf_6 : decode cX9_rubsOf 6 = .ok (.i2l, 1) := by decide +kernel
theorem dX9_rubsOf_7 : decode cX9_rubsOf 7 = .ok (.iload_n 1, 1) := by decide +kernel
theorem dX9_rubsOf_8 : decode cX9_rubsOf 8 = .ok (.i2l, 1) := by decide +kernel
theorem dX9_rubsOf_9 : decode cX9_rubsOf 9 = .ok (.lmul, 1) := by decide +kernel
theorem dX9_rubsOf_10 : decode cX9_rubsOf 10 = .ok (.aload_n 0, 1) := by decide +kernel
theorem dX9_rubsOf_11 : decode cX9_rubsOf 11 = .ok (.getfield 114, 3) := by decide +kernel
theorem dX9_rubsOf_14 : decode cX9_rubsOf 14 = .ok (.i2l, 1) := by decide +kernel
theorem dX9_rubsOf_15 : decode cX9_rubsOf 15 = .ok (.aload_n 0, 1) := by decide +kernel
theorem dX9_rubsOf_16 : decode cX9_rubsOf 16 = .ok (.getfield 9, 3) := by decide +kernel
theorem dX9_rubsOf_19 : decode cX9_rubsOf 19 = .ok (.sipush 290, 3) := by decide +kernel
theorem dX9_rubsOf_22 : decode cX9_rubsOf 22 = .ok (.iconst 3, 1) := by decide +kernel
theorem dX9_rubsOf_23 : decode cX9_rubsOf 23 = .ok (.aload_n 0, 1) := by decide +kernel
theorem dX9_rubsOf_24 : decode cX9_rubsOf 24 = .ok (.getfield 117, 3) := by decide +kernel
theorem dX9_rubsOf_27 : decode cX9_rubsOf 27 = .ok (.imul, 1) := by decide +kernel
theorem dX9_rubsOf_28 : decode cX9_rubsOf 28 = .ok (.iadd, 1) := by decide +kernel
theorem dX9_rubsOf_29 : decode cX9_rubsOf 29 = .ok (.iconst 2, 1) := by decide +kernel
theorem dX9_rubsOf_30 : decode cX9_rubsOf 30 = .ok (.iadd, 1) := by decide +kernel
theorem dX9_rubsOf_31 : decode cX9_rubsOf 31 = .ok (.iaload, 1) := by decide +kernel
theorem dX9_rubsOf_32 : decode cX9_rubsOf 32 = .ok (.i2l, 1) := by decide +kernel
theorem dX9_rubsOf_33 : decode cX9_rubsOf 33 = .ok (.lmul, 1) := by decide +kernel
theorem dX9_rubsOf_34 : decode cX9_rubsOf 34 = .ok (.ladd, 1) := by decide +kernel
theorem dX9_rubsOf_35 : decode cX9_rubsOf 35 = .ok (.lstore_n 2, 1) := by decide +kernel
theorem dX9_rubsOf_36 : decode cX9_rubsOf 36 = .ok (.lload_n 2, 1) := by decide +kernel
theorem dX9_rubsOf_37 : decode cX9_rubsOf 37 = .ok (.lconst 0, 1) := by decide +kernel
theorem dX9_rubsOf_38 : decode cX9_rubsOf 38 = .ok (.lcmp, 1) := by decide +kernel
theorem dX9_rubsOf_39 : decode cX9_rubsOf 39 = .ok (.ifCond .gt 9, 3) := by decide +kernel
theorem dX9_rubsOf_42 : decode cX9_rubsOf 42 = .ok (.ldc2_w 148, 3) := by decide +kernel
theorem dX9_rubsOf_45 : decode cX9_rubsOf 45 = .ok (.goto 40, 3) := by decide +kernel
theorem dX9_rubsOf_48 : decode cX9_rubsOf 48 = .ok (.aload_n 0, 1) := by decide +kernel
theorem dX9_rubsOf_49 : decode cX9_rubsOf 49 = .ok (.getfield 140, 3) := by decide +kernel
theorem dX9_rubsOf_52 : decode cX9_rubsOf 52 = .ok (.aload_n 0, 1) := by decide +kernel
theorem dX9_rubsOf_53 : decode cX9_rubsOf 53 = .ok (.getfield 9, 3) := by decide +kernel
theorem dX9_rubsOf_56 : decode cX9_rubsOf 56 = .ok (.iconst 1, 1) := by decide +kernel
theorem dX9_rubsOf_57 : decode cX9_rubsOf 57 = .ok (.iaload, 1) := by decide +kernel
theorem dX9_rubsOf_58 : decode cX9_rubsOf 58 = .ok (.i2l, 1) := by decide +kernel
theorem dX9_rubsOf_59 : decode cX9_rubsOf 59 = .ok (.aload_n 0, 1) := by decide +kernel
theorem dX9_rubsOf_60 : decode cX9_rubsOf 60 = .ok (.getfield 9, 3) := by decide +kernel
theorem dX9_rubsOf_63 : decode cX9_rubsOf 63 = .ok (.iconst 1, 1) := by decide +kernel
theorem dX9_rubsOf_64 : decode cX9_rubsOf 64 = .ok (.iaload, 1) := by decide +kernel
theorem dX9_rubsOf_65 : decode cX9_rubsOf 65 = .ok (.i2l, 1) := by decide +kernel
theorem dX9_rubsOf_66 : decode cX9_rubsOf 66 = .ok (.lmul, 1) := by decide +kernel
theorem dX9_rubsOf_67 : decode cX9_rubsOf 67 = .ok (.aload_n 0, 1) := by decide +kernel
theorem dX9_rubsOf_68 : decode cX9_rubsOf 68 = .ok (.getfield 114, 3) := by decide +kernel
theorem dX9_rubsOf_71 : decode cX9_rubsOf 71 = .ok (.i2l, 1) := by decide +kernel
theorem dX9_rubsOf_72 : decode cX9_rubsOf 72 = .ok (.aload_n 0, 1) := by decide +kernel
theorem dX9_rubsOf_73 : decode cX9_rubsOf 73 = .ok (.getfield 114, 3) := by decide +kernel
theorem dX9_rubsOf_76 : decode cX9_rubsOf 76 = .ok (.i2l, 1) := by decide +kernel
theorem dX9_rubsOf_77 : decode cX9_rubsOf 77 = .ok (.lmul, 1) := by decide +kernel
theorem dX9_rubsOf_78 : decode cX9_rubsOf 78 = .ok (.ladd, 1) := by decide +kernel
theorem dX9_rubsOf_79 : decode cX9_rubsOf 79 = .ok (.lmul, 1) := by decide +kernel
theorem dX9_rubsOf_80 : decode cX9_rubsOf 80 = .ok (.iload_n 1, 1) := by decide +kernel
theorem dX9_rubsOf_81 : decode cX9_rubsOf 81 = .ok (.i2l, 1) := by decide +kernel
theorem dX9_rubsOf_82 : decode cX9_rubsOf 82 = .ok (.lmul, 1) := by decide +kernel
theorem dX9_rubsOf_83 : decode cX9_rubsOf 83 = .ok (.lload_n 2, 1) := by decide +kernel
theorem dX9_rubsOf_84 : decode cX9_rubsOf 84 = .ok (.ldiv, 1) := by decide +kernel
theorem dX9_rubsOf_85 : decode cX9_rubsOf 85 = .ok (.lreturn, 1) := by decide +kernel
set_option maxHeartbeats 4000000 in
theorem t_X9_rubsOf_0 {X : sj_X} {s0 : sj_Mem} {N : Nat} {q : Int × sj_Mem} :
    ∀ (a0 : Nat) (x1 : Int) (s : sj_Mem), f_X9_rubsOf N a0 x1 s = some q → sj_T X m_X9_rubsOf s0 (some (sj_j q.1), q.2) 0 [some (sj_r (some a0)), some (sj_i x1), none, none] [] s := by
  intro a0 x1 s h
  unfold f_X9_rubsOf at h
  refine r_aload_n (pc := 0) dX9_rubsOf_0 rfl rfl ?_
  refine r_gR (pc := 1) h dX9_rubsOf_1 fw_X9_9 rfl (fun r1 h => ?_)
  refine r_iconst (pc := 4) dX9_rubsOf_4 ?_
  obtain ⟨a2, ea2, g⟩ := e_nn_some h
  clear h
  subst ea2
  have h := g
  clear g
  refine r_iaload (pc := 5) h dX9_rubsOf_5 (fun v3 h => ?_)
  refine r_i2l (pc := 6) h dX9_rubsOf_6 (fun v4 h => ?_)
  refine r_iload_n (pc := 7) dX9_rubsOf_7 rfl rfl ?_
  refine r_i2l (pc := 8) h dX9_rubsOf_8 (fun v5 h => ?_)
  refine r_lmul (pc := 9) dX9_rubsOf_9 ?_
  refine r_aload_n (pc := 10) dX9_rubsOf_10 rfl rfl ?_
  refine r_gI (pc := 11) h dX9_rubsOf_11 fw_X9_114 rfl (fun v6 h => ?_)
  refine r_i2l (pc := 14) h dX9_rubsOf_14 (fun v7 h => ?_)
  refine r_aload_n (pc := 15) dX9_rubsOf_15 rfl rfl ?_
  refine r_gR (pc := 16) h dX9_rubsOf_16 fw_X9_9 rfl (fun r8 h => ?_)
  refine r_sipush (pc := 19) dX9_rubsOf_19 ⟨by decide, by decide⟩ ?_
  refine r_iconst (pc := 22) dX9_rubsOf_22 ?_
  refine r_aload_n (pc := 23) dX9_rubsOf_23 rfl rfl ?_
  refine r_gI (pc := 24) h dX9_rubsOf_24 fw_X9_117 rfl (fun v9 h => ?_)
  refine r_imul (pc := 27) dX9_rubsOf_27 ?_
  refine r_iadd (pc := 28) dX9_rubsOf_28 ?_
  refine r_iconst (pc := 29) dX9_rubsOf_29 ?_
  refine r_iadd (pc := 30) dX9_rubsOf_30 ?_
  obtain ⟨a10, ea10, g⟩ := e_nn_some h
  clear h
  subst ea10
  have h := g
  clear g
  refine r_iaload (pc := 31) h dX9_rubsOf_31 (fun v11 h => ?_)
  refine r_i2l (pc := 32) h dX9_rubsOf_32 (fun v12 h => ?_)
  refine r_lmul (pc := 33) dX9_rubsOf_33 ?_
  refine r_ladd (pc := 34) dX9_rubsOf_34 ?_
  refine r_lstore_nL (ln := fun w => [some (sj_r (some a0)), some (sj_i x1), some (sj_j w), none]) (pc := 35) h dX9_rubsOf_35 rfl (Nat.le_of_ble_eq_true rfl) (fun _ => rfl) (fun v13 h => ?_)
  refine r_lload_n (pc := 36) dX9_rubsOf_36 rfl rfl ?_
  refine r_lconst0 (pc := 37) dX9_rubsOf_37 ?_
  refine r_lgt (pc := 38) (tgt := 48) h dX9_rubsOf_38 rfl dX9_rubsOf_39 (by decide) (fun h => ?_) (fun h => ?_)
  · refine r_aload_n (pc := 48) dX9_rubsOf_48 rfl rfl ?_
    refine r_gJ (pc := 49) h dX9_rubsOf_49 fw_X9_140 rfl (fun v14 h => ?_)
    refine r_aload_n (pc := 52) dX9_rubsOf_52 rfl rfl ?_
    refine r_gR (pc := 53) h dX9_rubsOf_53 fw_X9_9 rfl (fun r15 h => ?_)
    refine r_iconst (pc := 56) dX9_rubsOf_56 ?_
    obtain ⟨a16, ea16, g⟩ := e_nn_some h
    clear h
    subst ea16
    have h := g
    clear g
    refine r_iaload (pc := 57) h dX9_rubsOf_57 (fun v17 h => ?_)
    refine r_i2l (pc := 58) h dX9_rubsOf_58 (fun v18 h => ?_)
    refine r_aload_n (pc := 59) dX9_rubsOf_59 rfl rfl ?_
    refine r_gR (pc := 60) h dX9_rubsOf_60 fw_X9_9 rfl (fun r19 h => ?_)
    refine r_iconst (pc := 63) dX9_rubsOf_63 ?_
    obtain ⟨a20, ea20, g⟩ := e_nn_some h
    clear h
    subst ea20
    have h := g
    clear g
    refine r_iaload (pc := 64) h dX9_rubsOf_64 (fun v21 h => ?_)
    refine r_i2l (pc := 65) h dX9_rubsOf_65 (fun v22 h => ?_)
    refine r_lmul (pc := 66) dX9_rubsOf_66 ?_
    refine r_aload_n (pc := 67) dX9_rubsOf_67 rfl rfl ?_
    refine r_gI (pc := 68) h dX9_rubsOf_68 fw_X9_114 rfl (fun v23 h => ?_)
    refine r_i2l (pc := 71) h dX9_rubsOf_71 (fun v24 h => ?_)
    refine r_aload_n (pc := 72) dX9_rubsOf_72 rfl rfl ?_
    refine r_gI (pc := 73) h dX9_rubsOf_73 fw_X9_114 rfl (fun v25 h => ?_)
    refine r_i2l (pc := 76) h dX9_rubsOf_76 (fun v26 h => ?_)
    refine r_lmul (pc := 77) dX9_rubsOf_77 ?_
    refine r_ladd (pc := 78) dX9_rubsOf_78 ?_
    refine r_lmul (pc := 79) dX9_rubsOf_79 ?_
    refine r_iload_n (pc := 80) dX9_rubsOf_80 rfl rfl ?_
    refine r_i2l (pc := 81) h dX9_rubsOf_81 (fun v27 h => ?_)
    refine r_lmul (pc := 82) dX9_rubsOf_82 ?_
    refine r_lload_n (pc := 83) dX9_rubsOf_83 rfl rfl ?_
    refine r_ldiv (pc := 84) h dX9_rubsOf_84 (fun v28 h => ?_)
    exact r_lret (pc := 85) h rfl dX9_rubsOf_85
  · refine r_ldc2 (n := -1) (pc := 42) dX9_rubsOf_42 kc_X9_148 ?_
    refine r_goto (pc := 45) (tgt := 85) dX9_rubsOf_45 (by decide) ?_
    exact r_lret (pc := 85) h rfl dX9_rubsOf_85
set_option maxHeartbeats 4000000 in
theorem c_X9_rubsOf {X : sj_X} {N : Nat} {a0 : Nat} {x1 : Int} {s : sj_Mem} {q : Int × sj_Mem} (h : f_X9_rubsOf N a0 x1 s = some q) : sj_C X m_X9_rubsOf [sj_r (some a0), sj_i x1] s (some (sj_j q.1), q.2) :=
  sj_C_of (by decide +kernel) (Nat.le_of_ble_eq_true rfl) (lo := [some (sj_r (some a0)), some (sj_i x1), none, none]) rfl (sj_weak (l2 := [some (sj_r (some a0)), some (sj_i x1), none, none]) (⟨rfl, ⟨rfl, trivial⟩⟩) (t_X9_rubsOf_0 a0 x1 s h))
