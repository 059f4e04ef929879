theorem dX9_mirror_0 : decode cX9_mirror 0 = .ok (.aload_n 0, 1) := by decide +kernel
theorem dX9_mirror_1 : decode cX9_mirror 1 = .ok (.aload_n 0, 1) := by decide +kernel
theorem dX9_mirror_2 : decode cX9_mirror 2 = .ok (.getfield 9, 3) := by decide +kernel
theorem dX9_mirror_5 : decode cX9_mirror 5 = .ok (.invokevirtual 70, 3) := by decide +kernel
theorem dX9_mirror_8 : decode cX9_mirror 8 = .ok (.aload_n 0, 1) := by decide +kernel
theorem dX9_mirror_9 : decode cX9_mirror 9 = .ok (.iconst 3, 1) := by decide +kernel
theorem dX9_mirror_10 : decode cX9_mirror 10 = .ok (.invokevirtual 88, 3) := by decide +kernel
theorem dX9_mirror_13 : decode cX9_mirror 13 = .ok (.aload_n 0, 1) := by decide +kernel
theorem dX9_mirror_14 : decode cX9_mirror 14 = .ok (.bipush 44, 2) := by decide +kernel
theorem dX9_mirror_16 : decode cX9_mirror 16 = .ok (.invokevirtual 88, 3) := by decide +kernel
theorem dX9_mirror_19 : decode cX9_mirror 19 = .ok (.aload_n 0, 1) := by decide +kernel
theorem dX9_mirror_20 : decode cX9_mirror 20 = .ok (.bipush 85, 2) := by decide +kernel
theorem dX9_mirror_22 : decode cX9_mirror 22 = .ok (.invokevirtual 88, 3) := by decide +kernel
theorem dX9_mirror_25 : decode cX9_mirror 25 = .ok (.aload_n 0, 1) := by decide +kernel
theorem dX9_mirror_26 : decode cX9_mirror 26 = .ok (.bipush 126, 2) := by decide +kernel
theorem dX9_mirror_28 : decode cX9_mirror 28 = .ok (.invokevirtual 88, 3) := by decide +kernel
theorem dX9_mirror_31 : decode cX9_mirror 31 = .ok (.iconst 0, 1) := by decide +kernel
theorem dX9_mirror_32 : decode cX9_mirror 32 = .ok (.istore_n 1, 1) := by decide +kernel
theorem dX9_mirror_33 : decode cX9_mirror 33 = .ok (.iload_n 1, 1) := by decide +kernel
theorem dX9_mirror_34 : decode cX9_mirror 34 = .ok (.iconst 3, 1) := by decide +kernel
theorem dX9_mirror_35 : decode cX9_mirror 35 = .ok (.if_icmp .ge 21, 3) := by decide +kernel
theorem dX9_mirror_38 : decode cX9_mirror 38 = .ok (.aload_n 0, 1) := by decide +kernel
theorem dX9_mirror_39 : decode cX9_mirror 39 = .ok (.sipush 167, 3) := by decide +kernel
theorem dX9_mirror_42 : decode cX9_mirror 42 = .ok (.bipush 41, 2) := by decide +kernel
theorem dX9_mirror_44 : decode cX9_mirror 44 = .ok (.iload_n 1, 1) := by decide +kernel
theorem dX9_mirror_45 : decode cX9_mirror 45 = .ok (.imul, 1) := by decide +kernel
theorem dX9_mirror_46 : decode cX9_mirror 46 = .ok (.iadd, 1) := by decide +kernel
theorem dX9_mirror_47 : decode cX9_mirror 47 = .ok (.invokevirtual 88, 3) := by decide +kernel
theorem dX9_mirror_50 : decode cX9_mirror 50 = .ok (.iinc 1 1, 3) := by decide +kernel
theorem dX9_mirror_53 : decode cX9_mirror 53 = .ok (.goto (-20), 3) := by decide +kernel
theorem dX9_mirror_56 : decode cX9_mirror 56 = .ok (.iconst 0, 1) := by decide +kernel
theorem dX9_mirror_57 : decode cX9_mirror 57 = .ok (.istore_n 1, 1) := by decide +kernel
theorem dX9_mirror_58 : decode cX9_mirror 58 = .ok (.iload_n 1, 1) := by decide +kernel
theorem dX9_mirror_59 : decode cX9_mirror 59 = .ok (.bipush 6, 2) := by decide +kernel
theorem dX9_mirror_61 : decode cX9_mirror 61 = .ok (.if_icmp .ge 57, 3) := by decide +kernel
theorem dX9_mirror_64 : decode cX9_mirror 64 = .ok (.aload_n 0, 1) := by decide +kernel
theorem dX9_mirror_65 : decode cX9_mirror 65 = .ok (.getfield 9, 3) := by decide +kernel
theorem dX9_mirror_68 : decode cX9_mirror 68 = .ok (.sipush 302, 3) := by decide +kernel
theorem dX9_mirror_71 : decode cX9_mirror 71 = .ok (.iconst 3, 1) := by decide +kernel
theorem dX9_mirror_72 : decode cX9_mirror 72 = .ok (.iload_n 1, 1) := by decide +kernel
theorem dX9_mirror_73 : decode cX9_mirror 73 = .ok (.imul, 1) := by decide +kernel
theorem dX9_mirror_74 : decode cX9_mirror 74 = .ok (.iadd, 1) := by decide +kernel
theorem dX9_mirror_75 : decode cX9_mirror 75 = .ok (.iconst 2, 1) := by decide +kernel
theorem dX9_mirror_76 : decode cX9_mirror 76 = .ok (.iadd, 1) := by decide +kernel
theorem dX9_mirror_77 : decode cX9_mirror 77 = .ok (.iaload, 1) := by decide +kernel
theorem dX9_mirror_78 : decode cX9_mirror 78 = .ok (.ifCond .le 34, 3) := by decide +kernel
theorem dX9_mirror_81 : decode cX9_mirror 81 = .ok (.aload_n 0, 1) := by decide +kernel
theorem dX9_mirror_82 : decode cX9_mirror 82 = .ok (.getfield 9, 3) := by decide +kernel
theorem dX9_mirror_85 : decode cX9_mirror 85 = .ok (.sipush 302, 3) := by decide +kernel
theorem dX9_mirror_88 : decode cX9_mirror 88 = .ok (.iconst 3, 1) := by decide +kernel
theorem dX9_mirror_89 : decode cX9_mirror 89 = .ok (.iload_n 1, 1) := by decide +kernel
theorem dX9_mirror_90 : decode cX9_mirror 90 = .ok (.imul, 1) := by decide +kernel
theorem dX9_mirror_91 : decode cX9_mirror 91 = .ok (.iadd, 1) := by decide +kernel
theorem dX9_mirror_92 : decode cX9_mirror 92 = .ok (.aload_n 0, 1) := by decide +kernel
theorem dX9_mirror_93 : decode cX9_mirror 93 = .ok (.getfield 9, 3) := by decide +kernel
theorem dX9_mirror_96 : decode cX9_mirror 96 = .ok (.iconst 0, 1) := by decide +kernel
theorem dX9_mirror_97 : decode cX9_mirror 97 = .ok (.iaload, 1) := by decide +kernel
theorem dX9_mirror_98 : decode cX9_mirror 98 = .ok (.aload_n 0, 1) := by decide +kernel
theorem dX9_mirror_99 : decode cX9_mirror 99 = .ok (.getfield 9, 3) := by decide +kernel
theorem dX9_mirror_102 : decode cX9_mirror 102 = .ok (.sipush 302, 3) := by decide +kernel
theorem dX9_mirror_105 : decode cX9_mirror 105 = .ok (.iconst 3, 1) := by decide +kernel
theorem dX9_mirror_106 : decode cX9_mirror 106 = .ok (.iload_n 1, 1) := by decide +kernel
theorem dX9_mirror_107 : decode cX9_mirror 107 = .ok (.imul, 1) := by decide +kernel
theorem dX9_mirror_108 : decode cX9_mirror 108 = .ok (.iadd, 1) := by decide +kernel
theorem dX9_mirror_109 : decode cX9_mirror 109 = .ok (.iaload, 1) := by decide +kernel
theorem dX9_mirror_110 : decode cX9_mirror 110 = .ok (.isub, 1) := by decide +kernel
theorem dX9_mirror_111 : decode cX9_mirror 111 = .ok (.iastore, 1) := by decide +kernel
theorem dX9_mirror_112 : decode cX9_mirror 112 = .ok (.iinc 1 1, 3) := by decide +kernel
theorem dX9_mirror_115 : decode cX9_mirror 115 = .ok (.goto (-57), 3) := by decide +kernel
theorem dX9_mirror_118 : decode cX9_mirror 118 = .ok (.aload_n 0, 1) := by decide +kernel
theorem dX9_mirror_119 : decode cX9_mirror 119 = .ok (.invokevirtual 92, 3) := by decide +kernel
theorem dX9_mirror_122 : decode cX9_mirror 122 = .ok (.ifCond .ne 5, 3) := by decide +kernel
theorem dX9_mirror_125 : decode cX9_mirror 125 = .ok (.iconst 0, 1) := by decide +kernel
theorem dX9_mirror_126 : decode cX9_mirror 126 = .ok (.ireturn, 1) := by decide +kernel
theorem dX9_mirror_127 : decode cX9_mirror 127 = .ok (.aload_n 0, 1) := by decide +kernel
theorem dX9_mirror_128 : decode cX9_mirror 128 = .ok (.sipush 323, 3) := by decide +kernel
theorem dX9_mirror_131 : decode cX9_mirror 131 = .ok (.invokevirtual 88, 3) := by decide +kernel
theorem dX9_mirror_134 : decode cX9_mirror 134 = .ok (.aload_n 0, 1) := by decide +kernel
theorem dX9_mirror_135 : decode cX9_mirror 135 = .ok (.getfield 9, 3) := by decide +kernel
theorem dX9_mirror_138 : decode cX9_mirror 138 = .ok (.iconst 0, 1) := by decide +kernel
theorem dX9_mirror_139 : decode cX9_mirror 139 = .ok (.iaload, 1) := by decide +kernel
theorem dX9_mirror_140 : decode cX9_mirror 140 = .ok (.aload_n 0, 1) := by decide +kernel
theorem dX9_mirror_141 : decode cX9_mirror 141 = .ok (.getfield 9, 3) := by decide +kernel
theorem dX9_mirror_144 : decode cX9_mirror 144 = .ok (.sipush 321, 3) := by decide +kernel
theorem dX9_mirror_147 : decode cX9_mirror 147 = .ok (.iaload, 1) := by decide +kernel
theorem dX9_mirror_148 : decode cX9_mirror 148 = .ok (.isub, 1) := by decide +kernel
theorem dX9_mirror_149 : decode cX9_mirror 149 = .ok (.istore_n 1, 1) := by decide +kernel
theorem dX9_mirror_150 : decode cX9_mirror 150 = .ok (.aload_n 0, 1) := by decide +kernel
theorem dX9_mirror_151 : decode cX9_mirror 151 = .ok (.getfield 9, 3) := by decide +kernel
theorem dX9_mirror_154 : decode cX9_mirror 154 = .ok (.sipush 321, 3) := by decide +kernel
theorem dX9_mirror_157 : decode cX9_mirror 157 = .ok (.aload_n 0, 1) := by decide +kernel
theorem dX9_mirror_158 : decode cX9_mirror 158 = .ok (.getfield 9, 3) := by decide +kernel
theorem dX9_mirror_161 : decode cX9_mirror 161 = .ok (.iconst 0, 1) := by decide +kernel
theorem dX9_mirror_162 : decode cX9_mirror 162 = .ok (.iaload, 1) := by decide +kernel
theorem dX9_mirror_163 : decode cX9_mirror 163 = .ok (.aload_n 0, 1) := by decide +kernel
theorem dX9_mirror_164 : decode cX9_mirror 164 = .ok (.getfield 9, 3) := by decide +kernel
theorem dX9_mirror_167 : decode cX9_mirror 167 = .ok (.sipush 320, 3) := by decide +kernel
theorem dX9_mirror_170 : decode cX9_mirror 170 = .ok (.iaload, 1) := by decide +kernel
theorem dX9_mirror_171 : decode cX9_mirror 171 = .ok (.isub, 1) := by decide +kernel
theorem dX9_mirror_172 : decode cX9_mirror 172 = .ok (.iastore, 1) := by decide +kernel
theorem dX9_mirror_173 : decode cX9_mirror 173 = .ok (.aload_n 0, 1) := by decide +kernel
theorem dX9_mirror_174 : decode cX9_mirror 174 = .ok (.getfield 9, 3) := by decide +kernel
theorem dX9_mirror_177 : decode cX9_mirror 177 = .ok (.sipush 320, 3) := by decide +kernel
theorem dX9_mirror_180 : decode cX9_mirror 180 = .ok (.iload_n 1, 1) := by decide +kernel
theorem dX9_mirror_181 : decode cX9_mirror 181 = .ok (.iastore, 1) := by decide +kernel
theorem dX9_mirror_182 : decode cX9_mirror 182 = .ok (.aload_n 0, 1) := by decide +kernel
theorem dX9_mirror_183 : decode cX9_mirror 183 = .ok (.getfield 9, 3) := by decide +kernel
theorem dX9_mirror_186 : decode cX9_mirror 186 = .ok (.sipush 322, 3) := by decide +kernel
theorem dX9_mirror_189 : decode cX9_mirror 189 = .ok (.iconst 1, 1) := by decide +kernel
theorem dX9_mirror_190 : decode cX9_mirror 190 = .ok (.aload_n 0, 1) := by decide +kernel
theorem dX9_mirror_191 : decode cX9_mirror 191 = .ok (.getfield 9, 3) := by decide +kernel
theorem dX9_mirror_194 : decode cX9_mirror 194 = .ok (.sipush 322, 3) := by decide +kernel
theorem dX9_mirror_197 : decode cX9_mirror 197 = .ok (.iaload, 1) := by decide +kernel
theorem dX9_mirror_198 : decode cX9_mirror 198 = .ok (.isub, 1) := by decide +kernel
theorem dX9_mirror_199 : decode cX9_mirror 199 = .ok (.iastore, 1) := by decide +kernel
theorem dX9_mirror_200 : decode cX9_mirror 200 = .ok (.iconst 1, 1) := by decide +kernel
theorem dX9_mirror_201 : decode cX9_mirror 201 = .ok (.ireturn, 1) := by decide +kernel
set_option maxHeartbeats 4000000 in
theorem st_X9_mirror_112 {X : sj_X} {g : sj_G} {s0 : sj_Mem} {N : Nat} {q : Int × sj_VV} {k58 : Nat → Int → sj_VV → Option (Int × sj_VV)} (hk58 : ∀ (a0 : Nat) (x1 : Int) (V : sj_VV), OK9 g a0 → k58 a0 x1 V = some q → sj_T X m_X9_mirror s0 (some (sj_i q.1), (g, q.2)) 58 [some (sj_r (some a0)), some (sj_i x1)] [] (g, V)) :
    ∀ (a0 : Nat) (x1 : Int) (V : sj_VV), OK9 g a0 → g_X9_mirror_112 N k58 a0 x1 V = some q → sj_T X m_X9_mirror s0 (some (sj_i q.1), (g, q.2)) 112 [some (sj_r (some a0)), some (sj_i x1)] [] (g, V) := by
  intro a0 x1 V ha0 h
  unfold g_X9_mirror_112 at h
  refine r_iinc (ln := fun w => [some (sj_r (some a0)), some (sj_i w)]) (pc := 112) h dX9_mirror_112 rfl (Nat.le_of_ble_eq_true rfl) (fun _ => rfl) (fun v1 h => ?_)
  refine r_goto (pc := 115) (tgt := 58) dX9_mirror_115 (by decide) ?_
  exact sj_weak (l2 := [some (sj_r (some a0)), some (sj_i v1)]) (⟨rfl, ⟨rfl, trivial⟩⟩) (hk58 a0 v1 V ha0 h)
set_option maxHeartbeats 4000000 in
theorem st_X9_mirror_58_b {X : sj_X} {g : sj_G} {s0 : sj_Mem} {N : Nat} {q : Int × sj_VV} {k58 : Nat → Int → sj_VV → Option (Int × sj_VV)} (hk58 : ∀ (a0 : Nat) (x1 : Int) (V : sj_VV), OK9 g a0 → k58 a0 x1 V = some q → sj_T X m_X9_mirror s0 (some (sj_i q.1), (g, q.2)) 58 [some (sj_r (some a0)), some (sj_i x1)] [] (g, V)) :
    ∀ (a0 : Nat) (x1 : Int) (V : sj_VV), OK9 g a0 → g_X9_mirror_58_b N k58 a0 x1 V = some q → sj_T X m_X9_mirror s0 (some (sj_i q.1), (g, q.2)) 58 [some (sj_r (some a0)), some (sj_i x1)] [] (g, V) := by
  intro a0 x1 V ha0 h
  unfold g_X9_mirror_58_b at h
  refine r_iload_n (pc := 58) dX9_mirror_58 rfl rfl ?_
  refine r_bipush (pc := 59) dX9_mirror_59 ⟨by decide, by decide⟩ ?_
  refine r_icmp_ge (pc := 61) (tgt := 118) h dX9_mirror_61 (by decide) (fun h => ?_) (fun h => ?_)
  · refine r_aload_n (pc := 118) dX9_mirror_118 rfl rfl ?_
    refine r_callVs (pc := 119) (fun v => some (sj_i v)) (As := []) (rest := []) (b := a0) (ok9 ha0) h dX9_mirror_119 mw_X9_92 vw_X9_hasSlip (fun _ _ hc => cg_X9_hasSlip ha0 hc) rfl ⟨(Nat.le_of_ble_eq_true rfl), (Nat.le_of_ble_eq_true rfl)⟩ (Nat.le_of_ble_eq_true rfl) rfl (fun v2 V1 h => ?_)
    refine r_if_ne (pc := 122) (tgt := 127) h dX9_mirror_122 (by decide) (fun h => ?_) (fun h => ?_)
    · refine r_iconst (pc := 125) dX9_mirror_125 ?_
      exact r_zrets (pc := 126) h rfl dX9_mirror_126
    · refine r_aload_n (pc := 127) dX9_mirror_127 rfl rfl ?_
      refine r_sipush (pc := 128) dX9_mirror_128 ⟨by decide, by decide⟩ ?_
      refine r_callVs (pc := 131) (fun _ => none) (As := [sj_i 323]) (rest := []) (b := a0) (ok9 ha0) h dX9_mirror_131 mw_X9_88 vw_X9_turnsRound (fun _ _ hc => cg_X9_turnsRound ha0 hc) rfl ⟨(Nat.le_of_ble_eq_true rfl), (Nat.le_of_ble_eq_true rfl)⟩ (Nat.le_of_ble_eq_true rfl) rfl (fun _u V3 h => ?_)
      refine r_aload_n (pc := 134) dX9_mirror_134 rfl rfl ?_
      refine r_gRs (b := a0 + 1) (pc := 135) dX9_mirror_135 fw_X9_9 rfl (ok9 ha0) (ok9_0 ha0).1 ?_
      refine r_iconst (pc := 138) dX9_mirror_138 ?_
      refine r_ialoads (pc := 139) h dX9_mirror_139 (ok9_0 ha0).2 (fun h => ?_)
      refine r_aload_n (pc := 140) dX9_mirror_140 rfl rfl ?_
      refine r_gRs (b := a0 + 1) (pc := 141) dX9_mirror_141 fw_X9_9 rfl (ok9 ha0) (ok9_0 ha0).1 ?_
      refine r_sipush (pc := 144) dX9_mirror_144 ⟨by decide, by decide⟩ ?_
      refine r_ialoads (pc := 147) h dX9_mirror_147 (ok9_0 ha0).2 (fun h => ?_)
      refine r_isub (pc := 148) dX9_mirror_148 ?_
      refine r_istore_nL (ln := fun w => [some (sj_r (some a0)), some (sj_i w)]) (pc := 149) h dX9_mirror_149 rfl (Nat.le_of_ble_eq_true rfl) (fun _ => rfl) (fun v4 h => ?_)
      refine r_aload_n (pc := 150) dX9_mirror_150 rfl rfl ?_
      refine r_gRs (b := a0 + 1) (pc := 151) dX9_mirror_151 fw_X9_9 rfl (ok9 ha0) (ok9_0 ha0).1 ?_
      refine r_sipush (pc := 154) dX9_mirror_154 ⟨by decide, by decide⟩ ?_
      refine r_aload_n (pc := 157) dX9_mirror_157 rfl rfl ?_
      refine r_gRs (b := a0 + 1) (pc := 158) dX9_mirror_158 fw_X9_9 rfl (ok9 ha0) (ok9_0 ha0).1 ?_
      refine r_iconst (pc := 161) dX9_mirror_161 ?_
      refine r_ialoads (pc := 162) h dX9_mirror_162 (ok9_0 ha0).2 (fun h => ?_)
      refine r_aload_n (pc := 163) dX9_mirror_163 rfl rfl ?_
      refine r_gRs (b := a0 + 1) (pc := 164) dX9_mirror_164 fw_X9_9 rfl (ok9 ha0) (ok9_0 ha0).1 ?_
      refine r_sipush (pc := 167) dX9_mirror_167 ⟨by decide, by decide⟩ ?_
      refine r_ialoads (pc := 170) h dX9_mirror_170 (ok9_0 ha0).2 (fun h => ?_)
      refine r_isub (pc := 171) dX9_mirror_171 ?_
      refine r_iastores (pc := 172) h dX9_mirror_172 (ok9_0 ha0).2 (fun V5 h => ?_)
      refine r_aload_n (pc := 173) dX9_mirror_173 rfl rfl ?_
      refine r_gRs (b := a0 + 1) (pc := 174) dX9_mirror_174 fw_X9_9 rfl (ok9 ha0) (ok9_0 ha0).1 ?_
      refine r_sipush (pc := 177) dX9_mirror_177 ⟨by decide, by decide⟩ ?_
      refine r_iload_n (pc := 180) dX9_mirror_180 rfl rfl ?_
      refine r_iastores (pc := 181) h dX9_mirror_181 (ok9_0 ha0).2 (fun V6 h => ?_)
      refine r_aload_n (pc := 182) dX9_mirror_182 rfl rfl ?_
      refine r_gRs (b := a0 + 1) (pc := 183) dX9_mirror_183 fw_X9_9 rfl (ok9 ha0) (ok9_0 ha0).1 ?_
      refine r_sipush (pc := 186) dX9_mirror_186 ⟨by decide, by decide⟩ ?_
      refine r_iconst (pc := 189) dX9_mirror_189 ?_
      refine r_aload_n (pc := 190) dX9_mirror_190 rfl rfl ?_
      refine r_gRs (b := a0 + 1) (pc := 191) dX9_mirror_191 fw_X9_9 rfl (ok9 ha0) (ok9_0 ha0).1 ?_
      refine r_sipush (pc := 194) dX9_mirror_194 ⟨by decide, by decide⟩ ?_
      refine r_ialoads (pc := 197) h dX9_mirror_197 (ok9_0 ha0).2 (fun h => ?_)
      refine r_isub (pc := 198) dX9_mirror_198 ?_
      refine r_iastores (pc := 199) h dX9_mirror_199 (ok9_0 ha0).2 (fun V7 h => ?_)
      refine r_iconst (pc := 200) dX9_mirror_200 ?_
      exact r_zrets (pc := 201) h rfl dX9_mirror_201
  · refine r_aload_n (pc := 64) dX9_mirror_64 rfl rfl ?_
    refine r_gRs (b := a0 + 1) (pc := 65) dX9_mirror_65 fw_X9_9 rfl (ok9 ha0) (ok9_0 ha0).1 ?_
    refine r_sipush (pc := 68) dX9_mirror_68 ⟨by decide, by decide⟩ ?_
    refine r_iconst (pc := 71) dX9_mirror_71 ?_
    refine r_iload_n (pc := 72) dX9_mirror_72 rfl rfl ?_
    refine r_imul (pc := 73) dX9_mirror_73 ?_
    refine r_iadd (pc := 74) dX9_mirror_74 ?_
    refine r_iconst (pc := 75) dX9_mirror_75 ?_
    refine r_iadd (pc := 76) dX9_mirror_76 ?_
    refine r_ialoads (pc := 77) h dX9_mirror_77 (ok9_0 ha0).2 (fun h => ?_)
    refine r_if_le (pc := 78) (tgt := 112) h dX9_mirror_78 (by decide) (fun h => ?_) (fun h => ?_)
    · exact sj_weak (l2 := [some (sj_r (some a0)), some (sj_i x1)]) (⟨rfl, ⟨rfl, trivial⟩⟩) (st_X9_mirror_112 hk58 a0 x1 V ha0 h)
    · refine r_aload_n (pc := 81) dX9_mirror_81 rfl rfl ?_
      refine r_gRs (b := a0 + 1) (pc := 82) dX9_mirror_82 fw_X9_9 rfl (ok9 ha0) (ok9_0 ha0).1 ?_
      refine r_sipush (pc := 85) dX9_mirror_85 ⟨by decide, by decide⟩ ?_
      refine r_iconst (pc := 88) dX9_mirror_88 ?_
      refine r_iload_n (pc := 89) dX9_mirror_89 rfl rfl ?_
      refine r_imul (pc := 90) dX9_mirror_90 ?_
      refine r_iadd (pc := 91) dX9_mirror_91 ?_
      refine r_aload_n (pc := 92) dX9_mirror_92 rfl rfl ?_
      refine r_gRs (b := a0 + 1) (pc := 93) dX9_mirror_93 fw_X9_9 rfl (ok9 ha0) (ok9_0 ha0).1 ?_
      refine r_iconst (pc := 96) dX9_mirror_96 ?_
      refine r_ialoads (pc := 97) h dX9_mirror_97 (ok9_0 ha0).2 (fun h => ?_)
      refine r_aload_n (pc := 98) dX9_mirror_98 rfl rfl ?_
      refine r_gRs (b := a0 + 1) (pc := 99) dX9_mirror_99 fw_X9_9 rfl (ok9 ha0) (ok9_0 ha0).1 ?_
      refine r_sipush (pc := 102) dX9_mirror_102 ⟨by decide, by decide⟩ ?_
      refine r_iconst (pc := 105) dX9_mirror_105 ?_
      refine r_iload_n (pc := 106) dX9_mirror_106 rfl rfl ?_
      refine r_imul (pc := 107) dX9_mirror_107 ?_
      refine r_iadd (pc := 108) dX9_mirror_108 ?_
      refine r_ialoads (pc := 109) h dX9_mirror_109 (ok9_0 ha0).2 (fun h => ?_)
      refine r_isub (pc := 110) dX9_mirror_110 ?_
      refine r_iastores (pc := 111) h dX9_mirror_111 (ok9_0 ha0).2 (fun V8 h => ?_)
      exact sj_weak (l2 := [some (sj_r (some a0)), some (sj_i x1)]) (⟨rfl, ⟨rfl, trivial⟩⟩) (st_X9_mirror_112 hk58 a0 x1 V8 ha0 h)
set_option maxHeartbeats 4000000 in
theorem st_X9_mirror_58 {X : sj_X} {g : sj_G} {s0 : sj_Mem} {N : Nat} {q : Int × sj_VV} :
    ∀ (n : Nat) (a0 : Nat) (x1 : Int) (V : sj_VV), OK9 g a0 → g_X9_mirror_58 N n a0 x1 V = some q → sj_T X m_X9_mirror s0 (some (sj_i q.1), (g, q.2)) 58 [some (sj_r (some a0)), some (sj_i x1)] [] (g, V) := by
  intro n
  induction n with
  | zero => intro a0 x1 V ha0 h; exact nomatch h
  | succ n ih => intro a0 x1 V ha0 h; exact st_X9_mirror_58_b (N := N) ih a0 x1 V ha0 h
set_option maxHeartbeats 4000000 in
theorem st_X9_mirror_33_b {X : sj_X} {g : sj_G} {s0 : sj_Mem} {N : Nat} {q : Int × sj_VV} {k33 : Nat → Int → sj_VV → Option (Int × sj_VV)} (hk33 : ∀ (a0 : Nat) (x1 : Int) (V : sj_VV), OK9 g a0 → k33 a0 x1 V = some q → sj_T X m_X9_mirror s0 (some (sj_i q.1), (g, q.2)) 33 [some (sj_r (some a0)), some (sj_i x1)] [] (g, V)) :
    ∀ (a0 : Nat) (x1 : Int) (V : sj_VV), OK9 g a0 → g_X9_mirror_33_b N k33 a0 x1 V = some q → sj_T X m_X9_mirror s0 (some (sj_i q.1), (g, q.2)) 33 [some (sj_r (some a0)), some (sj_i x1)] [] (g, V) := by
  intro a0 x1 V ha0 h
  unfold g_X9_mirror_33_b at h
  refine r_iload_n (pc := 33) dX9_mirror_33 rfl rfl ?_
  refine r_iconst (pc := 34) dX9_mirror_34 ?_
  refine r_icmp_ge (pc := 35) (tgt := 56) h dX9_mirror_35 (by decide) (fun h => ?_) (fun h => ?_)
  · refine r_iconst (pc := 56) dX9_mirror_56 ?_
    refine r_istore_n (ln := [some (sj_r (some a0)), some (sj_i 0)]) (pc := 57) dX9_mirror_57 rfl (Nat.le_of_ble_eq_true rfl) rfl ?_
    exact sj_weak (l2 := [some (sj_r (some a0)), some (sj_i 0)]) (⟨rfl, ⟨rfl, trivial⟩⟩) (st_X9_mirror_58 N a0 0 V ha0 h)
  · refine r_aload_n (pc := 38) dX9_mirror_38 rfl rfl ?_
    refine r_sipush (pc := 39) dX9_mirror_39 ⟨by decide, by decide⟩ ?_
    refine r_bipush (pc := 42) dX9_mirror_42 ⟨by decide, by decide⟩ ?_
    refine r_iload_n (pc := 44) dX9_mirror_44 rfl rfl ?_
    refine r_imul (pc := 45) dX9_mirror_45 ?_
    refine r_iadd (pc := 46) dX9_mirror_46 ?_
    refine r_callVs (pc := 47) (fun _ => none) (As := [sj_i (167 + (41 * x1))]) (rest := []) (b := a0) (ok9 ha0) h dX9_mirror_47 mw_X9_88 vw_X9_turnsRound (fun _ _ hc => cg_X9_turnsRound ha0 hc) rfl ⟨(Nat.le_of_ble_eq_true rfl), (Nat.le_of_ble_eq_true rfl)⟩ (Nat.le_of_ble_eq_true rfl) rfl (fun _u V1 h => ?_)
    refine r_iinc (ln := fun w => [some (sj_r (some a0)), some (sj_i w)]) (pc := 50) h dX9_mirror_50 rfl (Nat.le_of_ble_eq_true rfl) (fun _ => rfl) (fun v2 h => ?_)
    refine r_goto (pc := 53) (tgt := 33) dX9_mirror_53 (by decide) ?_
    exact sj_weak (l2 := [some (sj_r (some a0)), some (sj_i v2)]) (⟨rfl, ⟨rfl, trivial⟩⟩) (hk33 a0 v2 V1 ha0 h)
set_option maxHeartbeats 4000000 in
theorem st_X9_mirror_33 {X : sj_X} {g : sj_G} {s0 : sj_Mem} {N : Nat} {q : Int × sj_VV} :
    ∀ (n : Nat) (a0 : Nat) (x1 : Int) (V : sj_VV), OK9 g a0 → g_X9_mirror_33 N n a0 x1 V = some q → sj_T X m_X9_mirror s0 (some (sj_i q.1), (g, q.2)) 33 [some (sj_r (some a0)), some (sj_i x1)] [] (g, V) := by
  intro n
  induction n with
  | zero => intro a0 x1 V ha0 h; exact nomatch h
  | succ n ih => intro a0 x1 V ha0 h; exact st_X9_mirror_33_b (N := N) ih a0 x1 V ha0 h
set_option maxHeartbeats 4000000 in
theorem st_X9_mirror_0 {X : sj_X} {g : sj_G} {s0 : sj_Mem} {N : Nat} {q : Int × sj_VV} :
    ∀ (a0 : Nat) (V : sj_VV), OK9 g a0 → g_X9_mirror N a0 V = some q → sj_T X m_X9_mirror s0 (some (sj_i q.1), (g, q.2)) 0 [some (sj_r (some a0)), none] [] (g, V) := by
  intro a0 V ha0 h
  unfold g_X9_mirror at h
  refine r_aload_n (pc := 0) dX9_mirror_0 rfl rfl ?_
  refine r_aload_n (pc := 1) dX9_mirror_1 rfl rfl ?_
  refine r_gRs (b := a0 + 1) (pc := 2) dX9_mirror_2 fw_X9_9 rfl (ok9 ha0) (ok9_0 ha0).1 ?_
  refine r_callVs (pc := 5) (fun _ => none) (As := [sj_r (some (a0 + 1))]) (rest := []) (b := a0) (ok9 ha0) h dX9_mirror_5 mw_X9_70 vw_X9_remembers (fun _ _ hc => cg_X9_remembers ha0 (ok9_0 ha0).2 hc) rfl ⟨(Nat.le_of_ble_eq_true rfl), (Nat.le_of_ble_eq_true rfl)⟩ (Nat.le_of_ble_eq_true rfl) rfl (fun _u V1 h => ?_)
  refine r_aload_n (pc := 8) dX9_mirror_8 rfl rfl ?_
  refine r_iconst (pc := 9) dX9_mirror_9 ?_
  refine r_callVs (pc := 10) (fun _ => none) (As := [sj_i 3]) (rest := []) (b := a0) (ok9 ha0) h dX9_mirror_10 mw_X9_88 vw_X9_turnsRound (fun _ _ hc => cg_X9_turnsRound ha0 hc) rfl ⟨(Nat.le_of_ble_eq_true rfl), (Nat.le_of_ble_eq_true rfl)⟩ (Nat.le_of_ble_eq_true rfl) rfl (fun _u V2 h => ?_)
  refine r_aload_n (pc := 13) dX9_mirror_13 rfl rfl ?_
  refine r_bipush (pc := 14) dX9_mirror_14 ⟨by decide, by decide⟩ ?_
  refine r_callVs (pc := 16) (fun _ => none) (As := [sj_i 44]) (rest := []) (b := a0) (ok9 ha0) h dX9_mirror_16 mw_X9_88 vw_X9_turnsRound (fun _ _ hc => cg_X9_turnsRound ha0 hc) rfl ⟨(Nat.le_of_ble_eq_true rfl), (Nat.le_of_ble_eq_true rfl)⟩ (Nat.le_of_ble_eq_true rfl) rfl (fun _u V3 h => ?_)
  refine r_aload_n (pc := 19) dX9_mirror_19 rfl rfl ?_
  refine r_bipush (pc := 20) dX9_mirror_20 ⟨by decide, by decide⟩ ?_
  refine r_callVs (pc := 22) (fun _ => none) (As := [sj_i 85]) (rest := []) (b := a0) (ok9 ha0) h dX9_mirror_22 mw_X9_88 vw_X9_turnsRound (fun _ _ hc => cg_X9_turnsRound ha0 hc) rfl ⟨(Nat.le_of_ble_eq_true rfl), (Nat.le_of_ble_eq_true rfl)⟩ (Nat.le_of_ble_eq_true rfl) rfl (fun _u V4 h => ?_)
  refine r_aload_n (pc := 25) dX9_mirror_25 rfl rfl ?_
  refine r_bipush (pc := 26) dX9_mirror_26 ⟨by decide, by decide⟩ ?_
  refine r_callVs (pc := 28) (fun _ => none) (As := [sj_i 126]) (rest := []) (b := a0) (ok9 ha0) h dX9_mirror_28 mw_X9_88 vw_X9_turnsRound (fun _ _ hc => cg_X9_turnsRound ha0 hc) rfl ⟨(Nat.le_of_ble_eq_true rfl), (Nat.le_of_ble_eq_true rfl)⟩ (Nat.le_of_ble_eq_true rfl) rfl (fun _u V5 h => ?_)
  refine r_iconst (pc := 31) dX9_mirror_31 ?_
  refine r_istore_n (ln := [some (sj_r (some a0)), some (sj_i 0)]) (pc := 32) dX9_mirror_32 rfl (Nat.le_of_ble_eq_true rfl) rfl ?_
  exact sj_weak (l2 := [some (sj_r (some a0)), some (sj_i 0)]) (⟨rfl, ⟨rfl, trivial⟩⟩) (st_X9_mirror_33 N a0 0 V5 ha0 h)
set_option maxHeartbeats 4000000 in
theorem cg_X9_mirror {X : sj_X} {g : sj_G} {N : Nat} {a0 : Nat} {V : sj_VV} {q : Int × sj_VV} (ha0 : OK9 g a0) (h : g_X9_mirror N a0 V = some q) : sj_C X m_X9_mirror [sj_r (some a0)] (g, V) (some (sj_i q.1), (g, q.2)) :=
  sj_C_of (by decide +kernel) (Nat.le_of_ble_eq_true rfl) (lo := [some (sj_r (some a0)), none]) rfl (sj_weak (l2 := [some (sj_r (some a0)), none]) (⟨rfl, trivial⟩) (st_X9_mirror_0 a0 V ha0 h))
set_option maxHeartbeats 4000000 in
theorem c_X9_mirror {X : sj_X} {N : Nat} {a0 : Nat} {s : sj_Mem} {q : Int × sj_Mem} (h : f_X9_mirror N a0 s = some q) : sj_C X m_X9_mirror [sj_r (some a0)] s (some (sj_i q.1), q.2) := by
  obtain ⟨g, V⟩ := s
  unfold f_X9_mirror at h
  obtain ⟨ho, h1⟩ := e_ok_some h
  obtain ⟨q2, h2, rfl⟩ := sj_map_some h1
  exact cg_X9_mirror ho h2
theorem dX9_canDig_0 : decode cX9_canDig 0 = .ok (.aload_n 0, 1) := by decide +kernel
theorem dX9_canDig_1 : decode cX9_canDig 1 = .ok (.iload_n 1, 1) := by decide +kernel
theorem dX9_canDig_2 : decode cX9_canDig 2 = .ok (.invokevirtual 74, 3) := by decide +kernel
theorem dX9_canDig_5 : decode cX9_canDig 5 = .ok (.ifCond .eq 42, 3) := by decide +kernel
theorem dX9_canDig_8 : decode cX9_canDig 8 = .ok (.iload_n 2, 1) := by decide +kernel
theorem dX9_canDig_9 : decode cX9_canDig 9 = .ok (.ifCond .eq 38, 3) := by decide +kernel
theorem dX9_canDig_12 : decode cX9_canDig 12 = .ok (.aload_n 0, 1) := by decide +kernel
theorem dX9_canDig_13 : decode cX9_canDig 13 = .ok (.getfield 9, 3) := by decide +kernel
theorem dX9_canDig_16 : decode cX9_canDig 16 = .ok (.iconst 3, 1) := by decide +kernel
theorem dX9_canDig_17 : decode cX9_canDig 17 = .ok (.iload_n 1, 1) := by decide +kernel
theorem dX9_canDig_18 : decode cX9_canDig 18 = .ok (.iadd, 1) := by decide +kernel
theorem dX9_canDig_19 : decode cX9_canDig 19 = .ok (.iaload, 1) := by decide +kernel
theorem dX9_canDig_20 : decode cX9_canDig 20 = .ok (.i2l, 1) := by decide +kernel
theorem dX9_canDig_21 : decode cX9_canDig 21 = .ok (.iload_n 2, 1) := by decide +kernel
theorem dX9_canDig_22 : decode cX9_canDig 22 = .ok (.i2l, 1) := by decide +kernel
theorem dX9_canDig_23 : decode cX9_canDig 23 = .ok (.lsub, 1) := by decide +kernel
theorem dX9_canDig_24 : decode cX9_canDig 24 = .ok (.aload_n 0, 1) := by decide +kernel
theorem dX9_canDig_25 : decode cX9_canDig 25 = .ok (.getfield 9, 3) := by decide +kernel
theorem dX9_canDig_28 : decode cX9_canDig 28 = .ok (.bipush 44, 2) := by decide +kernel
theorem dX9_canDig_30 : decode cX9_canDig 30 = .ok (.iload_n 1, 1) := by decide +kernel
theorem dX9_canDig_31 : decode cX9_canDig 31 = .ok (.iadd, 1) := by decide +kernel
theorem dX9_canDig_32 : decode cX9_canDig 32 = .ok (.iaload, 1) := by decide +kernel
theorem dX9_canDig_33 : decode cX9_canDig 33 = .ok (.i2l, 1) := by decide +kernel
theorem dX9_canDig_34 : decode cX9_canDig 34 = .ok (.ldc2_w 82, 3) := by decide +kernel
theorem dX9_canDig_37 : decode cX9_canDig 37 = .ok (.invokestatic 57, 3) := by decide +kernel
theorem dX9_canDig_40 : decode cX9_canDig 40 = .ok (.ifCond .eq 7, 3) := by decide +kernel
theorem dX9_canDig_43 : decode cX9_canDig 43 = .ok (.iconst 1, 1) := by decide +kernel
theorem dX9_canDig_44 : decode cX9_canDig 44 = .ok (.goto 4, 3) := by decide +kernel
theorem dX9_canDig_47 : decode cX9_canDig 47 = .ok (.iconst 0, 1) := by decide +kernel
theorem dX9_canDig_48 : decode cX9_canDig 48 = .ok (.ireturn, 1) := by decide +kernel
set_option maxHeartbeats 4000000 in
theorem st_X9_canDig_0 {X : sj_X} {g : sj_G} {s0 : sj_Mem} {N : Nat} {q : Int × sj_VV} :
    ∀ (a0 : Nat) (x1 : Int) (x2 : Int) (V : sj_VV), OK9 g a0 → g_X9_canDig N a0 x1 x2 V = some q → sj_T X m_X9_canDig s0 (some (sj_i q.1), (g, q.2)) 0 [some (sj_r (some a0)), some (sj_i x1), some (sj_i x2)] [] (g, V) := by
  intro a0 x1 x2 V ha0 h
  unfold g_X9_canDig at h
  refine r_aload_n (pc := 0) dX9_canDig_0 rfl rfl ?_
  refine r_iload_n (pc := 1) dX9_canDig_1 rfl rfl ?_
  refine r_callVs (pc := 2) (fun v => some (sj_i v)) (As := [sj_i x1]) (rest := []) (b := a0) (ok9 ha0) h dX9_canDig_2 mw_X9_74 vw_X9_isColumn (fun _ _ hc => cg_X9_isColumn ha0 hc) rfl ⟨(Nat.le_of_ble_eq_true rfl), (Nat.le_of_ble_eq_true rfl)⟩ (Nat.le_of_ble_eq_true rfl) rfl (fun v2 V1 h => ?_)
  refine r_if_eq (pc := 5) (tgt := 47) h dX9_canDig_5 (by decide) (fun h => ?_) (fun h => ?_)
  · refine r_iconst (pc := 47) dX9_canDig_47 ?_
    exact r_zrets (pc := 48) h rfl dX9_canDig_48
  · refine r_iload_n (pc := 8) dX9_canDig_8 rfl rfl ?_
    refine r_if_eq (pc := 9) (tgt := 47) h dX9_canDig_9 (by decide) (fun h => ?_) (fun h => ?_)
    · refine r_iconst (pc := 47) dX9_canDig_47 ?_
      exact r_zrets (pc := 48) h rfl dX9_canDig_48
    · refine r_aload_n (pc := 12) dX9_canDig_12 rfl rfl ?_
      refine r_gRs (b := a0 + 1) (pc := 13) dX9_canDig_13 fw_X9_9 rfl (ok9 ha0) (ok9_0 ha0).1 ?_
      refine r_iconst (pc := 16) dX9_canDig_16 ?_
      refine r_iload_n (pc := 17) dX9_canDig_17 rfl rfl ?_
      refine r_iadd (pc := 18) dX9_canDig_18 ?_
      refine r_ialoads (pc := 19) h dX9_canDig_19 (ok9_0 ha0).2 (fun h => ?_)
      refine r_i2l (pc := 20) h dX9_canDig_20 (fun v3 h => ?_)
      refine r_iload_n (pc := 21) dX9_canDig_21 rfl rfl ?_
      refine r_i2l (pc := 22) h dX9_canDig_22 (fun v4 h => ?_)
      refine r_lsub (pc := 23) dX9_canDig_23 ?_
      refine r_aload_n (pc := 24) dX9_canDig_24 rfl rfl ?_
      refine r_gRs (b := a0 + 1) (pc := 25) dX9_canDig_25 fw_X9_9 rfl (ok9 ha0) (ok9_0 ha0).1 ?_
      refine r_bipush (pc := 28) dX9_canDig_28 ⟨by decide, by decide⟩ ?_
      refine r_iload_n (pc := 30) dX9_canDig_30 rfl rfl ?_
      refine r_iadd (pc := 31) dX9_canDig_31 ?_
      refine r_ialoads (pc := 32) h dX9_canDig_32 (ok9_0 ha0).2 (fun h => ?_)
      refine r_i2l (pc := 33) h dX9_canDig_33 (fun v5 h => ?_)
      refine r_ldc2 (n := 100) (pc := 34) dX9_canDig_34 kc_X9_82 ?_
      refine r_callSs (pc := 37) (fun v => some (sj_i v)) (As := [sj_j (v3 - v4), sj_j v5, sj_j 100]) (rest := []) h dX9_canDig_37 mw_X9_57 kw_1225 (fun _ _ hc => cg_X9_isIn  hc) rfl ⟨(Nat.le_of_ble_eq_true rfl), (Nat.le_of_ble_eq_true rfl)⟩ (Nat.le_of_ble_eq_true rfl) rfl (fun v7 V6 h => ?_)
      refine r_if_eq (pc := 40) (tgt := 47) h dX9_canDig_40 (by decide) (fun h => ?_) (fun h => ?_)
      · refine r_iconst (pc := 47) dX9_canDig_47 ?_
        exact r_zrets (pc := 48) h rfl dX9_canDig_48
      · refine r_iconst (pc := 43) dX9_canDig_43 ?_
        refine r_goto (pc := 44) (tgt := 48) dX9_canDig_44 (by decide) ?_
        exact r_zrets (pc := 48) h rfl dX9_canDig_48
set_option maxHeartbeats 4000000 in
theorem cg_X9_canDig {X : sj_X} {g : sj_G} {N : Nat} {a0 : Nat} {x1 : Int} {x2 : Int} {V : sj_VV} {q : Int × sj_VV} (ha0 : OK9 g a0) (h : g_X9_canDig N a0 x1 x2 V = some q) : sj_C X m_X9_canDig [sj_r (some a0), sj_i x1, sj_i x2] (g, V) (some (sj_i q.1), (g, q.2)) :=
  sj_C_of (by decide +kernel) (Nat.le_of_ble_eq_true rfl) (lo := [some (sj_r (some a0)), some (sj_i x1), some (sj_i x2)]) rfl (sj_weak (l2 := [some (sj_r (some a0)), some (sj_i x1), some (sj_i x2)]) (⟨rfl, ⟨rfl, ⟨rfl, trivial⟩⟩⟩) (st_X9_canDig_0 a0 x1 x2 V ha0 h))
set_option maxHeartbeats 4000000 in
theorem c_X9_canDig {X : sj_X} {N : Nat} {a0 : Nat} {x1 : Int} {x2 : Int} {s : sj_Mem} {q : Int × sj_Mem} (h : f_X9_canDig N a0 x1 x2 s = some q) : sj_C X m_X9_canDig [sj_r (some a0), sj_i x1, sj_i x2] s (some (sj_i q.1), q.2) := by
  obtain ⟨g, V⟩ := s
  unfold f_X9_canDig at h
  obtain ⟨ho, h1⟩ := e_ok_some h
  obtain ⟨q2, h2, rfl⟩ := sj_map_some h1
  exact cg_X9_canDig ho h2
theorem dX9_dug_0 : decode cX9_dug 0 = .ok (.aload_n 0, 1) := by decide +kernel
theorem dX9_dug_1 : decode cX9_dug 1 = .ok (.iload_n 1, 1) := by decide +kernel
theorem dX9_dug_2 : decode cX9_dug 2 = .ok (.iload_n 2, 1) := by decide +kernel
theorem dX9_dug_3 : decode cX9_dug 3 = .ok (.invokevirtual 84, 3) := by decide +kernel
theorem dX9_dug_6 : decode cX9_dug 6 = .ok (.ifCond .eq 14, 3) := by decide +kernel
theorem dX9_dug_9 : decode cX9_dug 9 = .ok (.iload_n 3, 1) := by decide +kernel
theorem dX9_dug_10 : decode cX9_dug 10 = .ok (.iload 4, 2) := by decide +kernel
theorem dX9_dug_12 : decode cX9_dug 12 = .ok (.iload 5, 2) := by decide +kernel
theorem dX9_dug_14 : decode cX9_dug 14 = .ok (.invokestatic 197, 3) := by decide +kernel
theorem dX9_dug_17 : decode cX9_dug 17 = .ok (.ifCond .ne 5, 3) := by decide +kernel
theorem dX9_dug_20 : decode cX9_dug 20 = .ok (.iconst (-1), 1) := by decide +kernel
theorem dX9_dug_21 : decode cX9_dug 21 = .ok (.ireturn, 1) := by decide +kernel
theorem dX9_dug_22 : decode cX9_dug 22 = .ok (.aload_n 0, 1) := by decide +kernel
theorem dX9_dug_23 : decode cX9_dug 23 = .ok (.getfield 9, 3) := by decide +kernel
theorem dX9_dug_26 : decode cX9_dug 26 = .ok (.iconst 3, 1) := by decide +kernel
theorem dX9_dug_27 : decode cX9_dug 27 = .ok (.iload_n 1, 1) := by decide +kernel
theorem dX9_dug_28 : decode cX9_dug 28 = .ok (.iadd, 1) := by decide +kernel
theorem dX9_dug_29 : decode cX9_dug 29 = .ok (.dup2, 1) := by decide +kernel
theorem dX9_dug_30 : decode cX9_dug 30 = .ok (.iaload, 1) := by decide +kernel
theorem dX9_dug_31 : decode cX9_dug 31 = .ok (.iload_n 2, 1) := by decide +kernel
theorem dX9_dug_32 : decode cX9_dug 32 = .ok (.isub, 1) := by decide +kernel
theorem dX9_dug_33 : decode cX9_dug 33 = .ok (.iastore, 1) := by decide +kernel
theorem dX9_dug_34 : decode cX9_dug 34 = .ok (.aload_n 0, 1) := by decide +kernel
theorem dX9_dug_35 : decode cX9_dug 35 = .ok (.iload_n 3, 1) := by decide +kernel
theorem dX9_dug_36 : decode cX9_dug 36 = .ok (.iload 4, 2) := by decide +kernel
theorem dX9_dug_38 : decode cX9_dug 38 = .ok (.iload 5, 2) := by decide +kernel
theorem dX9_dug_40 : decode cX9_dug 40 = .ok (.bipush 8, 2) := by decide +kernel
theorem dX9_dug_42 : decode cX9_dug 42 = .ok (.iload 6, 2) := by decide +kernel
theorem dX9_dug_44 : decode cX9_dug 44 = .ok (.invokevirtual 243, 3) := by decide +kernel
theorem dX9_dug_47 : decode cX9_dug 47 = .ok (.istore 7, 2) := by decide +kernel
theorem dX9_dug_49 : decode cX9_dug 49 = .ok (.aload_n 0, 1) := by decide +kernel
theorem dX9_dug_50 : decode cX9_dug 50 = .ok (.getfield 9, 3) := by decide +kernel
theorem dX9_dug_53 : decode cX9_dug 53 = .ok (.iconst 3, 1) := by decide +kernel
theorem dX9_dug_54 : decode cX9_dug 54 = .ok (.iload_n 1, 1) := by decide +kernel
theorem dX9_dug_55 : decode cX9_dug 55 = .ok (.iadd, 1) := by decide +kernel
theorem dX9_dug_56 : decode cX9_dug 56 = .ok (.dup2, 1) := by decide +kernel
theorem dX9_dug_57 : decode cX9_dug 57 = .ok (.iaload, 1) := by decide +kernel
theorem dX9_dug_58 : decode cX9_dug 58 = .ok (.iload_n 2, 1) := by decide +kernel
theorem dX9_dug_59 : decode cX9_dug 59 = .ok (.iadd, 1) := by decide +kernel
theorem dX9_dug_60 : decode cX9_dug 60 = .ok (.iastore, 1) := by decide +kernel
theorem dX9_dug_61 : decode cX9_dug 61 = .ok (.iload 7, 2) := by decide +kernel
theorem dX9_dug_63 : decode cX9_dug 63 = .ok (.ireturn, 1) := by decide +kernel
set_option maxHeartbeats 4000000 in
theorem st_X9_dug_0 {X : sj_X} {g : sj_G} {s0 : sj_Mem} {N : Nat} {q : Int × sj_VV} :
    ∀ (a0 : Nat) (x1 : Int) (x2 : Int) (x3 : Int) (x4 : Int) (x5 : Int) (x6 : Int) (V : sj_VV), OK9 g a0 → g_X9_dug N a0 x1 x2 x3 x4 x5 x6 V = some q → sj_T X m_X9_dug s0 (some (sj_i q.1), (g, q.2)) 0 [some (sj_r (some a0)), some (sj_i x1), some (sj_i x2), some (sj_i x3), some (sj_i x4), some (sj_i x5), some (sj_i x6), none] [] (g, V) := by
  intro a0 x1 x2 x3 x4 x5 x6 V ha0 h
  unfold g_X9_dug at h
  refine r_aload_n (pc := 0) dX9_dug_0 rfl rfl ?_
  refine r_iload_n (pc := 1) dX9_dug_1 rfl rfl ?_
  refine r_iload_n (pc := 2) dX9_dug_2 rfl rfl ?_
  refine r_callVs (pc := 3) (fun v => some (sj_i v)) (As := [sj_i x1, sj_i x2]) (rest := []) (b := a0) (ok9 ha0) h dX9_dug_3 mw_X9_84 vw_X9_canDig (fun _ _ hc => cg_X9_canDig ha0 hc) rfl ⟨(Nat.le_of_ble_eq_true rfl), (Nat.le_of_ble_eq_true rfl)⟩ (Nat.le_of_ble_eq_true rfl) rfl (fun v2 V1 h => ?_)
  refine r_if_eq (pc := 6) (tgt := 20) h dX9_dug_6 (by decide) (fun h => ?_) (fun h => ?_)
  · refine r_iconst (pc := 20) dX9_dug_20 ?_
    exact r_irets (pc := 21) h rfl dX9_dug_21
  · refine r_iload_n (pc := 9) dX9_dug_9 rfl rfl ?_
    refine r_iload (pc := 10) dX9_dug_10 rfl ?_
    refine r_iload (pc := 12) dX9_dug_12 rfl ?_
    refine r_callSs (pc := 14) (fun v => some (sj_i v)) (As := [sj_i x3, sj_i x4, sj_i x5]) (rest := []) h dX9_dug_14 mw_X9_197 kw_1284 (fun _ _ hc => cg_X9_isCircle  hc) rfl ⟨(Nat.le_of_ble_eq_true rfl), (Nat.le_of_ble_eq_true rfl)⟩ (Nat.le_of_ble_eq_true rfl) rfl (fun v4 V3 h => ?_)
    refine r_if_ne (pc := 17) (tgt := 22) h dX9_dug_17 (by decide) (fun h => ?_) (fun h => ?_)
    · refine r_iconst (pc := 20) dX9_dug_20 ?_
      exact r_irets (pc := 21) h rfl dX9_dug_21
    · refine r_aload_n (pc := 22) dX9_dug_22 rfl rfl ?_
      refine r_gRs (b := a0 + 1) (pc := 23) dX9_dug_23 fw_X9_9 rfl (ok9 ha0) (ok9_0 ha0).1 ?_
      refine r_iconst (pc := 26) dX9_dug_26 ?_
      refine r_iload_n (pc := 27) dX9_dug_27 rfl rfl ?_
      refine r_iadd (pc := 28) dX9_dug_28 ?_
      refine r_dup2_11 (pc := 29) dX9_dug_29 rfl rfl ?_
      refine r_ialoads (pc := 30) h dX9_dug_30 (ok9_0 ha0).2 (fun h => ?_)
      refine r_iload_n (pc := 31) dX9_dug_31 rfl rfl ?_
      refine r_isub (pc := 32) dX9_dug_32 ?_
      refine r_iastores (pc := 33) h dX9_dug_33 (ok9_0 ha0).2 (fun V5 h => ?_)
      refine r_aload_n (pc := 34) dX9_dug_34 rfl rfl ?_
      refine r_iload_n (pc := 35) dX9_dug_35 rfl rfl ?_
      refine r_iload (pc := 36) dX9_dug_36 rfl ?_
      refine r_iload (pc := 38) dX9_dug_38 rfl ?_
      refine r_bipush (pc := 40) dX9_dug_40 ⟨by decide, by decide⟩ ?_
      refine r_iload (pc := 42) dX9_dug_42 rfl ?_
      refine r_callVs (pc := 44) (fun v => some (sj_i v)) (As := [sj_i x3, sj_i x4, sj_i x5, sj_i 8, sj_i x6]) (rest := []) (b := a0) (ok9 ha0) h dX9_dug_44 mw_X9_243 vw_X9_searches (fun _ _ hc => cg_X9_searches ha0 hc) rfl ⟨(Nat.le_of_ble_eq_true rfl), (Nat.le_of_ble_eq_true rfl)⟩ (Nat.le_of_ble_eq_true rfl) rfl (fun v7 V6 h => ?_)
      refine r_istore (ln := [some (sj_r (some a0)), some (sj_i x1), some (sj_i x2), some (sj_i x3), some (sj_i x4), some (sj_i x5), some (sj_i x6), some (sj_i v7)]) (pc := 47) dX9_dug_47 (Nat.le_of_ble_eq_true rfl) rfl ?_
      refine r_aload_n (pc := 49) dX9_dug_49 rfl rfl ?_
      refine r_gRs (b := a0 + 1) (pc := 50) dX9_dug_50 fw_X9_9 rfl (ok9 ha0) (ok9_0 ha0).1 ?_
      refine r_iconst (pc := 53) dX9_dug_53 ?_
      refine r_iload_n (pc := 54) dX9_dug_54 rfl rfl ?_
      refine r_iadd (pc := 55) dX9_dug_55 ?_
      refine r_dup2_11 (pc := 56) dX9_dug_56 rfl rfl ?_
      refine r_ialoads (pc := 57) h dX9_dug_57 (ok9_0 ha0).2 (fun h => ?_)
      refine r_iload_n (pc := 58) dX9_dug_58 rfl rfl ?_
      refine r_iadd (pc := 59) dX9_dug_59 ?_
      refine r_iastores (pc := 60) h dX9_dug_60 (ok9_0 ha0).2 (fun V8 h => ?_)
      refine r_iload (pc := 61) dX9_dug_61 rfl ?_
      exact r_irets (pc := 63) h rfl dX9_dug_63
set_option maxHeartbeats 4000000 in
theorem cg_X9_dug {X : sj_X} {g : sj_G} {N : Nat} {a0 : Nat} {x1 : Int} {x2 : Int} {x3 : Int} {x4 : Int} {x5 : Int} {x6 : Int} {V : sj_VV} {q : Int × sj_VV} (ha0 : OK9 g a0) (h : g_X9_dug N a0 x1 x2 x3 x4 x5 x6 V = some q) : sj_C X m_X9_dug [sj_r (some a0), sj_i x1, sj_i x2, sj_i x3, sj_i x4, sj_i x5, sj_i x6] (g, V) (some (sj_i q.1), (g, q.2)) :=
  sj_C_of (by decide +kernel) (Nat.le_of_ble_eq_true rfl) (lo := [some (sj_r (some a0)), some (sj_i x1), some (sj_i x2), some (sj_i x3), some (sj_i x4), some (sj_i x5), some (sj_i x6), none]) rfl (sj_weak (l2 := [some (sj_r (some a0)), some (sj_i x1), some (sj_i x2), some (sj_i x3), some (sj_i x4), some (sj_i x5), some (sj_i x6), none]) (⟨rfl, ⟨rfl, ⟨rfl, ⟨rfl, ⟨rfl, ⟨rfl, ⟨rfl, trivial⟩⟩⟩⟩⟩⟩⟩) (st_X9_dug_0 a0 x1 x2 x3 x4 x5 x6 V ha0 h))
set_option maxHeartbeats 4000000 in
theorem c_X9_dug {X : sj_X} {N : Nat} {a0 : Nat} {x1 : Int} {x2 : Int} {x3 : Int} {x4 : Int} {x5 : Int} {x6 : Int} {s : sj_Mem} {q : Int × sj_Mem} (h : f_X9_dug N a0 x1 x2 x3 x4 x5 x6 s = some q) : sj_C X m_X9_dug [sj_r (some a0), sj_i x1, sj_i x2, sj_i x3, sj_i x4, sj_i x5, sj_i x6] s (some (sj_i q.1), q.2) := by
  obtain ⟨g, V⟩ := s
  unfold f_X9_dug at h
  obtain ⟨ho, h1⟩ := e_ok_some h
  obtain ⟨q2, h2, rfl⟩ := sj_map_some h1
  exact cg_X9_dug ho h2
theorem dX9_adds_0 : decode cX9_adds 0 = .ok (.aload_n 0, 1) := by decide +kernel
theorem dX9_adds_1 : decode cX9_adds 1 = .ok (.iload_n 1, 1) := by decide +kernel
theorem dX9_adds_2 : decode cX9_adds 2 = .ok (.iload_n 2, 1) := by decide +kernel
theorem dX9_adds_3 : decode cX9_adds 3 = .ok (.iload_n 3, 1) := by decide +kernel
theorem dX9_adds_4 : decode cX9_adds 4 = .ok (.iload 4, 2) := by decide +kernel
theorem dX9_adds_6 : decode cX9_adds 6 = .ok (.invokevirtual 157, 3) := by decide +kernel
theorem dX9_adds_9 : decode cX9_adds 9 = .ok (.aload_n 0, 1) := by decide +kernel
theorem dX9_adds_10 : decode cX9_adds 10 = .ok (.iload 5, 2) := by decide +kernel
theorem dX9_adds_12 : decode cX9_adds 12 = .ok (.invokevirtual 171, 3) := by decide +kernel
theorem dX9_adds_15 : decode cX9_adds 15 = .ok (.lstore 6, 2) := by decide +kernel
theorem dX9_adds_17 : decode cX9_adds 17 = .ok (.lload 6, 2) := by decide +kernel
theorem dX9_adds_19 : decode cX9_adds 19 = .ok (.ldc2_w 148, 3) := by decide +kernel
theorem dX9_adds_22 : decode cX9_adds 22 = .ok (.lcmp, 1) := by decide +kernel
theorem dX9_adds_23 : decode cX9_adds 23 = .ok (.ifCond .eq 12, 3) := by decide +kernel
theorem dX9_adds_26 : decode cX9_adds 26 = .ok (.lload 6, 2) := by decide +kernel
theorem dX9_adds_28 : decode cX9_adds 28 = .ok (.ldc2_w 247, 3) := by decide +kernel
theorem dX9_adds_31 : decode cX9_adds 31 = .ok (.lcmp, 1) := by decide +kernel
theorem dX9_adds_32 : decode cX9_adds 32 = .ok (.ifCond .le 9, 3) := by decide +kernel
theorem dX9_adds_35 : decode cX9_adds 35 = .ok (.ldc2_w 249, 3) := by decide +kernel
theorem dX9_adds_38 : decode cX9_adds 38 = .ok (.goto 18, 3) := by decide +kernel
theorem dX9_adds_41 : decode cX9_adds 41 = .ok (.ldc2_w 143, 3) := by decide +kernel
theorem dX9_adds_44 : decode cX9_adds 44 = .ok (.lload 6, 2) := by decide +kernel
theorem dX9_adds_46 : decode cX9_adds 46 = .ok (.lmul, 1) := by decide +kernel
theorem dX9_adds_47 : decode cX9_adds 47 = .ok (.iload 5, 2) := by decide +kernel
theorem dX9_adds_49 : decode cX9_adds 49 = .ok (.i2l, 1) := by decide +kernel
theorem dX9_adds_50 : decode cX9_adds 50 = .ok (.aload_n 0, 1) := by decide +kernel
theorem dX9_adds_51 : decode cX9_adds 51 = .ok (.getfield 145, 3) := by decide +kernel
theorem dX9_adds_54 : decode cX9_adds 54 = .ok (.lmul, 1) := by decide +kernel
theorem dX9_adds_55 : decode cX9_adds 55 = .ok (.lsub, 1) := by decide +kernel
theorem dX9_adds_56 : decode cX9_adds 56 = .ok (.lreturn, 1) := by decide +kernel
set_option maxHeartbeats 4000000 in
theorem st_X9_adds_35 {X : sj_X} {g : sj_G} {s0 : sj_Mem} {N : Nat} {q : Int × sj_VV} :
    ∀ (V : sj_VV), g_X9_adds_35 N V = some q → sj_T X m_X9_adds s0 (some (sj_j q.1), (g, q.2)) 35 [none, none, none, none, none, none, none, none] [] (g, V) := by
  intro  V  h
  unfold g_X9_adds_35 at h
  refine r_ldc2 (n := 4000000000000000000) (pc := 35) dX9_adds_35 kc_X9_249 ?_
  refine r_goto (pc := 38) (tgt := 56) dX9_adds_38 (by decide) ?_
  exact r_lrets (pc := 56) h rfl dX9_adds_56
set_option maxHeartbeats 4000000 in
theorem st_X9_adds_0 {X : sj_X} {g : sj_G} {s0 : sj_Mem} {N : Nat} {q : Int × sj_VV} :
    ∀ (a0 : Nat) (x1 : Int) (x2 : Int) (x3 : Int) (x4 : Int) (x5 : Int) (V : sj_VV), OK9 g a0 → g_X9_adds N a0 x1 x2 x3 x4 x5 V = some q → sj_T X m_X9_adds s0 (some (sj_j q.1), (g, q.2)) 0 [some (sj_r (some a0)), some (sj_i x1), some (sj_i x2), some (sj_i x3), some (sj_i x4), some (sj_i x5), none, none] [] (g, V) := by
  intro a0 x1 x2 x3 x4 x5 V ha0 h
  unfold g_X9_adds at h
  refine r_aload_n (pc := 0) dX9_adds_0 rfl rfl ?_
  refine r_iload_n (pc := 1) dX9_adds_1 rfl rfl ?_
  refine r_iload_n (pc := 2) dX9_adds_2 rfl rfl ?_
  refine r_iload_n (pc := 3) dX9_adds_3 rfl rfl ?_
  refine r_iload (pc := 4) dX9_adds_4 rfl ?_
  refine r_callVs (pc := 6) (fun _ => none) (As := [sj_i x1, sj_i x2, sj_i x3, sj_i x4]) (rest := []) (b := a0) (ok9 ha0) h dX9_adds_6 mw_X9_157 vw_X9_laysSlice (fun _ _ hc => cg_X9_laysSlice ha0 hc) rfl ⟨(Nat.le_of_ble_eq_true rfl), (Nat.le_of_ble_eq_true rfl)⟩ (Nat.le_of_ble_eq_true rfl) rfl (fun _u V1 h => ?_)
  refine r_aload_n (pc := 9) dX9_adds_9 rfl rfl ?_
  refine r_iload (pc := 10) dX9_adds_10 rfl ?_
  refine r_callVs (pc := 12) (fun v => some (sj_j v)) (As := [sj_i x5]) (rest := []) (b := a0) (ok9 ha0) h dX9_adds_12 mw_X9_171 vw_X9_rubsOf (fun _ _ hc => cg_X9_rubsOf ha0 hc) rfl ⟨(Nat.le_of_ble_eq_true rfl), (Nat.le_of_ble_eq_true rfl)⟩ (Nat.le_of_ble_eq_true rfl) rfl (fun v3 V2 h => ?_)
  refine r_lstore (ln := [some (sj_r (some a0)), some (sj_i x1), some (sj_i x2), some (sj_i x3), some (sj_i x4), some (sj_i x5), some (sj_j v3), none]) (pc := 15) dX9_adds_15 (Nat.le_of_ble_eq_true rfl) rfl ?_
  refine r_lload (pc := 17) dX9_adds_17 rfl ?_
  refine r_ldc2 (n := -1) (pc := 19) dX9_adds_19 kc_X9_148 ?_
  refine r_leq (pc := 22) (tgt := 35) h dX9_adds_22 rfl dX9_adds_23 (by decide) (fun h => ?_) (fun h => ?_)
  · exact sj_weak (l2 := [none, none, none, none, none, none, none, none]) (trivial) (st_X9_adds_35 V2 h)
  · refine r_lload (pc := 26) dX9_adds_26 rfl ?_
    refine r_ldc2 (n := 10000000000000) (pc := 28) dX9_adds_28 kc_X9_247 ?_
    refine r_lle (pc := 31) (tgt := 41) h dX9_adds_31 rfl dX9_adds_32 (by decide) (fun h => ?_) (fun h => ?_)
    · refine r_ldc2 (n := 1000) (pc := 41) dX9_adds_41 kc_X9_143 ?_
      refine r_lload (pc := 44) dX9_adds_44 rfl ?_
      refine r_lmul (pc := 46) dX9_adds_46 ?_
      refine r_iload (pc := 47) dX9_adds_47 rfl ?_
      refine r_i2l (pc := 49) h dX9_adds_49 (fun v4 h => ?_)
      refine r_aload_n (pc := 50) dX9_adds_50 rfl rfl ?_
      refine r_gJs (pc := 51) dX9_adds_51 fw_X9_145 rfl (ok9 ha0) ?_
      refine r_lmul (pc := 54) dX9_adds_54 ?_
      refine r_lsub (pc := 55) dX9_adds_55 ?_
      exact r_lrets (pc := 56) h rfl dX9_adds_56
    · exact sj_weak (l2 := [none, none, none, none, none, none, none, none]) (trivial) (st_X9_adds_35 V2 h)
set_option maxHeartbeats 4000000 in
theorem cg_X9_adds {X : sj_X} {g : sj_G} {N : Nat} {a0 : Nat} {x1 : Int} {x2 : Int} {x3 : Int} {x4 : Int} {x5 : Int} {V : sj_VV} {q : Int × sj_VV} (ha0 : OK9 g a0) (h : g_X9_adds N a0 x1 x2 x3 x4 x5 V = some q) : sj_C X m_X9_adds [sj_r (some a0), sj_i x1, sj_i x2, sj_i x3, sj_i x4, sj_i x5] (g, V) (some (sj_j q.1), (g, q.2)) :=
  sj_C_of (by decide +kernel) (Nat.le_of_ble_eq_true rfl) (lo := [some (sj_r (some a0)), some (sj_i x1), some (sj_i x2), some (sj_i x3), some (sj_i x4), some (sj_i x5), none, none]) rfl (sj_weak (l2 := [some (sj_r (some a0)), some (sj_i x1), some (sj_i x2), some (sj_i x3), some (sj_i x4), some (sj_i x5), none, none]) (⟨rfl, ⟨rfl, ⟨rfl, ⟨rfl, ⟨rfl, ⟨rfl, trivial⟩⟩⟩⟩⟩⟩) (st_X9_adds_0 a0 x1 x2 x3 x4 x5 V ha0 h))
set_option maxHeartbeats 4000000 in
theorem c_X9_adds {X : sj_X} {N : Nat} {a0 : Nat} {x1 : Int} {x2 : Int} {x3 : Int} {x4 : Int} {x5 : Int} {s : sj_Mem} {q : Int × sj_Mem} (h : f_X9_adds N a0 x1 x2 x3 x4 x5 s = some q) : sj_C X m_X9_adds [sj_r (some a0), sj_i x1, sj_i x2, sj_i x3, sj_i x4, sj_i x5] s (some (sj_j q.1), q.2) := by
  obtain ⟨g, V⟩ := s
  unfold f_X9_adds at h
  obtain ⟨ho, h1⟩ := e_ok_some h
  obtain ⟨q2, h2, rfl⟩ := sj_map_some h1
  exact cg_X9_adds ho h2
theorem dX9_comes_0 : decode cX9_comes 0 = .ok (.bipush 101, 2) := by decide +kernel
theorem dX9_comes_2 : decode cX9_comes 2 = .ok (.iload_n 1, 1) := by decide +kernel
theorem dX9_comes_3 : decode cX9_comes 3 = .ok (.imul, 1) := by decide +kernel
theorem dX9_comes_4 : decode cX9_comes 4 = .ok (.iload_n 2, 1) := by decide +kernel
theorem dX9_comes_5 : decode cX9_comes 5 = .ok (.iadd, 1) := by decide +kernel
theorem dX9_comes_6 : decode cX9_comes 6 = .ok (.istore 6, 2) := by decide +kernel
theorem dX9_comes_8 : decode cX9_comes 8 = .ok (.iconst 0, 1) := by decide +kernel
theorem dX9_comes_9 : decode cX9_comes 9 = .ok (.iload_n 2, 1) := by decide +kernel
theorem dX9_comes_10 : decode cX9_comes 10 = .ok (.iload_n 3, 1) := by decide +kernel
theorem dX9_comes_11 : decode cX9_comes 11 = .ok (.isub, 1) := by decide +kernel
theorem dX9_comes_12 : decode cX9_comes 12 = .ok (.invokestatic 111, 3) := by decide +kernel
theorem dX9_comes_15 : decode cX9_comes 15 = .ok (.istore 7, 2) := by decide +kernel
theorem dX9_comes_17 : decode cX9_comes 17 = .ok (.iload 7, 2) := by decide +kernel
theorem dX9_comes_19 : decode cX9_comes 19 = .ok (.bipush 100, 2) := by decide +kernel
theorem dX9_comes_21 : decode cX9_comes 21 = .ok (.iload_n 2, 1) := by decide +kernel
theorem dX9_comes_22 : decode cX9_comes 22 = .ok (.iload_n 3, 1) := by decide +kernel
theorem dX9_comes_23 : decode cX9_comes 23 = .ok (.iadd, 1) := by decide +kernel
theorem dX9_comes_24 : decode cX9_comes 24 = .ok (.invokestatic 104, 3) := by decide +kernel
theorem dX9_comes_27 : decode cX9_comes 27 = .ok (.if_icmp .gt 102, 3) := by decide +kernel
theorem dX9_comes_30 : decode cX9_comes 30 = .ok (.aload_n 0, 1) := by decide +kernel
theorem dX9_comes_31 : decode cX9_comes 31 = .ok (.getfield 29, 3) := by decide +kernel
theorem dX9_comes_34 : decode cX9_comes 34 = .ok (.bipush 101, 2) := by decide +kernel
theorem dX9_comes_36 : decode cX9_comes 36 = .ok (.iload_n 1, 1) := by decide +kernel
theorem dX9_comes_37 : decode cX9_comes 37 = .ok (.iconst 1, 1) := by decide +kernel
theorem dX9_comes_38 : decode cX9_comes 38 = .ok (.isub, 1) := by decide +kernel
theorem dX9_comes_39 : decode cX9_comes 39 = .ok (.imul, 1) := by decide +kernel
theorem dX9_comes_40 : decode cX9_comes 40 = .ok (.iload 7, 2) := by decide +kernel
theorem dX9_comes_42 : decode cX9_comes 42 = .ok (.iadd, 1) := by decide +kernel
theorem dX9_comes_43 : decode cX9_comes 43 = .ok (.laload, 1) := by decide +kernel
theorem dX9_comes_44 : decode cX9_comes 44 = .ok (.lstore 8, 2) := by decide +kernel
theorem dX9_comes_46 : decode cX9_comes 46 = .ok (.lload 8, 2) := by decide +kernel
theorem dX9_comes_48 : decode cX9_comes 48 = .ok (.ldc2_w 249, 3) := by decide +kernel
theorem dX9_comes_51 : decode cX9_comes 51 = .ok (.lcmp, 1) := by decide +kernel
theorem dX9_comes_52 : decode cX9_comes 52 = .ok (.ifCond .ne 6, 3) := by decide +kernel
theorem dX9_comes_55 : decode cX9_comes 55 = .ok (.goto 68, 3) := by decide +kernel
theorem dX9_comes_58 : decode cX9_comes 58 = .ok (.aload_n 0, 1) := by decide +kernel
theorem dX9_comes_59 : decode cX9_comes 59 = .ok (.iload_n 1, 1) := by decide +kernel
theorem dX9_comes_60 : decode cX9_comes 60 = .ok (.iconst 1, 1) := by decide +kernel
theorem dX9_comes_61 : decode cX9_comes 61 = .ok (.isub, 1) := by decide +kernel
theorem dX9_comes_62 : decode cX9_comes 62 = .ok (.iload 7, 2) := by decide +kernel
theorem dX9_comes_64 : decode cX9_comes 64 = .ok (.iload_n 2, 1) := by decide +kernel
theorem dX9_comes_65 : decode cX9_comes 65 = .ok (.iload 4, 2) := by decide +kernel
theorem dX9_comes_67 : decode cX9_comes 67 = .ok (.iload 5, 2) := by decide +kernel
theorem dX9_comes_69 : decode cX9_comes 69 = .ok (.invokevirtual 255, 3) := by decide +kernel
theorem dX9_comes_72 : decode cX9_comes 72 = .ok (.lstore 10, 2) := by decide +kernel
theorem dX9_comes_74 : decode cX9_comes 74 = .ok (.lload 10, 2) := by decide +kernel
theorem dX9_comes_76 : decode cX9_comes 76 = .ok (.ldc2_w 249, 3) := by decide +kernel
theorem dX9_comes_79 : decode cX9_comes 79 = .ok (.lcmp, 1) := by decide +kernel
theorem dX9_comes_80 : decode cX9_comes 80 = .ok (.ifCond .eq 43, 3) := by decide +kernel
theorem dX9_comes_83 : decode cX9_comes 83 = .ok (.lload 8, 2) := by decide +kernel
theorem dX9_comes_85 : decode cX9_comes 85 = .ok (.lload 10, 2) := by decide +kernel
theorem dX9_comes_87 : decode cX9_comes 87 = .ok (.ladd, 1) := by decide +kernel
theorem dX9_comes_88 : decode cX9_comes 88 = .ok (.aload_n 0, 1) := by decide +kernel
theorem dX9_comes_89 : decode cX9_comes 89 = .ok (.getfield 29, 3) := by decide +kernel
theorem dX9_comes_92 : decode cX9_comes 92 = .ok (.iload 6, 2) := by decide +kernel
theorem dX9_comes_94 : decode cX9_comes 94 = .ok (.laload, 1) := by decide +kernel
theorem dX9_comes_95 : decode cX9_comes 95 = .ok (.lcmp, 1) := by decide +kernel
theorem dX9_comes_96 : decode cX9_comes 96 = .ok (.ifCond .lt 6, 3) := by decide +kernel
theorem dX9_comes_99 : decode cX9_comes 99 = .ok (.goto 24, 3) := by decide +kernel
theorem dX9_comes_102 : decode cX9_comes 102 = .ok (.aload_n 0, 1) := by decide +kernel
theorem dX9_comes_103 : decode cX9_comes 103 = .ok (.getfield 29, 3) := by decide +kernel
theorem dX9_comes_106 : decode cX9_comes 106 = .ok (.iload 6, 2) := by decide +kernel
theorem dX9_comes_108 : decode cX9_comes 108 = .ok (.lload 8, 2) := by decide +kernel
theorem dX9_comes_110 : decode cX9_comes 110 = .ok (.lload 10, 2) := by decide +kernel
theorem dX9_comes_112 : decode cX9_comes 112 = .ok (.ladd, 1) := by decide +kernel
theorem dX9_comes_113 : decode cX9_comes 113 = .ok (.lastore, 1) := by decide +kernel
theorem dX9_comes_114 : decode cX9_comes 114 = .ok (.aload_n 0, 1) := by decide +kernel
theorem dX9_comes_115 : decode cX9_comes 115 = .ok (.getfield 33, 3) := by decide +kernel
theorem dX9_comes_118 : decode cX9_comes 118 = .ok (.iload 6, 2) := by decide +kernel
theorem dX9_comes_120 : decode cX9_comes 120 = .ok (.iload 7, 2) := by decide +kernel
theorem dX9_comes_122 : decode cX9_comes 122 = .ok (.iastore, 1) := by decide +kernel
theorem dX9_comes_123 : decode cX9_comes 123 = .ok (.iinc 7 1, 3) := by decide +kernel
theorem dX9_comes_126 : decode cX9_comes 126 = .ok (.goto (-109), 3) := by decide +kernel
theorem dX9_comes_129 : decode cX9_comes 129 = .ok (.return_, 1) := by decide +kernel
set_option maxHeartbeats 4000000 in
theorem st_X9_comes_123 {X : sj_X} {g : sj_G} {s0 : sj_Mem} {N : Nat} {q : Unit × sj_VV} {k17 : Nat → Int → Int → Int → Int → Int → Int → Int → sj_VV → Option (Unit × sj_VV)} (hk17 : ∀ (a0 : Nat) (x1 : Int) (x2 : Int) (x3 : Int) (x4 : Int) (x5 : Int) (x6 : Int) (x7 : Int) (V : sj_VV), OK9 g a0 → k17 a0 x1 x2 x3 x4 x5 x6 x7 V = some q → sj_T X m_X9_comes s0 (none, (g, q.2)) 17 [some (sj_r (some a0)), some (sj_i x1), some (sj_i x2), some (sj_i x3), some (sj_i x4), some (sj_i x5), some (sj_i x6), some (sj_i x7), none, none, none, none] [] (g, V)) :
    ∀ (a0 : Nat) (x1 : Int) (x2 : Int) (x3 : Int) (x4 : Int) (x5 : Int) (x6 : Int) (x7 : Int) (V : sj_VV), OK9 g a0 → g_X9_comes_123 N k17 a0 x1 x2 x3 x4 x5 x6 x7 V = some q → sj_T X m_X9_comes s0 (none, (g, q.2)) 123 [some (sj_r (some a0)), some (sj_i x1), some (sj_i x2), some (sj_i x3), some (sj_i x4), some (sj_i x5), some (sj_i x6), some (sj_i x7), none, none, none, none] [] (g, V) := by
  intro a0 x1 x2 x3 x4 x5 x6 x7 V ha0 h
  unfold g_X9_comes_123 at h
  refine r_iinc (ln := fun w => [some (sj_r (some a0)), some (sj_i x1), some (sj_i x2), some (sj_i x3), some (sj_i x4), some (sj_i x5), some (sj_i x6), some (sj_i w), none, none, none, none]) (pc := 123) h dX9_comes_123 rfl (Nat.le_of_ble_eq_true rfl) (fun _ => rfl) (fun v1 h => ?_)
  refine r_goto (pc := 126) (tgt := 17) dX9_comes_126 (by decide) ?_
  exact sj_weak (l2 := [some (sj_r (some a0)), some (sj_i x1), some (sj_i x2), some (sj_i x3), some (sj_i x4), some (sj_i x5), some (sj_i x6), some (sj_i v1), none, none, none, none]) (⟨rfl, ⟨rfl, ⟨rfl, ⟨rfl, ⟨rfl, ⟨rfl, ⟨rfl, ⟨rfl, trivial⟩⟩⟩⟩⟩⟩⟩⟩) (hk17 a0 x1 x2 x3 x4 x5 x6 v1 V ha0 h)
set_option maxHeartbeats 4000000 in
theorem st_X9_comes_17_b {X : sj_X} {g : sj_G} {s0 : sj_Mem} {N : Nat} {q : Unit × sj_VV} {k17 : Nat → Int → Int → Int → Int → Int → Int → Int → sj_VV → Option (Unit × sj_VV)} (hk17 : ∀ (a0 : Nat) (x1 : Int) (x2 : Int) (x3 : Int) (x4 : Int) (x5 : Int) (x6 : Int) (x7 : Int) (V : sj_VV), OK9 g a0 → k17 a0 x1 x2 x3 x4 x5 x6 x7 V = some q → sj_T X m_X9_comes s0 (none, (g, q.2)) 17 [some (sj_r (some a0)), some (sj_i x1), some (sj_i x2), some (sj_i x3), some (sj_i x4), some (sj_i x5), some (sj_i x6), some (sj_i x7), none, none, none, none] [] (g, V)) :
    ∀ (a0 : Nat) (x1 : Int) (x2 : Int) (x3 : Int) (x4 : Int) (x5 : Int) (x6 : Int) (x7 : Int) (V : sj_VV), OK9 g a0 → g_X9_comes_17_b N k17 a0 x1 x2 x3 x4 x5 x6 x7 V = some q → sj_T X m_X9_comes s0 (none, (g, q.2)) 17 [some (sj_r (some a0)), some (sj_i x1), some (sj_i x2), some (sj_i x3), some (sj_i x4), some (sj_i x5), some (sj_i x6), some (sj_i x7), none, none, none, none] [] (g, V) := by
  intro a0 x1 x2 x3 x4 x5 x6 x7 V ha0 h
  unfold g_X9_comes_17_b at h
  refine r_iload (pc := 17) dX9_comes_17 rfl ?_
  refine r_bipush (pc := 19) dX9_comes_19 ⟨by decide, by decide⟩ ?_
  refine r_iload_n (pc := 21) dX9_comes_21 rfl rfl ?_
  refine r_iload_n (pc := 22) dX9_comes_22 rfl rfl ?_
  refine r_iadd (pc := 23) dX9_comes_23 ?_
  refine r_callSs (pc := 24) (fun v => some (sj_i v)) (As := [sj_i 100, sj_i (x2 + x3)]) (rest := [(sj_i x7)]) h dX9_comes_24 mw_X9_104 kw_1352 (fun _ _ hc => cg_X9_least  hc) rfl ⟨(Nat.le_of_ble_eq_true rfl), (Nat.le_of_ble_eq_true rfl)⟩ (Nat.le_of_ble_eq_true rfl) rfl (fun v2 V1 h => ?_)
  refine r_icmp_gt (pc := 27) (tgt := 129) h dX9_comes_27 (by decide) (fun h => ?_) (fun h => ?_)
  · exact r_vrets (pc := 129) h rfl dX9_comes_129
  · refine r_aload_n (pc := 30) dX9_comes_30 rfl rfl ?_
    refine r_gRs (b := a0 + 6) (pc := 31) dX9_comes_31 fw_X9_29 rfl (ok9 ha0) (ok9_22 ha0).1 ?_
    refine r_bipush (pc := 34) dX9_comes_34 ⟨by decide, by decide⟩ ?_
    refine r_iload_n (pc := 36) dX9_comes_36 rfl rfl ?_
    refine r_iconst (pc := 37) dX9_comes_37 ?_
    refine r_isub (pc := 38) dX9_comes_38 ?_
    refine r_imul (pc := 39) dX9_comes_39 ?_
    refine r_iload (pc := 40) dX9_comes_40 rfl ?_
    refine r_iadd (pc := 42) dX9_comes_42 ?_
    refine r_laloads (pc := 43) h dX9_comes_43 (ok9_22 ha0).2 (fun h => ?_)
    refine r_lstoreL (ln := fun w => [some (sj_r (some a0)), some (sj_i x1), some (sj_i x2), some (sj_i x3), some (sj_i x4), some (sj_i x5), some (sj_i x6), some (sj_i x7), some (sj_j w), none, none, none]) (pc := 44) h dX9_comes_44 (Nat.le_of_ble_eq_true rfl) (fun _ => rfl) (fun v3 h => ?_)
    refine r_lload (pc := 46) dX9_comes_46 rfl ?_
    refine r_ldc2 (n := 4000000000000000000) (pc := 48) dX9_comes_48 kc_X9_249 ?_
    refine r_lne (pc := 51) (tgt := 58) h dX9_comes_51 rfl dX9_comes_52 (by decide) (fun h => ?_) (fun h => ?_)
    · refine r_goto (pc := 55) (tgt := 123) dX9_comes_55 (by decide) ?_
      exact sj_weak (l2 := [some (sj_r (some a0)), some (sj_i x1), some (sj_i x2), some (sj_i x3), some (sj_i x4), some (sj_i x5), some (sj_i x6), some (sj_i x7), none, none, none, none]) (⟨rfl, ⟨rfl, ⟨rfl, ⟨rfl, ⟨rfl, ⟨rfl, ⟨rfl, ⟨rfl, trivial⟩⟩⟩⟩⟩⟩⟩⟩) (st_X9_comes_123 hk17 a0 x1 x2 x3 x4 x5 x6 x7 V1 ha0 h)
    · refine r_aload_n (pc := 58) dX9_comes_58 rfl rfl ?_
      refine r_iload_n (pc := 59) dX9_comes_59 rfl rfl ?_
      refine r_iconst (pc := 60) dX9_comes_60 ?_
      refine r_isub (pc := 61) dX9_comes_61 ?_
      refine r_iload (pc := 62) dX9_comes_62 rfl ?_
      refine r_iload_n (pc := 64) dX9_comes_64 rfl rfl ?_
      refine r_iload (pc := 65) dX9_comes_65 rfl ?_
      refine r_iload (pc := 67) dX9_comes_67 rfl ?_
      refine r_callVs (pc := 69) (fun v => some (sj_j v)) (As := [sj_i (x1 - 1), sj_i x7, sj_i x2, sj_i x4, sj_i x5]) (rest := []) (b := a0) (ok9 ha0) h dX9_comes_69 mw_X9_255 vw_X9_adds (fun _ _ hc => cg_X9_adds ha0 hc) rfl ⟨(Nat.le_of_ble_eq_true rfl), (Nat.le_of_ble_eq_true rfl)⟩ (Nat.le_of_ble_eq_true rfl) rfl (fun v5 V4 h => ?_)
      refine r_lstore (ln := [some (sj_r (some a0)), some (sj_i x1), some (sj_i x2), some (sj_i x3), some (sj_i x4), some (sj_i x5), some (sj_i x6), some (sj_i x7), some (sj_j v3), none, some (sj_j v5), none]) (pc := 72) dX9_comes_72 (Nat.le_of_ble_eq_true rfl) rfl ?_
      refine r_lload (pc := 74) dX9_comes_74 rfl ?_
      refine r_ldc2 (n := 4000000000000000000) (pc := 76) dX9_comes_76 kc_X9_249 ?_
      refine r_leq (pc := 79) (tgt := 123) h dX9_comes_79 rfl dX9_comes_80 (by decide) (fun h => ?_) (fun h => ?_)
      · exact sj_weak (l2 := [some (sj_r (some a0)), some (sj_i x1), some (sj_i x2), some (sj_i x3), some (sj_i x4), some (sj_i x5), some (sj_i x6), some (sj_i x7), none, none, none, none]) (⟨rfl, ⟨rfl, ⟨rfl, ⟨rfl, ⟨rfl, ⟨rfl, ⟨rfl, ⟨rfl, trivial⟩⟩⟩⟩⟩⟩⟩⟩) (st_X9_comes_123 hk17 a0 x1 x2 x3 x4 x5 x6 x7 V4 ha0 h)
      · refine r_lload (pc := 83) dX9_comes_83 rfl ?_
        refine r_lload (pc := 85) dX9_comes_85 rfl ?_
        refine r_ladd (pc := 87) dX9_comes_87 ?_
        refine r_aload_n (pc := 88) dX9_comes_88 rfl rfl ?_
        refine r_gRs (b := a0 + 6) (pc := 89) dX9_comes_89 fw_X9_29 rfl (ok9 ha0) (ok9_22 ha0).1 ?_
        refine r_iload (pc := 92) dX9_comes_92 rfl ?_
        refine r_laloads (pc := 94) h dX9_comes_94 (ok9_22 ha0).2 (fun h => ?_)
        refine r_llt (pc := 95) (tgt := 102) h dX9_comes_95 rfl dX9_comes_96 (by decide) (fun h => ?_) (fun h => ?_)
        · refine r_aload_n (pc := 102) dX9_comes_102 rfl rfl ?_
          refine r_gRs (b := a0 + 6) (pc := 103) dX9_comes_103 fw_X9_29 rfl (ok9 ha0) (ok9_22 ha0).1 ?_
          refine r_iload (pc := 106) dX9_comes_106 rfl ?_
          refine r_lload (pc := 108) dX9_comes_108 rfl ?_
          refine r_lload (pc := 110) dX9_comes_110 rfl ?_
          refine r_ladd (pc := 112) dX9_comes_112 ?_
          refine r_lastores (pc := 113) h dX9_comes_113 (ok9_22 ha0).2 (fun V6 h => ?_)
          refine r_aload_n (pc := 114) dX9_comes_114 rfl rfl ?_
          refine r_gRs (b := a0 + 7) (pc := 115) dX9_comes_115 fw_X9_33 rfl (ok9 ha0) (ok9_23 ha0).1 ?_
          refine r_iload (pc := 118) dX9_comes_118 rfl ?_
          refine r_iload (pc := 120) dX9_comes_120 rfl ?_
          refine r_iastores (pc := 122) h dX9_comes_122 (ok9_23 ha0).2 (fun V7 h => ?_)
          exact sj_weak (l2 := [some (sj_r (some a0)), some (sj_i x1), some (sj_i x2), some (sj_i x3), some (sj_i x4), some (sj_i x5), some (sj_i x6), some (sj_i x7), none, none, none, none]) (⟨rfl, ⟨rfl, ⟨rfl, ⟨rfl, ⟨rfl, ⟨rfl, ⟨rfl, ⟨rfl, trivial⟩⟩⟩⟩⟩⟩⟩⟩) (st_X9_comes_123 hk17 a0 x1 x2 x3 x4 x5 x6 x7 V7 ha0 h)
        · refine r_goto (pc := 99) (tgt := 123) dX9_comes_99 (by decide) ?_
          exact sj_weak (l2 := [some (sj_r (some a0)), some (sj_i x1), some (sj_i x2), some (sj_i x3), some (sj_i x4), some (sj_i x5), some (sj_i x6), some (sj_i x7), none, none, none, none]) (⟨rfl, ⟨rfl, ⟨rfl, ⟨rfl, ⟨rfl, ⟨rfl, ⟨rfl, ⟨rfl, trivial⟩⟩⟩⟩⟩⟩⟩⟩) (st_X9_comes_123 hk17 a0 x1 x2 x3 x4 x5 x6 x7 V4 ha0 h)
set_option maxHeartbeats 4000000 in
theorem st_X9_comes_17 {X : sj_X} {g : sj_G} {s0 : sj_Mem} {N : Nat} {q : Unit × sj_VV} :
    ∀ (n : Nat) (a0 : Nat) (x1 : Int) (x2 : Int) (x3 : Int) (x4 : Int) (x5 : Int) (x6 : Int) (x7 : Int) (V : sj_VV), OK9 g a0 → g_X9_comes_17 N n a0 x1 x2 x3 x4 x5 x6 x7 V = some q → sj_T X m_X9_comes s0 (none, (g, q.2)) 17 [some (sj_r (some a0)), some (sj_i x1), some (sj_i x2), some (sj_i x3), some (sj_i x4), some (sj_i x5), some (sj_i x6), some (sj_i x7), none, none, none, none] [] (g, V) := by
  intro n
  induction n with
  | zero => intro a0 x1 x2 x3 x4 x5 x6 x7 V ha0 h; exact nomatch h
  | succ n ih => intro a0 x1 x2 x3 x4 x5 x6 x7 V ha0 h; exact st_X9_comes_17_b (N := N) ih a0 x1 x2 x3 x4 x5 x6 x7 V ha0 h
set_option maxHeartbeats 4000000 in
theorem st_X9_comes_0 {X : sj_X} {g : sj_G} {s0 : sj_Mem} {N : Nat} {q : Unit × sj_VV} :
    ∀ (a0 : Nat) (x1 : Int) (x2 : Int) (x3 : Int) (x4 : Int) (x5 : Int) (V : sj_VV), OK9 g a0 → g_X9_comes N a0 x1 x2 x3 x4 x5 V = some q → sj_T X m_X9_comes s0 (none, (g, q.2)) 0 [some (sj_r (some a0)), some (sj_i x1), some (sj_i x2), some (sj_i x3), some (sj_i x4), some (sj_i x5), none, none, none, none, none, none] [] (g, V) := by
  intro a0 x1 x2 x3 x4 x5 V ha0 h
  unfold g_X9_comes at h
  refine r_bipush (pc := 0) dX9_comes_0 ⟨by decide, by decide⟩ ?_
  refine r_iload_n (pc := 2) dX9_comes_2 rfl rfl ?_
  refine r_imul (pc := 3) dX9_comes_3 ?_
  refine r_iload_n (pc := 4) dX9_comes_4 rfl rfl ?_
  refine r_iadd (pc := 5) dX9_comes_5 ?_
  refine r_istoreL (ln := fun w => [some (sj_r (some a0)), some (sj_i x1), some (sj_i x2), some (sj_i x3), some (sj_i x4), some (sj_i x5), some (sj_i w), none, none, none, none, none]) (pc := 6) h dX9_comes_6 (Nat.le_of_ble_eq_true rfl) (fun _ => rfl) (fun v1 h => ?_)
  refine r_iconst (pc := 8) dX9_comes_8 ?_
  refine r_iload_n (pc := 9) dX9_comes_9 rfl rfl ?_
  refine r_iload_n (pc := 10) dX9_comes_10 rfl rfl ?_
  refine r_isub (pc := 11) dX9_comes_11 ?_
  refine r_callSs (pc := 12) (fun v => some (sj_i v)) (As := [sj_i 0, sj_i (x2 - x3)]) (rest := []) h dX9_comes_12 mw_X9_111 kw_1300 (fun _ _ hc => cg_X9_most  hc) rfl ⟨(Nat.le_of_ble_eq_true rfl), (Nat.le_of_ble_eq_true rfl)⟩ (Nat.le_of_ble_eq_true rfl) rfl (fun v3 V2 h => ?_)
  refine r_istore (ln := [some (sj_r (some a0)), some (sj_i x1), some (sj_i x2), some (sj_i x3), some (sj_i x4), some (sj_i x5), some (sj_i v1), some (sj_i v3), none, none, none, none]) (pc := 15) dX9_comes_15 (Nat.le_of_ble_eq_true rfl) rfl ?_
  exact sj_weak (l2 := [some (sj_r (some a0)), some (sj_i x1), some (sj_i x2), some (sj_i x3), some (sj_i x4), some (sj_i x5), some (sj_i v1), some (sj_i v3), none, none, none, none]) (⟨rfl, ⟨rfl, ⟨rfl, ⟨rfl, ⟨rfl, ⟨rfl, ⟨rfl, ⟨rfl, trivial⟩⟩⟩⟩⟩⟩⟩⟩) (st_X9_comes_17 N a0 x1 x2 x3 x4 x5 v1 v3 V2 ha0 h)
set_option maxHeartbeats 4000000 in
theorem cg_X9_comes {X : sj_X} {g : sj_G} {N : Nat} {a0 : Nat} {x1 : Int} {x2 : Int} {x3 : Int} {x4 : Int} {x5 : Int} {V : sj_VV} {q : Unit × sj_VV} (ha0 : OK9 g a0) (h : g_X9_comes N a0 x1 x2 x3 x4 x5 V = some q) : sj_C X m_X9_comes [sj_r (some a0), sj_i x1, sj_i x2, sj_i x3, sj_i x4, sj_i x5] (g, V) (none, (g, q.2)) :=
  sj_C_of (by decide +kernel) (Nat.le_of_ble_eq_true rfl) (lo := [some (sj_r (some a0)), some (sj_i x1), some (sj_i x2), some (sj_i x3), some (sj_i x4), some (sj_i x5), none, none, none, none, none, none]) rfl (sj_weak (l2 := [some (sj_r (some a0)), some (sj_i x1), some (sj_i x2), some (sj_i x3), some (sj_i x4), some (sj_i x5), none, none, none, none, none, none]) (⟨rfl, ⟨rfl, ⟨rfl, ⟨rfl, ⟨rfl, ⟨rfl, trivial⟩⟩⟩⟩⟩⟩) (st_X9_comes_0 a0 x1 x2 x3 x4 x5 V ha0 h))
set_option maxHeartbeats 4000000 in
theorem c_X9_comes {X : sj_X} {N : Nat} {a0 : Nat} {x1 : Int} {x2 : Int} {x3 : Int} {x4 : Int} {x5 : Int} {s : sj_Mem} {q : Unit × sj_Mem} (h : f_X9_comes N a0 x1 x2 x3 x4 x5 s = some q) : sj_C X m_X9_comes [sj_r (some a0), sj_i x1, sj_i x2, sj_i x3, sj_i x4, sj_i x5] s (none, q.2) := by
  obtain ⟨g, V⟩ := s
  unfold f_X9_comes at h
  obtain ⟨ho, h1⟩ := e_ok_some h
  obtain ⟨q2, h2, rfl⟩ := sj_map_some h1
  exact cg_X9_comes ho h2
theorem dX9_goes_0 : decode cX9_goes 0 = .ok (.ldc2_w 249, 3) := by decide +kernel
theorem dX9_goes_3 : decode cX9_goes 3 = .ok (.lstore 6, 2) := by decide +kernel
theorem dX9_goes_5 : decode cX9_goes 5 = .ok (.iload_n 1, 1) := by decide +kernel
theorem dX9_goes_6 : decode cX9_goes 6 = .ok (.istore 8, 2) := by decide +kernel
theorem dX9_goes_8 : decode cX9_goes 8 = .ok (.iload 8, 2) := by decide +kernel
theorem dX9_goes_10 : decode cX9_goes 10 = .ok (.aload_n 0, 1) := by decide +kernel
theorem dX9_goes_11 : decode cX9_goes 11 = .ok (.getfield 9, 3) := by decide +kernel
theorem dX9_goes_14 : decode cX9_goes 14 = .ok (.iconst 0, 1) := by decide +kernel
theorem dX9_goes_15 : decode cX9_goes 15 = .ok (.iaload, 1) := by decide +kernel
theorem dX9_goes_16 : decode cX9_goes 16 = .ok (.if_icmp .gt 183, 3) := by decide +kernel
theorem dX9_goes_19 : decode cX9_goes 19 = .ok (.iconst 0, 1) := by decide +kernel
theorem dX9_goes_20 : decode cX9_goes 20 = .ok (.istore 9, 2) := by decide +kernel
theorem dX9_goes_22 : decode cX9_goes 22 = .ok (.iload 9, 2) := by decide +kernel
theorem dX9_goes_24 : decode cX9_goes 24 = .ok (.bipush 101, 2) := by decide +kernel
theorem dX9_goes_26 : decode cX9_goes 26 = .ok (.if_icmp .ge 90, 3) := by decide +kernel
theorem dX9_goes_29 : decode cX9_goes 29 = .ok (.aload_n 0, 1) := by decide +kernel
theorem dX9_goes_30 : decode cX9_goes 30 = .ok (.getfield 29, 3) := by decide +kernel
theorem dX9_goes_33 : decode cX9_goes 33 = .ok (.bipush 101, 2) := by decide +kernel
theorem dX9_goes_35 : decode cX9_goes 35 = .ok (.iload 8, 2) := by decide +kernel
theorem dX9_goes_37 : decode cX9_goes 37 = .ok (.imul, 1) := by decide +kernel
theorem dX9_goes_38 : decode cX9_goes 38 = .ok (.iload 9, 2) := by decide +kernel
theorem dX9_goes_40 : decode cX9_goes 40 = .ok (.iadd, 1) := by decide +kernel
theorem dX9_goes_41 : decode cX9_goes 41 = .ok (.ldc2_w 249, 3) := by decide +kernel
theorem dX9_goes_44 : decode cX9_goes 44 = .ok (.lastore, 1) := by decide +kernel
theorem dX9_goes_45 : decode cX9_goes 45 = .ok (.iload 8, 2) := by decide +kernel
theorem dX9_goes_47 : decode cX9_goes 47 = .ok (.iload_n 1, 1) := by decide +kernel
theorem dX9_goes_48 : decode cX9_goes 48 = .ok (.if_icmp .eq 62, 3) := by decide +kernel
theorem dX9_goes_51 : decode cX9_goes 51 = .ok (.iload 9, 2) := by decide +kernel
theorem dX9_goes_53 : decode cX9_goes 53 = .ok (.aload_n 0, 1) := by decide +kernel
theorem dX9_goes_54 : decode cX9_goes 54 = .ok (.getfield 9, 3) := by decide +kernel
theorem dX9_goes_57 : decode cX9_goes 57 = .ok (.iconst 3, 1) := by decide +kernel
theorem dX9_goes_58 : decode cX9_goes 58 = .ok (.iload 8, 2) := by decide +kernel
theorem dX9_goes_60 : decode cX9_goes 60 = .ok (.iadd, 1) := by decide +kernel
theorem dX9_goes_61 : decode cX9_goes 61 = .ok (.iaload, 1) := by decide +kernel
theorem dX9_goes_62 : decode cX9_goes 62 = .ok (.if_icmp .gt 48, 3) := by decide +kernel
theorem dX9_goes_65 : decode cX9_goes 65 = .ok (.iload 9, 2) := by decide +kernel
theorem dX9_goes_67 : decode cX9_goes 67 = .ok (.aload_n 0, 1) := by decide +kernel
theorem dX9_goes_68 : decode cX9_goes 68 = .ok (.getfield 9, 3) := by decide +kernel
theorem dX9_goes_71 : decode cX9_goes 71 = .ok (.iconst 3, 1) := by decide +kernel
theorem dX9_goes_72 : decode cX9_goes 72 = .ok (.iload 8, 2) := by decide +kernel
theorem dX9_goes_74 : decode cX9_goes 74 = .ok (.iadd, 1) := by decide +kernel
theorem dX9_goes_75 : decode cX9_goes 75 = .ok (.iaload, 1) := by decide +kernel
theorem dX9_goes_76 : decode cX9_goes 76 = .ok (.if_icmp .ge 21, 3) := by decide +kernel
theorem dX9_goes_79 : decode cX9_goes 79 = .ok (.iload 9, 2) := by decide +kernel
theorem dX9_goes_81 : decode cX9_goes 81 = .ok (.aload_n 0, 1) := by decide +kernel
theorem dX9_goes_82 : decode cX9_goes 82 = .ok (.getfield 9, 3) := by decide +kernel
theorem dX9_goes_85 : decode cX9_goes 85 = .ok (.bipush 44, 2) := by decide +kernel
theorem dX9_goes_87 : decode cX9_goes 87 = .ok (.iload 8, 2) := by decide +kernel
theorem dX9_goes_89 : decode cX9_goes 89 = .ok (.iadd, 1) := by decide +kernel
theorem dX9_goes_90 : decode cX9_goes 90 = .ok (.iaload, 1) := by decide +kernel
theorem dX9_goes_91 : decode cX9_goes 91 = .ok (.if_icmp .ge 6, 3) := by decide +kernel
theorem dX9_goes_94 : decode cX9_goes 94 = .ok (.goto 16, 3) := by decide +kernel
theorem dX9_goes_97 : decode cX9_goes 97 = .ok (.aload_n 0, 1) := by decide +kernel
theorem dX9_goes_98 : decode cX9_goes 98 = .ok (.iload 8, 2) := by decide +kernel
theorem dX9_goes_100 : decode cX9_goes 100 = .ok (.iload 9, 2) := by decide +kernel
theorem dX9_goes_102 : decode cX9_goes 102 = .ok (.iload_n 3, 1) := by decide +kernel
theorem dX9_goes_103 : decode cX9_goes 103 = .ok (.iload 4, 2) := by decide +kernel
theorem dX9_goes_105 : decode cX9_goes 105 = .ok (.iload 5, 2) := by decide +kernel
theorem dX9_goes_107 : decode cX9_goes 107 = .ok (.invokevirtual 251, 3) := by decide +kernel
theorem dX9_goes_110 : decode cX9_goes 110 = .ok (.iinc 9 1, 3) := by decide +kernel
theorem dX9_goes_113 : decode cX9_goes 113 = .ok (.goto (-91), 3) := by decide +kernel
theorem dX9_goes_116 : decode cX9_goes 116 = .ok (.bipush 101, 2) := by decide +kernel
theorem dX9_goes_118 : decode cX9_goes 118 = .ok (.iload 8, 2) := by decide +kernel
theorem dX9_goes_120 : decode cX9_goes 120 = .ok (.imul, 1) := by decide +kernel
theorem dX9_goes_121 : decode cX9_goes 121 = .ok (.aload_n 0, 1) := by decide +kernel
theorem dX9_goes_122 : decode cX9_goes 122 = .ok (.getfield 9, 3) := by decide +kernel
theorem dX9_goes_125 : decode cX9_goes 125 = .ok (.iconst 3, 1) := by decide +kernel
theorem dX9_goes_126 : decode cX9_goes 126 = .ok (.iload 8, 2) := by decide +kernel
theorem dX9_goes_128 : decode cX9_goes 128 = .ok (.iadd, 1) := by decide +kernel
theorem dX9_goes_129 : decode cX9_goes 129 = .ok (.iaload, 1) := by decide +kernel
theorem dX9_goes_130 : decode cX9_goes 130 = .ok (.iadd, 1) := by decide +kernel
theorem dX9_goes_131 : decode cX9_goes 131 = .ok (.istore 9, 2) := by decide +kernel
theorem dX9_goes_133 : decode cX9_goes 133 = .ok (.aload_n 0, 1) := by decide +kernel
theorem dX9_goes_134 : decode cX9_goes 134 = .ok (.getfield 29, 3) := by decide +kernel
theorem dX9_goes_137 : decode cX9_goes 137 = .ok (.iload 9, 2) := by decide +kernel
theorem dX9_goes_139 : decode cX9_goes 139 = .ok (.laload, 1) := by decide +kernel
theorem dX9_goes_140 : decode cX9_goes 140 = .ok (.lload 6, 2) := by decide +kernel
theorem dX9_goes_142 : decode cX9_goes 142 = .ok (.lcmp, 1) := by decide +kernel
theorem dX9_goes_143 : decode cX9_goes 143 = .ok (.ifCond .ge 12, 3) := by decide +kernel
theorem dX9_goes_146 : decode cX9_goes 146 = .ok (.aload_n 0, 1) := by decide +kernel
theorem dX9_goes_147 : decode cX9_goes 147 = .ok (.getfield 29, 3) := by decide +kernel
theorem dX9_goes_150 : decode cX9_goes 150 = .ok (.iload 9, 2) := by decide +kernel
theorem dX9_goes_152 : decode cX9_goes 152 = .ok (.laload, 1) := by decide +kernel
theorem dX9_goes_153 : decode cX9_goes 153 = .ok (.lstore 6, 2) := by decide +kernel
theorem dX9_goes_155 : decode cX9_goes 155 = .ok (.aload_n 0, 1) := by decide +kernel
theorem dX9_goes_156 : decode cX9_goes 156 = .ok (.getfield 36, 3) := by decide +kernel
theorem dX9_goes_159 : decode cX9_goes 159 = .ok (.iload 8, 2) := by decide +kernel
theorem dX9_goes_161 : decode cX9_goes 161 = .ok (.aload_n 0, 1) := by decide +kernel
theorem dX9_goes_162 : decode cX9_goes 162 = .ok (.getfield 29, 3) := by decide +kernel
theorem dX9_goes_165 : decode cX9_goes 165 = .ok (.iload 9, 2) := by decide +kernel
theorem dX9_goes_167 : decode cX9_goes 167 = .ok (.laload, 1) := by decide +kernel
theorem dX9_goes_168 : decode cX9_goes 168 = .ok (.lastore, 1) := by decide +kernel
theorem dX9_goes_169 : decode cX9_goes 169 = .ok (.aload_n 0, 1) := by decide +kernel
theorem dX9_goes_170 : decode cX9_goes 170 = .ok (.getfield 29, 3) := by decide +kernel
theorem dX9_goes_173 : decode cX9_goes 173 = .ok (.iload 9, 2) := by decide +kernel
theorem dX9_goes_175 : decode cX9_goes 175 = .ok (.iload 8, 2) := by decide +kernel
theorem dX9_goes_177 : decode cX9_goes 177 = .ok (.iload_n 1, 1) := by decide +kernel
theorem dX9_goes_178 : decode cX9_goes 178 = .ok (.if_icmp .eq 7, 3) := by decide +kernel
theorem dX9_goes_181 : decode cX9_goes 181 = .ok (.iload_n 2, 1) := by decide +kernel
theorem dX9_goes_182 : decode cX9_goes 182 = .ok (.ifCond .eq 7, 3) := by decide +kernel
theorem dX9_goes_185 : decode cX9_goes 185 = .ok (.lconst 0, 1) := by decide +kernel
theorem dX9_goes_186 : decode cX9_goes 186 = .ok (.goto 6, 3) := by decide +kernel
theorem dX9_goes_189 : decode cX9_goes 189 = .ok (.ldc2_w 249, 3) := by decide +kernel
theorem dX9_goes_192 : decode cX9_goes 192 = .ok (.lastore, 1) := by decide +kernel
theorem dX9_goes_193 : decode cX9_goes 193 = .ok (.iinc 8 1, 3) := by decide +kernel
theorem dX9_goes_196 : decode cX9_goes 196 = .ok (.goto (-188), 3) := by decide +kernel
theorem dX9_goes_199 : decode cX9_goes 199 = .ok (.lload 6, 2) := by decide +kernel
theorem dX9_goes_201 : decode cX9_goes 201 = .ok (.lreturn, 1) := by decide +kernel
set_option maxHeartbeats 4000000 in
theorem st_X9_goes_110 {X : sj_X} {g : sj_G} {s0 : sj_Mem} {N : Nat} {q : Int × sj_VV} {k8 : Nat → Int → Int → Int → Int → Int → Int → Int → sj_VV → Option (Int × sj_VV)} {k22 : Nat → Int → Int → Int → Int → Int → Int → Int → Int → sj_VV → Option (Int × sj_VV)} (hk8 : ∀ (a0 : Nat) (x1 : Int) (x2 : Int) (x3 : Int) (x4 : Int) (x5 : Int) (x6 : Int) (x8 : Int) (V : sj_VV), OK9 g a0 → k8 a0 x1 x2 x3 x4 x5 x6 x8 V = some q → sj_T X m_X9_goes s0 (some (sj_j q.1), (g, q.2)) 8 [some (sj_r (some a0)), some (sj_i x1), some (sj_i x2), some (sj_i x3), some (sj_i x4), some (sj_i x5), some (sj_j x6), none, some (sj_i x8), none] [] (g, V)) (hk22 : ∀ (a0 : Nat) (x1 : Int) (x2 : Int) (x3 : Int) (x4 : Int) (x5 : Int) (x6 : Int) (x8 : Int) (x9 : Int) (V : sj_VV), OK9 g a0 → k22 a0 x1 x2 x3 x4 x5 x6 x8 x9 V = some q → sj_T X m_X9_goes s0 (some (sj_j q.1), (g, q.2)) 22 [some (sj_r (some a0)), some (sj_i x1), some (sj_i x2), some (sj_i x3), some (sj_i x4), some (sj_i x5), some (sj_j x6), none, some (sj_i x8), some (sj_i x9)] [] (g, V)) :
    ∀ (a0 : Nat) (x1 : Int) (x2 : Int) (x3 : Int) (x4 : Int) (x5 : Int) (x6 : Int) (x8 : Int) (x9 : Int) (V : sj_VV), OK9 g a0 → g_X9_goes_110 N k8 k22 a0 x1 x2 x3 x4 x5 x6 x8 x9 V = some q → sj_T X m_X9_goes s0 (some (sj_j q.1), (g, q.2)) 110 [some (sj_r (some a0)), some (sj_i x1), some (sj_i x2), some (sj_i x3), some (sj_i x4), some (sj_i x5), some (sj_j x6), none, some (sj_i x8), some (sj_i x9)] [] (g, V) := by
  intro a0 x1 x2 x3 x4 x5 x6 x8 x9 V ha0 h
  unfold g_X9_goes_110 at h
  refine r_iinc (ln := fun w => [some (sj_r (some a0)), some (sj_i x1), some (sj_i x2), some (sj_i x3), some (sj_i x4), some (sj_i x5), some (sj_j x6), none, some (sj_i x8), some (sj_i w)]) (pc := 110) h dX9_goes_110 rfl (Nat.le_of_ble_eq_true rfl) (fun _ => rfl) (fun v1 h => ?_)
  refine r_goto (pc := 113) (tgt := 22) dX9_goes_113 (by decide) ?_
  exact sj_weak (l2 := [some (sj_r (some a0)), some (sj_i x1), some (sj_i x2), some (sj_i x3), some (sj_i x4), some (sj_i x5), some (sj_j x6), none, some (sj_i x8), some (sj_i v1)]) (⟨rfl, ⟨rfl, ⟨rfl, ⟨rfl, ⟨rfl, ⟨rfl, ⟨rfl, ⟨rfl, ⟨rfl, trivial⟩⟩⟩⟩⟩⟩⟩⟩⟩) (hk22 a0 x1 x2 x3 x4 x5 x6 x8 v1 V ha0 h)
set_option maxHeartbeats 4000000 in
theorem st_X9_goes_97 {X : sj_X} {g : sj_G} {s0 : sj_Mem} {N : Nat} {q : Int × sj_VV} {k8 : Nat → Int → Int → Int → Int → Int → Int → Int → sj_VV → Option (Int × sj_VV)} {k22 : Nat → Int → Int → Int → Int → Int → Int → Int → Int → sj_VV → Option (Int × sj_VV)} (hk8 : ∀ (a0 : Nat) (x1 : Int) (x2 : Int) (x3 : Int) (x4 : Int) (x5 : Int) (x6 : Int) (x8 : Int) (V : sj_VV), OK9 g a0 → k8 a0 x1 x2 x3 x4 x5 x6 x8 V = some q → sj_T X m_X9_goes s0 (some (sj_j q.1), (g, q.2)) 8 [some (sj_r (some a0)), some (sj_i x1), some (sj_i x2), some (sj_i x3), some (sj_i x4), some (sj_i x5), some (sj_j x6), none, some (sj_i x8), none] [] (g, V)) (hk22 : ∀ (a0 : Nat) (x1 : Int) (x2 : Int) (x3 : Int) (x4 : Int) (x5 : Int) (x6 : Int) (x8 : Int) (x9 : Int) (V : sj_VV), OK9 g a0 → k22 a0 x1 x2 x3 x4 x5 x6 x8 x9 V = some q → sj_T X m_X9_goes s0 (some (sj_j q.1), (g, q.2)) 22 [some (sj_r (some a0)), some (sj_i x1), some (sj_i x2), some (sj_i x3), some (sj_i x4), some (sj_i x5), some (sj_j x6), none, some (sj_i x8), some (sj_i x9)] [] (g, V)) :
    ∀ (a0 : Nat) (x1 : Int) (x2 : Int) (x3 : Int) (x4 : Int) (x5 : Int) (x6 : Int) (x8 : Int) (x9 : Int) (V : sj_VV), OK9 g a0 → g_X9_goes_97 N k8 k22 a0 x1 x2 x3 x4 x5 x6 x8 x9 V = some q → sj_T X m_X9_goes s0 (some (sj_j q.1), (g, q.2)) 97 [some (sj_r (some a0)), some (sj_i x1), some (sj_i x2), some (sj_i x3), some (sj_i x4), some (sj_i x5), some (sj_j x6), none, some (sj_i x8), some (sj_i x9)] [] (g, V) := by
  intro a0 x1 x2 x3 x4 x5 x6 x8 x9 V ha0 h
  unfold g_X9_goes_97 at h
  refine r_aload_n (pc := 97) dX9_goes_97 rfl rfl ?_
  refine r_iload (pc := 98) dX9_goes_98 rfl ?_
  refine r_iload (pc := 100) dX9_goes_100 rfl ?_
  refine r_iload_n (pc := 102) dX9_goes_102 rfl rfl ?_
  refine r_iload (pc := 103) dX9_goes_103 rfl ?_
  refine r_iload (pc := 105) dX9_goes_105 rfl ?_
  refine r_callVs (pc := 107) (fun _ => none) (As := [sj_i x8, sj_i x9, sj_i x3, sj_i x4, sj_i x5]) (rest := []) (b := a0) (ok9 ha0) h dX9_goes_107 mw_X9_251 vw_X9_comes (fun _ _ hc => cg_X9_comes ha0 hc) rfl ⟨(Nat.le_of_ble_eq_true rfl), (Nat.le_of_ble_eq_true rfl)⟩ (Nat.le_of_ble_eq_true rfl) rfl (fun _u V1 h => ?_)
  exact sj_weak (l2 := [some (sj_r (some a0)), some (sj_i x1), some (sj_i x2), some (sj_i x3), some (sj_i x4), some (sj_i x5), some (sj_j x6), none, some (sj_i x8), some (sj_i x9)]) (⟨rfl, ⟨rfl, ⟨rfl, ⟨rfl, ⟨rfl, ⟨rfl, ⟨rfl, ⟨rfl, ⟨rfl, trivial⟩⟩⟩⟩⟩⟩⟩⟩⟩) (st_X9_goes_110 hk8 hk22 a0 x1 x2 x3 x4 x5 x6 x8 x9 V1 ha0 h)
set_option maxHeartbeats 4000000 in
theorem st_X9_goes_192 {X : sj_X} {g : sj_G} {s0 : sj_Mem} {N : Nat} {q : Int × sj_VV} {k8 : Nat → Int → Int → Int → Int → Int → Int → Int → sj_VV → Option (Int × sj_VV)} (hk8 : ∀ (a0 : Nat) (x1 : Int) (x2 : Int) (x3 : Int) (x4 : Int) (x5 : Int) (x6 : Int) (x8 : Int) (V : sj_VV), OK9 g a0 → k8 a0 x1 x2 x3 x4 x5 x6 x8 V = some q → sj_T X m_X9_goes s0 (some (sj_j q.1), (g, q.2)) 8 [some (sj_r (some a0)), some (sj_i x1), some (sj_i x2), some (sj_i x3), some (sj_i x4), some (sj_i x5), some (sj_j x6), none, some (sj_i x8), none] [] (g, V)) :
    ∀ (a0 : Nat) (x1 : Int) (x2 : Int) (x3 : Int) (x4 : Int) (x5 : Int) (x6 : Int) (x8 : Int) (y0 : Int) (y1 : Int) (y2 : Nat) (m2 : Nat) (V : sj_VV), OK9 g a0 → OKA g 101 y2 m2 → g_X9_goes_192 N k8 a0 x1 x2 x3 x4 x5 x6 x8 y0 y1 y2 m2 V = some q → sj_T X m_X9_goes s0 (some (sj_j q.1), (g, q.2)) 192 [some (sj_r (some a0)), some (sj_i x1), some (sj_i x2), some (sj_i x3), some (sj_i x4), some (sj_i x5), some (sj_j x6), none, some (sj_i x8), none] [(sj_j y0), (sj_i y1), (sj_r (some y2))] (g, V) := by
  intro a0 x1 x2 x3 x4 x5 x6 x8 y0 y1 y2 m2 V ha0 hy2 h
  unfold g_X9_goes_192 at h
  refine r_lastores (pc := 192) h dX9_goes_192 hy2 (fun V1 h => ?_)
  refine r_iinc (ln := fun w => [some (sj_r (some a0)), some (sj_i x1), some (sj_i x2), some (sj_i x3), some (sj_i x4), some (sj_i x5), some (sj_j x6), none, some (sj_i w), none]) (pc := 193) h dX9_goes_193 rfl (Nat.le_of_ble_eq_true rfl) (fun _ => rfl) (fun v2 h => ?_)
  refine r_goto (pc := 196) (tgt := 8) dX9_goes_196 (by decide) ?_
  exact sj_weak (l2 := [some (sj_r (some a0)), some (sj_i x1), some (sj_i x2), some (sj_i x3), some (sj_i x4), some (sj_i x5), some (sj_j x6), none, some (sj_i v2), none]) (⟨rfl, ⟨rfl, ⟨rfl, ⟨rfl, ⟨rfl, ⟨rfl, ⟨rfl, ⟨rfl, trivial⟩⟩⟩⟩⟩⟩⟩⟩) (hk8 a0 x1 x2 x3 x4 x5 x6 v2 V1 ha0 h)
set_option maxHeartbeats 4000000 in
theorem st_X9_goes_185 {X : sj_X} {g : sj_G} {s0 : sj_Mem} {N : Nat} {q : Int × sj_VV} {k8 : Nat → Int → Int → Int → Int → Int → Int → Int → sj_VV → Option (Int × sj_VV)} (hk8 : ∀ (a0 : Nat) (x1 : Int) (x2 : Int) (x3 : Int) (x4 : Int) (x5 : Int) (x6 : Int) (x8 : Int) (V : sj_VV), OK9 g a0 → k8 a0 x1 x2 x3 x4 x5 x6 x8 V = some q → sj_T X m_X9_goes s0 (some (sj_j q.1), (g, q.2)) 8 [some (sj_r (some a0)), some (sj_i x1), some (sj_i x2), some (sj_i x3), some (sj_i x4), some (sj_i x5), some (sj_j x6), none, some (sj_i x8), none] [] (g, V)) :
    ∀ (a0 : Nat) (x1 : Int) (x2 : Int) (x3 : Int) (x4 : Int) (x5 : Int) (x6 : Int) (x8 : Int) (y0 : Int) (y1 : Nat) (m1 : Nat) (V : sj_VV), OK9 g a0 → OKA g 101 y1 m1 → g_X9_goes_185 N k8 a0 x1 x2 x3 x4 x5 x6 x8 y0 y1 m1 V = some q → sj_T X m_X9_goes s0 (some (sj_j q.1), (g, q.2)) 185 [some (sj_r (some a0)), some (sj_i x1), some (sj_i x2), some (sj_i x3), some (sj_i x4), some (sj_i x5), some (sj_j x6), none, some (sj_i x8), none] [(sj_i y0), (sj_r (some y1))] (g, V) := by
  intro a0 x1 x2 x3 x4 x5 x6 x8 y0 y1 m1 V ha0 hy1 h
  unfold g_X9_goes_185 at h
  refine r_lconst0 (pc := 185) dX9_goes_185 ?_
  refine r_goto (pc := 186) (tgt := 192) dX9_goes_186 (by decide) ?_
  exact sj_weak (l2 := [some (sj_r (some a0)), some (sj_i x1), some (sj_i x2), some (sj_i x3), some (sj_i x4), some (sj_i x5), some (sj_j x6), none, some (sj_i x8), none]) (⟨rfl, ⟨rfl, ⟨rfl, ⟨rfl, ⟨rfl, ⟨rfl, ⟨rfl, ⟨rfl, trivial⟩⟩⟩⟩⟩⟩⟩⟩) (st_X9_goes_192 hk8 a0 x1 x2 x3 x4 x5 x6 x8 0 y0 y1 m1 V ha0 hy1 h)
set_option maxHeartbeats 4000000 in
theorem st_X9_goes_155 {X : sj_X} {g : sj_G} {s0 : sj_Mem} {N : Nat} {q : Int × sj_VV} {k8 : Nat → Int → Int → Int → Int → Int → Int → Int → sj_VV → Option (Int × sj_VV)} (hk8 : ∀ (a0 : Nat) (x1 : Int) (x2 : Int) (x3 : Int) (x4 : Int) (x5 : Int) (x6 : Int) (x8 : Int) (V : sj_VV), OK9 g a0 → k8 a0 x1 x2 x3 x4 x5 x6 x8 V = some q → sj_T X m_X9_goes s0 (some (sj_j q.1), (g, q.2)) 8 [some (sj_r (some a0)), some (sj_i x1), some (sj_i x2), some (sj_i x3), some (sj_i x4), some (sj_i x5), some (sj_j x6), none, some (sj_i x8), none] [] (g, V)) :
    ∀ (a0 : Nat) (x1 : Int) (x2 : Int) (x3 : Int) (x4 : Int) (x5 : Int) (x6 : Int) (x8 : Int) (x9 : Int) (V : sj_VV), OK9 g a0 → g_X9_goes_155 N k8 a0 x1 x2 x3 x4 x5 x6 x8 x9 V = some q → sj_T X m_X9_goes s0 (some (sj_j q.1), (g, q.2)) 155 [some (sj_r (some a0)), some (sj_i x1), some (sj_i x2), some (sj_i x3), some (sj_i x4), some (sj_i x5), some (sj_j x6), none, some (sj_i x8), some (sj_i x9)] [] (g, V) := by
  intro a0 x1 x2 x3 x4 x5 x6 x8 x9 V ha0 h
  unfold g_X9_goes_155 at h
  refine r_aload_n (pc := 155) dX9_goes_155 rfl rfl ?_
  refine r_gRs (b := a0 + 8) (pc := 156) dX9_goes_156 fw_X9_36 rfl (ok9 ha0) (ok9_24 ha0).1 ?_
  refine r_iload (pc := 159) dX9_goes_159 rfl ?_
  refine r_aload_n (pc := 161) dX9_goes_161 rfl rfl ?_
  refine r_gRs (b := a0 + 6) (pc := 162) dX9_goes_162 fw_X9_29 rfl (ok9 ha0) (ok9_22 ha0).1 ?_
  refine r_iload (pc := 165) dX9_goes_165 rfl ?_
  refine r_laloads (pc := 167) h dX9_goes_167 (ok9_22 ha0).2 (fun h => ?_)
  refine r_lastores (pc := 168) h dX9_goes_168 (ok9_24 ha0).2 (fun V1 h => ?_)
  refine r_aload_n (pc := 169) dX9_goes_169 rfl rfl ?_
  refine r_gRs (b := a0 + 6) (pc := 170) dX9_goes_170 fw_X9_29 rfl (ok9 ha0) (ok9_22 ha0).1 ?_
  refine r_iload (pc := 173) dX9_goes_173 rfl ?_
  refine r_iload (pc := 175) dX9_goes_175 rfl ?_
  refine r_iload_n (pc := 177) dX9_goes_177 rfl rfl ?_
  refine r_icmp_eq (pc := 178) (tgt := 185) h dX9_goes_178 (by decide) (fun h => ?_) (fun h => ?_)
  · exact sj_weak (l2 := [some (sj_r (some a0)), some (sj_i x1), some (sj_i x2), some (sj_i x3), some (sj_i x4), some (sj_i x5), some (sj_j x6), none, some (sj_i x8), none]) (⟨rfl, ⟨rfl, ⟨rfl, ⟨rfl, ⟨rfl, ⟨rfl, ⟨rfl, ⟨rfl, trivial⟩⟩⟩⟩⟩⟩⟩⟩) (st_X9_goes_185 hk8 a0 x1 x2 x3 x4 x5 x6 x8 x9 (a0 + 6) 4141 V1 ha0 (ok9_22 ha0).2 h)
  · refine r_iload_n (pc := 181) dX9_goes_181 rfl rfl ?_
    refine r_if_eq (pc := 182) (tgt := 189) h dX9_goes_182 (by decide) (fun h => ?_) (fun h => ?_)
    · refine r_ldc2 (n := 4000000000000000000) (pc := 189) dX9_goes_189 kc_X9_249 ?_
      exact sj_weak (l2 := [some (sj_r (some a0)), some (sj_i x1), some (sj_i x2), some (sj_i x3), some (sj_i x4), some (sj_i x5), some (sj_j x6), none, some (sj_i x8), none]) (⟨rfl, ⟨rfl, ⟨rfl, ⟨rfl, ⟨rfl, ⟨rfl, ⟨rfl, ⟨rfl, trivial⟩⟩⟩⟩⟩⟩⟩⟩) (st_X9_goes_192 hk8 a0 x1 x2 x3 x4 x5 x6 x8 4000000000000000000 x9 (a0 + 6) 4141 V1 ha0 (ok9_22 ha0).2 h)
    · exact sj_weak (l2 := [some (sj_r (some a0)), some (sj_i x1), some (sj_i x2), some (sj_i x3), some (sj_i x4), some (sj_i x5), some (sj_j x6), none, some (sj_i x8), none]) (⟨rfl, ⟨rfl, ⟨rfl, ⟨rfl, ⟨rfl, ⟨rfl, ⟨rfl, ⟨rfl, trivial⟩⟩⟩⟩⟩⟩⟩⟩) (st_X9_goes_185 hk8 a0 x1 x2 x3 x4 x5 x6 x8 x9 (a0 + 6) 4141 V1 ha0 (ok9_22 ha0).2 h)
set_option maxHeartbeats 4000000 in
theorem st_X9_goes_22_b {X : sj_X} {g : sj_G} {s0 : sj_Mem} {N : Nat} {q : Int × sj_VV} {k8 : Nat → Int → Int → Int → Int → Int → Int → Int → sj_VV → Option (Int × sj_VV)} {k22 : Nat → Int → Int → Int → Int → Int → Int → Int → Int → sj_VV → Option (Int × sj_VV)} (hk8 : ∀ (a0 : Nat) (x1 : Int) (x2 : Int) (x3 : Int) (x4 : Int) (x5 : Int) (x6 : Int) (x8 : Int) (V : sj_VV), OK9 g a0 → k8 a0 x1 x2 x3 x4 x5 x6 x8 V = some q → sj_T X m_X9_goes s0 (some (sj_j q.1), (g, q.2)) 8 [some (sj_r (some a0)), some (sj_i x1), some (sj_i x2), some (sj_i x3), some (sj_i x4), some (sj_i x5), some (sj_j x6), none, some (sj_i x8), none] [] (g, V)) (hk22 : ∀ (a0 : Nat) (x1 : Int) (x2 : Int) (x3 : Int) (x4 : Int) (x5 : Int) (x6 : Int) (x8 : Int) (x9 : Int) (V : sj_VV), OK9 g a0 → k22 a0 x1 x2 x3 x4 x5 x6 x8 x9 V = some q → sj_T X m_X9_goes s0 (some (sj_j q.1), (g, q.2)) 22 [some (sj_r (some a0)), some (sj_i x1), some (sj_i x2), some (sj_i x3), some (sj_i x4), some (sj_i x5), some (sj_j x6), none, some (sj_i x8), some (sj_i x9)] [] (g, V)) :
    ∀ (a0 : Nat) (x1 : Int) (x2 : Int) (x3 : Int) (x4 : Int) (x5 : Int) (x6 : Int) (x8 : Int) (x9 : Int) (V : sj_VV), OK9 g a0 → g_X9_goes_22_b N k8 k22 a0 x1 x2 x3 x4 x5 x6 x8 x9 V = some q → sj_T X m_X9_goes s0 (some (sj_j q.1), (g, q.2)) 22 [some (sj_r (some a0)), some (sj_i x1), some (sj_i x2), some (sj_i x3), some (sj_i x4), some (sj_i x5), some (sj_j x6), none, some (sj_i x8), some (sj_i x9)] [] (g, V) := by
  intro a0 x1 x2 x3 x4 x5 x6 x8 x9 V ha0 h
  unfold g_X9_goes_22_b at h
  refine r_iload (pc := 22) dX9_goes_22 rfl ?_
  refine r_bipush (pc := 24) dX9_goes_24 ⟨by decide, by decide⟩ ?_
  refine r_icmp_ge (pc := 26) (tgt := 116) h dX9_goes_26 (by decide) (fun h => ?_) (fun h => ?_)
  · refine r_bipush (pc := 116) dX9_goes_116 ⟨by decide, by decide⟩ ?_
    refine r_iload (pc := 118) dX9_goes_118 rfl ?_
    refine r_imul (pc := 120) dX9_goes_120 ?_
    refine r_aload_n (pc := 121) dX9_goes_121 rfl rfl ?_
    refine r_gRs (b := a0 + 1) (pc := 122) dX9_goes_122 fw_X9_9 rfl (ok9 ha0) (ok9_0 ha0).1 ?_
    refine r_iconst (pc := 125) dX9_goes_125 ?_
    refine r_iload (pc := 126) dX9_goes_126 rfl ?_
    refine r_iadd (pc := 128) dX9_goes_128 ?_
    refine r_ialoads (pc := 129) h dX9_goes_129 (ok9_0 ha0).2 (fun h => ?_)
    refine r_iadd (pc := 130) dX9_goes_130 ?_
    refine r_istoreL (ln := fun w => [some (sj_r (some a0)), some (sj_i x1), some (sj_i x2), some (sj_i x3), some (sj_i x4), some (sj_i x5), some (sj_j x6), none, some (sj_i x8), some (sj_i w)]) (pc := 131) h dX9_goes_131 (Nat.le_of_ble_eq_true rfl) (fun _ => rfl) (fun v1 h => ?_)
    refine r_aload_n (pc := 133) dX9_goes_133 rfl rfl ?_
    refine r_gRs (b := a0 + 6) (pc := 134) dX9_goes_134 fw_X9_29 rfl (ok9 ha0) (ok9_22 ha0).1 ?_
    refine r_iload (pc := 137) dX9_goes_137 rfl ?_
    refine r_laloads (pc := 139) h dX9_goes_139 (ok9_22 ha0).2 (fun h => ?_)
    refine r_lload (pc := 140) dX9_goes_140 rfl ?_
    refine r_lge (pc := 142) (tgt := 155) h dX9_goes_142 rfl dX9_goes_143 (by decide) (fun h => ?_) (fun h => ?_)
    · exact sj_weak (l2 := [some (sj_r (some a0)), some (sj_i x1), some (sj_i x2), some (sj_i x3), some (sj_i x4), some (sj_i x5), some (sj_j x6), none, some (sj_i x8), some (sj_i v1)]) (⟨rfl, ⟨rfl, ⟨rfl, ⟨rfl, ⟨rfl, ⟨rfl, ⟨rfl, ⟨rfl, ⟨rfl, trivial⟩⟩⟩⟩⟩⟩⟩⟩⟩) (st_X9_goes_155 hk8 a0 x1 x2 x3 x4 x5 x6 x8 v1 V ha0 h)
    · refine r_aload_n (pc := 146) dX9_goes_146 rfl rfl ?_
      refine r_gRs (b := a0 + 6) (pc := 147) dX9_goes_147 fw_X9_29 rfl (ok9 ha0) (ok9_22 ha0).1 ?_
      refine r_iload (pc := 150) dX9_goes_150 rfl ?_
      refine r_laloads (pc := 152) h dX9_goes_152 (ok9_22 ha0).2 (fun h => ?_)
      refine r_lstoreL (ln := fun w => [some (sj_r (some a0)), some (sj_i x1), some (sj_i x2), some (sj_i x3), some (sj_i x4), some (sj_i x5), some (sj_j w), none, some (sj_i x8), some (sj_i v1)]) (pc := 153) h dX9_goes_153 (Nat.le_of_ble_eq_true rfl) (fun _ => rfl) (fun v2 h => ?_)
      exact sj_weak (l2 := [some (sj_r (some a0)), some (sj_i x1), some (sj_i x2), some (sj_i x3), some (sj_i x4), some (sj_i x5), some (sj_j v2), none, some (sj_i x8), some (sj_i v1)]) (⟨rfl, ⟨rfl, ⟨rfl, ⟨rfl, ⟨rfl, ⟨rfl, ⟨rfl, ⟨rfl, ⟨rfl, trivial⟩⟩⟩⟩⟩⟩⟩⟩⟩) (st_X9_goes_155 hk8 a0 x1 x2 x3 x4 x5 v2 x8 v1 V ha0 h)
  · refine r_aload_n (pc := 29) dX9_goes_29 rfl rfl ?_
    refine r_gRs (b := a0 + 6) (pc := 30) dX9_goes_30 fw_X9_29 rfl (ok9 ha0) (ok9_22 ha0).1 ?_
    refine r_bipush (pc := 33) dX9_goes_33 ⟨by decide, by decide⟩ ?_
    refine r_iload (pc := 35) dX9_goes_35 rfl ?_
    refine r_imul (pc := 37) dX9_goes_37 ?_
    refine r_iload (pc := 38) dX9_goes_38 rfl ?_
    refine r_iadd (pc := 40) dX9_goes_40 ?_
    refine r_ldc2 (n := 4000000000000000000) (pc := 41) dX9_goes_41 kc_X9_249 ?_
    refine r_lastores (pc := 44) h dX9_goes_44 (ok9_22 ha0).2 (fun V3 h => ?_)
    refine r_iload (pc := 45) dX9_goes_45 rfl ?_
    refine r_iload_n (pc := 47) dX9_goes_47 rfl rfl ?_
    refine r_icmp_eq (pc := 48) (tgt := 110) h dX9_goes_48 (by decide) (fun h => ?_) (fun h => ?_)
    · exact sj_weak (l2 := [some (sj_r (some a0)), some (sj_i x1), some (sj_i x2), some (sj_i x3), some (sj_i x4), some (sj_i x5), some (sj_j x6), none, some (sj_i x8), some (sj_i x9)]) (⟨rfl, ⟨rfl, ⟨rfl, ⟨rfl, ⟨rfl, ⟨rfl, ⟨rfl, ⟨rfl, ⟨rfl, trivial⟩⟩⟩⟩⟩⟩⟩⟩⟩) (st_X9_goes_110 hk8 hk22 a0 x1 x2 x3 x4 x5 x6 x8 x9 V3 ha0 h)
    · refine r_iload (pc := 51) dX9_goes_51 rfl ?_
      refine r_aload_n (pc := 53) dX9_goes_53 rfl rfl ?_
      refine r_gRs (b := a0 + 1) (pc := 54) dX9_goes_54 fw_X9_9 rfl (ok9 ha0) (ok9_0 ha0).1 ?_
      refine r_iconst (pc := 57) dX9_goes_57 ?_
      refine r_iload (pc := 58) dX9_goes_58 rfl ?_
      refine r_iadd (pc := 60) dX9_goes_60 ?_
      refine r_ialoads (pc := 61) h dX9_goes_61 (ok9_0 ha0).2 (fun h => ?_)
      refine r_icmp_gt (pc := 62) (tgt := 110) h dX9_goes_62 (by decide) (fun h => ?_) (fun h => ?_)
      · exact sj_weak (l2 := [some (sj_r (some a0)), some (sj_i x1), some (sj_i x2), some (sj_i x3), some (sj_i x4), some (sj_i x5), some (sj_j x6), none, some (sj_i x8), some (sj_i x9)]) (⟨rfl, ⟨rfl, ⟨rfl, ⟨rfl, ⟨rfl, ⟨rfl, ⟨rfl, ⟨rfl, ⟨rfl, trivial⟩⟩⟩⟩⟩⟩⟩⟩⟩) (st_X9_goes_110 hk8 hk22 a0 x1 x2 x3 x4 x5 x6 x8 x9 V3 ha0 h)
      · refine r_iload (pc := 65) dX9_goes_65 rfl ?_
        refine r_aload_n (pc := 67) dX9_goes_67 rfl rfl ?_
        refine r_gRs (b := a0 + 1) (pc := 68) dX9_goes_68 fw_X9_9 rfl (ok9 ha0) (ok9_0 ha0).1 ?_
        refine r_iconst (pc := 71) dX9_goes_71 ?_
        refine r_iload (pc := 72) dX9_goes_72 rfl ?_
        refine r_iadd (pc := 74) dX9_goes_74 ?_
        refine r_ialoads (pc := 75) h dX9_goes_75 (ok9_0 ha0).2 (fun h => ?_)
        refine r_icmp_ge (pc := 76) (tgt := 97) h dX9_goes_76 (by decide) (fun h => ?_) (fun h => ?_)
        · exact sj_weak (l2 := [some (sj_r (some a0)), some (sj_i x1), some (sj_i x2), some (sj_i x3), some (sj_i x4), some (sj_i x5), some (sj_j x6), none, some (sj_i x8), some (sj_i x9)]) (⟨rfl, ⟨rfl, ⟨rfl, ⟨rfl, ⟨rfl, ⟨rfl, ⟨rfl, ⟨rfl, ⟨rfl, trivial⟩⟩⟩⟩⟩⟩⟩⟩⟩) (st_X9_goes_97 hk8 hk22 a0 x1 x2 x3 x4 x5 x6 x8 x9 V3 ha0 h)
        · refine r_iload (pc := 79) dX9_goes_79 rfl ?_
          refine r_aload_n (pc := 81) dX9_goes_81 rfl rfl ?_
          refine r_gRs (b := a0 + 1) (pc := 82) dX9_goes_82 fw_X9_9 rfl (ok9 ha0) (ok9_0 ha0).1 ?_
          refine r_bipush (pc := 85) dX9_goes_85 ⟨by decide, by decide⟩ ?_
          refine r_iload (pc := 87) dX9_goes_87 rfl ?_
          refine r_iadd (pc := 89) dX9_goes_89 ?_
          refine r_ialoads (pc := 90) h dX9_goes_90 (ok9_0 ha0).2 (fun h => ?_)
          refine r_icmp_ge (pc := 91) (tgt := 97) h dX9_goes_91 (by decide) (fun h => ?_) (fun h => ?_)
          · exact sj_weak (l2 := [some (sj_r (some a0)), some (sj_i x1), some (sj_i x2), some (sj_i x3), some (sj_i x4), some (sj_i x5), some (sj_j x6), none, some (sj_i x8), some (sj_i x9)]) (⟨rfl, ⟨rfl, ⟨rfl, ⟨rfl, ⟨rfl, ⟨rfl, ⟨rfl, ⟨rfl, ⟨rfl, trivial⟩⟩⟩⟩⟩⟩⟩⟩⟩) (st_X9_goes_97 hk8 hk22 a0 x1 x2 x3 x4 x5 x6 x8 x9 V3 ha0 h)
          · refine r_goto (pc := 94) (tgt := 110) dX9_goes_94 (by decide) ?_
            exact sj_weak (l2 := [some (sj_r (some a0)), some (sj_i x1), some (sj_i x2), some (sj_i x3), some (sj_i x4), some (sj_i x5), some (sj_j x6), none, some (sj_i x8), some (sj_i x9)]) (⟨rfl, ⟨rfl, ⟨rfl, ⟨rfl, ⟨rfl, ⟨rfl, ⟨rfl, ⟨rfl, ⟨rfl, trivial⟩⟩⟩⟩⟩⟩⟩⟩⟩) (st_X9_goes_110 hk8 hk22 a0 x1 x2 x3 x4 x5 x6 x8 x9 V3 ha0 h)
set_option maxHeartbeats 4000000 in
theorem st_X9_goes_22 {X : sj_X} {g : sj_G} {s0 : sj_Mem} {N : Nat} {q : Int × sj_VV} {k8 : Nat → Int → Int → Int → Int → Int → Int → Int → sj_VV → Option (Int × sj_VV)} (hk8 : ∀ (a0 : Nat) (x1 : Int) (x2 : Int) (x3 : Int) (x4 : Int) (x5 : Int) (x6 : Int) (x8 : Int) (V : sj_VV), OK9 g a0 → k8 a0 x1 x2 x3 x4 x5 x6 x8 V = some q → sj_T X m_X9_goes s0 (some (sj_j q.1), (g, q.2)) 8 [some (sj_r (some a0)), some (sj_i x1), some (sj_i x2), some (sj_i x3), some (sj_i x4), some (sj_i x5), some (sj_j x6), none, some (sj_i x8), none] [] (g, V)) :
    ∀ (n : Nat) (a0 : Nat) (x1 : Int) (x2 : Int) (x3 : Int) (x4 : Int) (x5 : Int) (x6 : Int) (x8 : Int) (x9 : Int) (V : sj_VV), OK9 g a0 → g_X9_goes_22 N k8 n a0 x1 x2 x3 x4 x5 x6 x8 x9 V = some q → sj_T X m_X9_goes s0 (some (sj_j q.1), (g, q.2)) 22 [some (sj_r (some a0)), some (sj_i x1), some (sj_i x2), some (sj_i x3), some (sj_i x4), some (sj_i x5), some (sj_j x6), none, some (sj_i x8), some (sj_i x9)] [] (g, V) := by
  intro n
  induction n with
  | zero => intro a0 x1 x2 x3 x4 x5 x6 x8 x9 V ha0 h; exact nomatch h
  | succ n ih => intro a0 x1 x2 x3 x4 x5 x6 x8 x9 V ha0 h; exact st_X9_goes_22_b (N := N) hk8 ih a0 x1 x2 x3 x4 x5 x6 x8 x9 V ha0 h
set_option maxHeartbeats 4000000 in
theorem st_X9_goes_8_b {X : sj_X} {g : sj_G} {s0 : sj_Mem} {N : Nat} {q : Int × sj_VV} {k8 : Nat → Int → Int → Int → Int → Int → Int → Int → sj_VV → Option (Int × sj_VV)} (hk8 : ∀ (a0 : Nat) (x1 : Int) (x2 : Int) (x3 : Int) (x4 : Int) (x5 : Int) (x6 : Int) (x8 : Int) (V : sj_VV), OK9 g a0 → k8 a0 x1 x2 x3 x4 x5 x6 x8 V = some q → sj_T X m_X9_goes s0 (some (sj_j q.1), (g, q.2)) 8 [some (sj_r (some a0)), some (sj_i x1), some (sj_i x2), some (sj_i x3), some (sj_i x4), some (sj_i x5), some (sj_j x6), none, some (sj_i x8), none] [] (g, V)) :
    ∀ (a0 : Nat) (x1 : Int) (x2 : Int) (x3 : Int) (x4 : Int) (x5 : Int) (x6 : Int) (x8 : Int) (V : sj_VV), OK9 g a0 → g_X9_goes_8_b N k8 a0 x1 x2 x3 x4 x5 x6 x8 V = some q → sj_T X m_X9_goes s0 (some (sj_j q.1), (g, q.2)) 8 [some (sj_r (some a0)), some (sj_i x1), some (sj_i x2), some (sj_i x3), some (sj_i x4), some (sj_i x5), some (sj_j x6), none, some (sj_i x8), none] [] (g, V) := by
  intro a0 x1 x2 x3 x4 x5 x6 x8 V ha0 h
  unfold g_X9_goes_8_b at h
  refine r_iload (pc := 8) dX9_goes_8 rfl ?_
  refine r_aload_n (pc := 10) dX9_goes_10 rfl rfl ?_
  refine r_gRs (b := a0 + 1) (pc := 11) dX9_goes_11 fw_X9_9 rfl (ok9 ha0) (ok9_0 ha0).1 ?_
  refine r_iconst (pc := 14) dX9_goes_14 ?_
  refine r_ialoads (pc := 15) h dX9_goes_15 (ok9_0 ha0).2 (fun h => ?_)
  refine r_icmp_gt (pc := 16) (tgt := 199) h dX9_goes_16 (by decide) (fun h => ?_) (fun h => ?_)
  · refine r_lload (pc := 199) dX9_goes_199 rfl ?_
    exact r_lrets (pc := 201) h rfl dX9_goes_201
  · refine r_iconst (pc := 19) dX9_goes_19 ?_
    refine r_istore (ln := [some (sj_r (some a0)), some (sj_i x1), some (sj_i x2), some (sj_i x3), some (sj_i x4), some (sj_i x5), some (sj_j x6), none, some (sj_i x8), some (sj_i 0)]) (pc := 20) dX9_goes_20 (Nat.le_of_ble_eq_true rfl) rfl ?_
    exact sj_weak (l2 := [some (sj_r (some a0)), some (sj_i x1), some (sj_i x2), some (sj_i x3), some (sj_i x4), some (sj_i x5), some (sj_j x6), none, some (sj_i x8), some (sj_i 0)]) (⟨rfl, ⟨rfl, ⟨rfl, ⟨rfl, ⟨rfl, ⟨rfl, ⟨rfl, ⟨rfl, ⟨rfl, trivial⟩⟩⟩⟩⟩⟩⟩⟩⟩) (st_X9_goes_22 hk8 N a0 x1 x2 x3 x4 x5 x6 x8 0 V ha0 h)
set_option maxHeartbeats 4000000 in
theorem st_X9_goes_8 {X : sj_X} {g : sj_G} {s0 : sj_Mem} {N : Nat} {q : Int × sj_VV} :
    ∀ (n : Nat) (a0 : Nat) (x1 : Int) (x2 : Int) (x3 : Int) (x4 : Int) (x5 : Int) (x6 : Int) (x8 : Int) (V : sj_VV), OK9 g a0 → g_X9_goes_8 N n a0 x1 x2 x3 x4 x5 x6 x8 V = some q → sj_T X m_X9_goes s0 (some (sj_j q.1), (g, q.2)) 8 [some (sj_r (some a0)), some (sj_i x1), some (sj_i x2), some (sj_i x3), some (sj_i x4), some (sj_i x5), some (sj_j x6), none, some (sj_i x8), none] [] (g, V) := by
  intro n
  induction n with
  | zero => intro a0 x1 x2 x3 x4 x5 x6 x8 V ha0 h; exact nomatch h
  | succ n ih => intro a0 x1 x2 x3 x4 x5 x6 x8 V ha0 h; exact st_X9_goes_8_b (N := N) ih a0 x1 x2 x3 x4 x5 x6 x8 V ha0 h
set_option maxHeartbeats 4000000 in
theorem st_X9_goes_0 {X : sj_X} {g : sj_G} {s0 : sj_Mem} {N : Nat} {q : Int × sj_VV} :
    ∀ (a0 : Nat) (x1 : Int) (x2 : Int) (x3 : Int) (x4 : Int) (x5 : Int) (V : sj_VV), OK9 g a0 → g_X9_goes N a0 x1 x2 x3 x4 x5 V = some q → sj_T X m_X9_goes s0 (some (sj_j q.1), (g, q.2)) 0 [some (sj_r (some a0)), some (sj_i x1), some (sj_i x2), some (sj_i x3), some (sj_i x4), some (sj_i x5), none, none, none, none] [] (g, V) := by
  intro a0 x1 x2 x3 x4 x5 V ha0 h
  unfold g_X9_goes at h
  refine r_ldc2 (n := 4000000000000000000) (pc := 0) dX9_goes_0 kc_X9_249 ?_
  refine r_lstore (ln := [some (sj_r (some a0)), some (sj_i x1), some (sj_i x2), some (sj_i x3), some (sj_i x4), some (sj_i x5), some (sj_j 4000000000000000000), none, none, none]) (pc := 3) dX9_goes_3 (Nat.le_of_ble_eq_true rfl) rfl ?_
  refine r_iload_n (pc := 5) dX9_goes_5 rfl rfl ?_
  refine r_istore (ln := [some (sj_r (some a0)), some (sj_i x1), some (sj_i x2), some (sj_i x3), some (sj_i x4), some (sj_i x5), some (sj_j 4000000000000000000), none, some (sj_i x1), none]) (pc := 6) dX9_goes_6 (Nat.le_of_ble_eq_true rfl) rfl ?_
  exact sj_weak (l2 := [some (sj_r (some a0)), some (sj_i x1), some (sj_i x2), some (sj_i x3), some (sj_i x4), some (sj_i x5), some (sj_j 4000000000000000000), none, some (sj_i x1), none]) (⟨rfl, ⟨rfl, ⟨rfl, ⟨rfl, ⟨rfl, ⟨rfl, ⟨rfl, ⟨rfl, trivial⟩⟩⟩⟩⟩⟩⟩⟩) (st_X9_goes_8 N a0 x1 x2 x3 x4 x5 4000000000000000000 x1 V ha0 h)
set_option maxHeartbeats 4000000 in
theorem cg_X9_goes {X : sj_X} {g : sj_G} {N : Nat} {a0 : Nat} {x1 : Int} {x2 : Int} {x3 : Int} {x4 : Int} {x5 : Int} {V : sj_VV} {q : Int × sj_VV} (ha0 : OK9 g a0) (h : g_X9_goes N a0 x1 x2 x3 x4 x5 V = some q) : sj_C X m_X9_goes [sj_r (some a0), sj_i x1, sj_i x2, sj_i x3, sj_i x4, sj_i x5] (g, V) (some (sj_j q.1), (g, q.2)) :=
  sj_C_of (by decide +kernel) (Nat.le_of_ble_eq_true rfl) (lo := [some (sj_r (some a0)), some (sj_i x1), some (sj_i x2), some (sj_i x3), some (sj_i x4), some (sj_i x5), none, none, none, none]) rfl (sj_weak (l2 := [some (sj_r (some a0)), some (sj_i x1), some (sj_i x2), some (sj_i x3), some (sj_i x4), some (sj_i x5), none, none, none, none]) (⟨rfl, ⟨rfl, ⟨rfl, ⟨rfl, ⟨rfl, ⟨rfl, trivial⟩⟩⟩⟩⟩⟩) (st_X9_goes_0 a0 x1 x2 x3 x4 x5 V ha0 h))
set_option maxHeartbeats 4000000 in
theorem c_X9_goes {X : sj_X} {N : Nat} {a0 : Nat} {x1 : Int} {x2 : Int} {x3 : Int} {x4 : Int} {x5 : Int} {s : sj_Mem} {q : Int × sj_Mem} (h : f_X9_goes N a0 x1 x2 x3 x4 x5 s = some q) : sj_C X m_X9_goes [sj_r (some a0), sj_i x1, sj_i x2, sj_i x3, sj_i x4, sj_i x5] s (some (sj_j q.1), q.2) := by
  obtain ⟨g, V⟩ := s
  unfold f_X9_goes at h
  obtain ⟨ho, h1⟩ := e_ok_some h
  obtain ⟨q2, h2, rfl⟩ := sj_map_some h1
  exact cg_X9_goes ho h2
theorem dX9_tableK_0 : decode cX9_tableK 0 = .ok (.iconst 0, 1) := by decide +kernel
theorem dX9_tableK_1 : decode cX9_tableK 1 = .ok (.istore_n 3, 1) := by decide +kernel
theorem dX9_tableK_2 : decode cX9_tableK 2 = .ok (.sipush 20001, 3) := by decide +kernel
theorem dX9_tableK_5 : decode cX9_tableK 5 = .ok (.istore 4, 2) := by decide +kernel
theorem dX9_tableK_7 : decode cX9_tableK 7 = .ok (.iload 4, 2) := by decide +kernel
theorem dX9_tableK_9 : decode cX9_tableK 9 = .ok (.iload_n 3, 1) := by decide +kernel
theorem dX9_tableK_10 : decode cX9_tableK 10 = .ok (.isub, 1) := by decide +kernel
theorem dX9_tableK_11 : decode cX9_tableK 11 = .ok (.iconst 1, 1) := by decide +kernel
theorem dX9_tableK_12 : decode cX9_tableK 12 = .ok (.if_icmp .le 39, 3) := by decide +kernel
theorem dX9_tableK_15 : decode cX9_tableK 15 = .ok (.iload_n 3, 1) := by decide +kernel
theorem dX9_tableK_16 : decode cX9_tableK 16 = .ok (.iload 4, 2) := by decide +kernel
theorem dX9_tableK_18 : decode cX9_tableK 18 = .ok (.iadd, 1) := by decide +kernel
theorem dX9_tableK_19 : decode cX9_tableK 19 = .ok (.iconst 2, 1) := by decide +kernel
theorem dX9_tableK_20 : decode cX9_tableK 20 = .ok (.idiv, 1) := by decide +kernel
theorem dX9_tableK_21 : decode cX9_tableK 21 = .ok (.istore 5, 2) := by decide +kernel
theorem dX9_tableK_23 : decode cX9_tableK 23 = .ok (.aload_n 0, 1) := by decide +kernel
theorem dX9_tableK_24 : decode cX9_tableK 24 = .ok (.iconst 0, 1) := by decide +kernel
theorem dX9_tableK_25 : decode cX9_tableK 25 = .ok (.iconst 1, 1) := by decide +kernel
theorem dX9_tableK_26 : decode cX9_tableK 26 = .ok (.iload_n 1, 1) := by decide +kernel
theorem dX9_tableK_27 : decode cX9_tableK 27 = .ok (.iload_n 2, 1) := by decide +kernel
theorem dX9_tableK_28 : decode cX9_tableK 28 = .ok (.iload 5, 2) := by decide +kernel
theorem dX9_tableK_30 : decode cX9_tableK 30 = .ok (.invokevirtual 259, 3) := by decide +kernel
theorem dX9_tableK_33 : decode cX9_tableK 33 = .ok (.lconst 0, 1) := by decide +kernel
theorem dX9_tableK_34 : decode cX9_tableK 34 = .ok (.lcmp, 1) := by decide +kernel
theorem dX9_tableK_35 : decode cX9_tableK 35 = .ok (.ifCond .lt 9, 3) := by decide +kernel
theorem dX9_tableK_38 : decode cX9_tableK 38 = .ok (.iload 5, 2) := by decide +kernel
theorem dX9_tableK_40 : decode cX9_tableK 40 = .ok (.istore_n 3, 1) := by decide +kernel
theorem dX9_tableK_41 : decode cX9_tableK 41 = .ok (.goto 7, 3) := by decide +kernel
theorem dX9_tableK_44 : decode cX9_tableK 44 = .ok (.iload 5, 2) := by decide +kernel
theorem dX9_tableK_46 : decode cX9_tableK 46 = .ok (.istore 4, 2) := by decide +kernel
theorem dX9_tableK_48 : decode cX9_tableK 48 = .ok (.goto (-41), 3) := by decide +kernel
theorem dX9_tableK_51 : decode cX9_tableK 51 = .ok (.iload_n 3, 1) := by decide +kernel
theorem dX9_tableK_52 : decode cX9_tableK 52 = .ok (.ireturn, 1) := by decide +kernel
set_option maxHeartbeats 4000000 in
theorem st_X9_tableK_48 {X : sj_X} {g : sj_G} {s0 : sj_Mem} {N : Nat} {q : Int × sj_VV} {k7 : Nat → Int → Int → Int → Int → sj_VV → Option (Int × sj_VV)} (hk7 : ∀ (a0 : Nat) (x1 : Int) (x2 : Int) (x3 : Int) (x4 : Int) (V : sj_VV), OK9 g a0 → k7 a0 x1 x2 x3 x4 V = some q → sj_T X m_X9_tableK s0 (some (sj_i q.1), (g, q.2)) 7 [some (sj_r (some a0)), some (sj_i x1), some (sj_i x2), some (sj_i x3), some (sj_i x4), none] [] (g, V)) :
    ∀ (a0 : Nat) (x1 : Int) (x2 : Int) (x3 : Int) (x4 : Int) (V : sj_VV), OK9 g a0 → g_X9_tableK_48 N k7 a0 x1 x2 x3 x4 V = some q → sj_T X m_X9_tableK s0 (some (sj_i q.1), (g, q.2)) 48 [some (sj_r (some a0)), some (sj_i x1), some (sj_i x2), some (sj_i x3), some (sj_i x4), none] [] (g, V) := by
  intro a0 x1 x2 x3 x4 V ha0 h
  unfold g_X9_tableK_48 at h
  refine r_goto (pc := 48) (tgt := 7) dX9_tableK_48 (by decide) ?_
  exact sj_weak (l2 := [some (sj_r (some a0)), some (sj_i x1), some (sj_i x2), some (sj_i x3), some (sj_i x4), none]) (⟨rfl, ⟨rfl, ⟨rfl, ⟨rfl, ⟨rfl, trivial⟩⟩⟩⟩⟩) (hk7 a0 x1 x2 x3 x4 V ha0 h)
set_option maxHeartbeats 4000000 in
theorem st_X9_tableK_7_b {X : sj_X} {g : sj_G} {s0 : sj_Mem} {N : Nat} {q : Int × sj_VV} {k7 : Nat → Int → Int → Int → Int → sj_VV → Option (Int × sj_VV)} (hk7 : ∀ (a0 : Nat) (x1 : Int) (x2 : Int) (x3 : Int) (x4 : Int) (V : sj_VV), OK9 g a0 → k7 a0 x1 x2 x3 x4 V = some q → sj_T X m_X9_tableK s0 (some (sj_i q.1), (g, q.2)) 7 [some (sj_r (some a0)), some (sj_i x1), some (sj_i x2), some (sj_i x3), some (sj_i x4), none] [] (g, V)) :
    ∀ (a0 : Nat) (x1 : Int) (x2 : Int) (x3 : Int) (x4 : Int) (V : sj_VV), OK9 g a0 → g_X9_tableK_7_b N k7 a0 x1 x2 x3 x4 V = some q → sj_T X m_X9_tableK s0 (some (sj_i q.1), (g, q.2)) 7 [some (sj_r (some a0)), some (sj_i x1), some (sj_i x2), some (sj_i x3), some (sj_i x4), none] [] (g, V) := by
  intro a0 x1 x2 x3 x4 V ha0 h
  unfold g_X9_tableK_7_b at h
  refine r_iload (pc := 7) dX9_tableK_7 rfl ?_
  refine r_iload_n (pc := 9) dX9_tableK_9 rfl rfl ?_
  refine r_isub (pc := 10) dX9_tableK_10 ?_
  refine r_iconst (pc := 11) dX9_tableK_11 ?_
  refine r_icmp_le (pc := 12) (tgt := 51) h dX9_tableK_12 (by decide) (fun h => ?_) (fun h => ?_)
  · refine r_iload_n (pc := 51) dX9_tableK_51 rfl rfl ?_
    exact r_irets (pc := 52) h rfl dX9_tableK_52
  · refine r_iload_n (pc := 15) dX9_tableK_15 rfl rfl ?_
    refine r_iload (pc := 16) dX9_tableK_16 rfl ?_
    refine r_iadd (pc := 18) dX9_tableK_18 ?_
    refine r_iconst (pc := 19) dX9_tableK_19 ?_
    refine r_idiv (pc := 20) h dX9_tableK_20 (fun v1 h => ?_)
    refine r_istore (ln := [some (sj_r (some a0)), some (sj_i x1), some (sj_i x2), some (sj_i x3), some (sj_i x4), some (sj_i v1)]) (pc := 21) dX9_tableK_21 (Nat.le_of_ble_eq_true rfl) rfl ?_
    refine r_aload_n (pc := 23) dX9_tableK_23 rfl rfl ?_
    refine r_iconst (pc := 24) dX9_tableK_24 ?_
    refine r_iconst (pc := 25) dX9_tableK_25 ?_
    refine r_iload_n (pc := 26) dX9_tableK_26 rfl rfl ?_
    refine r_iload_n (pc := 27) dX9_tableK_27 rfl rfl ?_
    refine r_iload (pc := 28) dX9_tableK_28 rfl ?_
    refine r_callVs (pc := 30) (fun v => some (sj_j v)) (As := [sj_i 0, sj_i 1, sj_i x1, sj_i x2, sj_i v1]) (rest := []) (b := a0) (ok9 ha0) h dX9_tableK_30 mw_X9_259 vw_X9_goes (fun _ _ hc => cg_X9_goes ha0 hc) rfl ⟨(Nat.le_of_ble_eq_true rfl), (Nat.le_of_ble_eq_true rfl)⟩ (Nat.le_of_ble_eq_true rfl) rfl (fun v3 V2 h => ?_)
    refine r_lconst0 (pc := 33) dX9_tableK_33 ?_
    refine r_llt (pc := 34) (tgt := 44) h dX9_tableK_34 rfl dX9_tableK_35 (by decide) (fun h => ?_) (fun h => ?_)
    · refine r_iload (pc := 44) dX9_tableK_44 rfl ?_
      refine r_istore (ln := [some (sj_r (some a0)), some (sj_i x1), some (sj_i x2), some (sj_i x3), some (sj_i v1), some (sj_i v1)]) (pc := 46) dX9_tableK_46 (Nat.le_of_ble_eq_true rfl) rfl ?_
      exact sj_weak (l2 := [some (sj_r (some a0)), some (sj_i x1), some (sj_i x2), some (sj_i x3), some (sj_i v1), none]) (⟨rfl, ⟨rfl, ⟨rfl, ⟨rfl, ⟨rfl, trivial⟩⟩⟩⟩⟩) (st_X9_tableK_48 hk7 a0 x1 x2 x3 v1 V2 ha0 h)
    · refine r_iload (pc := 38) dX9_tableK_38 rfl ?_
      refine r_istore_n (ln := [some (sj_r (some a0)), some (sj_i x1), some (sj_i x2), some (sj_i v1), some (sj_i x4), some (sj_i v1)]) (pc := 40) dX9_tableK_40 rfl (Nat.le_of_ble_eq_true rfl) rfl ?_
      refine r_goto (pc := 41) (tgt := 48) dX9_tableK_41 (by decide) ?_
      exact sj_weak (l2 := [some (sj_r (some a0)), some (sj_i x1), some (sj_i x2), some (sj_i v1), some (sj_i x4), none]) (⟨rfl, ⟨rfl, ⟨rfl, ⟨rfl, ⟨rfl, trivial⟩⟩⟩⟩⟩) (st_X9_tableK_48 hk7 a0 x1 x2 v1 x4 V2 ha0 h)
set_option maxHeartbeats 4000000 in
theorem st_X9_tableK_7 {X : sj_X} {g : sj_G} {s0 : sj_Mem} {N : Nat} {q : Int × sj_VV} :
    ∀ (n : Nat) (a0 : Nat) (x1 : Int) (x2 : Int) (x3 : Int) (x4 : Int) (V : sj_VV), OK9 g a0 → g_X9_tableK_7 N n a0 x1 x2 x3 x4 V = some q → sj_T X m_X9_tableK s0 (some (sj_i q.1), (g, q.2)) 7 [some (sj_r (some a0)), some (sj_i x1), some (sj_i x2), some (sj_i x3), some (sj_i x4), none] [] (g, V) := by
  intro n
  induction n with
  | zero => intro a0 x1 x2 x3 x4 V ha0 h; exact nomatch h
  | succ n ih => intro a0 x1 x2 x3 x4 V ha0 h; exact st_X9_tableK_7_b (N := N) ih a0 x1 x2 x3 x4 V ha0 h
set_option maxHeartbeats 4000000 in
theorem st_X9_tableK_0 {X : sj_X} {g : sj_G} {s0 : sj_Mem} {N : Nat} {q : Int × sj_VV} :
    ∀ (a0 : Nat) (x1 : Int) (x2 : Int) (V : sj_VV), OK9 g a0 → g_X9_tableK N a0 x1 x2 V = some q → sj_T X m_X9_tableK s0 (some (sj_i q.1), (g, q.2)) 0 [some (sj_r (some a0)), some (sj_i x1), some (sj_i x2), none, none, none] [] (g, V) := by
  intro a0 x1 x2 V ha0 h
  unfold g_X9_tableK at h
  refine r_iconst (pc := 0) dX9_tableK_0 ?_
  refine r_istore_n (ln := [some (sj_r (some a0)), some (sj_i x1), some (sj_i x2), some (sj_i 0), none, none]) (pc := 1) dX9_tableK_1 rfl (Nat.le_of_ble_eq_true rfl) rfl ?_
  refine r_sipush (pc := 2) dX9_tableK_2 ⟨by decide, by decide⟩ ?_
  refine r_istore (ln := [some (sj_r (some a0)), some (sj_i x1), some (sj_i x2), some (sj_i 0), some (sj_i 20001), none]) (pc := 5) dX9_tableK_5 (Nat.le_of_ble_eq_true rfl) rfl ?_
  exact sj_weak (l2 := [some (sj_r (some a0)), some (sj_i x1), some (sj_i x2), some (sj_i 0), some (sj_i 20001), none]) (⟨rfl, ⟨rfl, ⟨rfl, ⟨rfl, ⟨rfl, trivial⟩⟩⟩⟩⟩) (st_X9_tableK_7 N a0 x1 x2 0 20001 V ha0 h)
set_option maxHeartbeats 4000000 in
theorem cg_X9_tableK {X : sj_X} {g : sj_G} {N : Nat} {a0 : Nat} {x1 : Int} {x2 : Int} {V : sj_VV} {q : Int × sj_VV} (ha0 : OK9 g a0) (h : g_X9_tableK N a0 x1 x2 V = some q) : sj_C X m_X9_tableK [sj_r (some a0), sj_i x1, sj_i x2] (g, V) (some (sj_i q.1), (g, q.2)) :=
  sj_C_of (by decide +kernel) (Nat.le_of_ble_eq_true rfl) (lo := [some (sj_r (some a0)), some (sj_i x1), some (sj_i x2), none, none, none]) rfl (sj_weak (l2 := [some (sj_r (some a0)), some (sj_i x1), some (sj_i x2), none, none, none]) (⟨rfl, ⟨rfl, ⟨rfl, trivial⟩⟩⟩) (st_X9_tableK_0 a0 x1 x2 V ha0 h))
set_option maxHeartbeats 4000000 in
theorem c_X9_tableK {X : sj_X} {N : Nat} {a0 : Nat} {x1 : Int} {x2 : Int} {s : sj_Mem} {q : Int × sj_Mem} (h : f_X9_tableK N a0 x1 x2 s = some q) : sj_C X m_X9_tableK [sj_r (some a0), sj_i x1, sj_i x2] s (some (sj_i q.1), q.2) := by
  obtain ⟨g, V⟩ := s
  unfold f_X9_tableK at h
  obtain ⟨ho, h1⟩ := e_ok_some h
  obtain ⟨q2, h2, rfl⟩ := sj_map_some h1
  exact cg_X9_tableK ho h2
theorem dX9_findsWorst_0 : decode cX9_findsWorst 0 = .ok (.iload_n 3, 1) := by decide +kernel
theorem dX9_findsWorst_1 : decode cX9_findsWorst 1 = .ok (.sipush 20000, 3) := by decide +kernel
theorem dX9_findsWorst_4 : decode cX9_findsWorst 4 = .ok (.if_icmp .ne 5, 3) := by decide +kernel
theorem dX9_findsWorst_7 : decode cX9_findsWorst 7 = .ok (.iconst 0, 1) := by decide +kernel
theorem dX9_findsWorst_8 : decode cX9_findsWorst 8 = .ok (.ireturn, 1) := by decide +kernel
theorem dX9_findsWorst_9 : decode cX9_findsWorst 9 = .ok (.aload_n 0, 1) := by decide +kernel
theorem dX9_findsWorst_10 : decode cX9_findsWorst 10 = .ok (.iconst 0, 1) := by decide +kernel
theorem dX9_findsWorst_11 : decode cX9_findsWorst 11 = .ok (.iconst 1, 1) := by decide +kernel
theorem dX9_findsWorst_12 : decode cX9_findsWorst 12 = .ok (.iload_n 1, 1) := by decide +kernel
theorem dX9_findsWorst_13 : decode cX9_findsWorst 13 = .ok (.iload_n 2, 1) := by decide +kernel
theorem dX9_findsWorst_14 : decode cX9_findsWorst 14 = .ok (.iload_n 3, 1) := by decide +kernel
theorem dX9_findsWorst_15 : decode cX9_findsWorst 15 = .ok (.iconst 1, 1) := by decide +kernel
theorem dX9_findsWorst_16 : decode cX9_findsWorst 16 = .ok (.iadd, 1) := by decide +kernel
theorem dX9_findsWorst_17 : decode cX9_findsWorst 17 = .ok (.invokevirtual 259, 3) := by decide +kernel
theorem dX9_findsWorst_20 : decode cX9_findsWorst 20 = .ok (.lstore 4, 2) := by decide +kernel
theorem dX9_findsWorst_22 : decode cX9_findsWorst 22 = .ok (.iconst 0, 1) := by decide +kernel
theorem dX9_findsWorst_23 : decode cX9_findsWorst 23 = .ok (.istore 6, 2) := by decide +kernel
theorem dX9_findsWorst_25 : decode cX9_findsWorst 25 = .ok (.iload 6, 2) := by decide +kernel
theorem dX9_findsWorst_27 : decode cX9_findsWorst 27 = .ok (.aload_n 0, 1) := by decide +kernel
theorem dX9_findsWorst_28 : decode cX9_findsWorst 28 = .ok (.getfield 9, 3) := by decide +kernel
theorem dX9_findsWorst_31 : decode cX9_findsWorst 31 = .ok (.iconst 0, 1) := by decide +kernel
theorem dX9_findsWorst_32 : decode cX9_findsWorst 32 = .ok (.iaload, 1) := by decide +kernel
theorem dX9_findsWorst_33 : decode cX9_findsWorst 33 = .ok (.if_icmp .ge 134, 3) := by decide +kernel
theorem dX9_findsWorst_36 : decode cX9_findsWorst 36 = .ok (.aload_n 0, 1) := by decide +kernel
theorem dX9_findsWorst_37 : decode cX9_findsWorst 37 = .ok (.iload 6, 2) := by decide +kernel
theorem dX9_findsWorst_39 : decode cX9_findsWorst 39 = .ok (.iconst 0, 1) := by decide +kernel
theorem dX9_findsWorst_40 : decode cX9_findsWorst 40 = .ok (.iload_n 1, 1) := by decide +kernel
theorem dX9_findsWorst_41 : decode cX9_findsWorst 41 = .ok (.iload_n 2, 1) := by decide +kernel
theorem dX9_findsWorst_42 : decode cX9_findsWorst 42 = .ok (.iload_n 3, 1) := by decide +kernel
theorem dX9_findsWorst_43 : decode cX9_findsWorst 43 = .ok (.iconst 1, 1) := by decide +kernel
theorem dX9_findsWorst_44 : decode cX9_findsWorst 44 = .ok (.iadd, 1) := by decide +kernel
theorem dX9_findsWorst_45 : decode cX9_findsWorst 45 = .ok (.invokevirtual 259, 3) := by decide +kernel
theorem dX9_findsWorst_48 : decode cX9_findsWorst 48 = .ok (.lload 4, 2) := by decide +kernel
theorem dX9_findsWorst_50 : decode cX9_findsWorst 50 = .ok (.lcmp, 1) := by decide +kernel
theorem dX9_findsWorst_51 : decode cX9_findsWorst 51 = .ok (.ifCond .eq 6, 3) := by decide +kernel
theorem dX9_findsWorst_54 : decode cX9_findsWorst 54 = .ok (.goto 107, 3) := by decide +kernel
theorem dX9_findsWorst_57 : decode cX9_findsWorst 57 = .ok (.iload 6, 2) := by decide +kernel
theorem dX9_findsWorst_59 : decode cX9_findsWorst 59 = .ok (.iconst 1, 1) := by decide +kernel
theorem dX9_findsWorst_60 : decode cX9_findsWorst 60 = .ok (.iadd, 1) := by decide +kernel
theorem dX9_findsWorst_61 : decode cX9_findsWorst 61 = .ok (.istore 7, 2) := by decide +kernel
theorem dX9_findsWorst_63 : decode cX9_findsWorst 63 = .ok (.aload_n 0, 1) := by decide +kernel
theorem dX9_findsWorst_64 : decode cX9_findsWorst 64 = .ok (.getfield 36, 3) := by decide +kernel
theorem dX9_findsWorst_67 : decode cX9_findsWorst 67 = .ok (.iload 7, 2) := by decide +kernel
theorem dX9_findsWorst_69 : decode cX9_findsWorst 69 = .ok (.laload, 1) := by decide +kernel
theorem dX9_findsWorst_70 : decode cX9_findsWorst 70 = .ok (.lload 4, 2) := by decide +kernel
theorem dX9_findsWorst_72 : decode cX9_findsWorst 72 = .ok (.lcmp, 1) := by decide +kernel
theorem dX9_findsWorst_73 : decode cX9_findsWorst 73 = .ok (.ifCond .eq 9, 3) := by decide +kernel
theorem dX9_findsWorst_76 : decode cX9_findsWorst 76 = .ok (.iinc 7 1, 3) := by decide +kernel
theorem dX9_findsWorst_79 : decode cX9_findsWorst 79 = .ok (.goto (-16), 3) := by decide +kernel
theorem dX9_findsWorst_82 : decode cX9_findsWorst 82 = .ok (.aload_n 0, 1) := by decide +kernel
theorem dX9_findsWorst_83 : decode cX9_findsWorst 83 = .ok (.iload 6, 2) := by decide +kernel
theorem dX9_findsWorst_85 : decode cX9_findsWorst 85 = .ok (.putfield 22, 3) := by decide +kernel
theorem dX9_findsWorst_88 : decode cX9_findsWorst 88 = .ok (.aload_n 0, 1) := by decide +kernel
theorem dX9_findsWorst_89 : decode cX9_findsWorst 89 = .ok (.iload 7, 2) := by decide +kernel
theorem dX9_findsWorst_91 : decode cX9_findsWorst 91 = .ok (.putfield 150, 3) := by decide +kernel
theorem dX9_findsWorst_94 : decode cX9_findsWorst 94 = .ok (.aload_n 0, 1) := by decide +kernel
theorem dX9_findsWorst_95 : decode cX9_findsWorst 95 = .ok (.iload_n 2, 1) := by decide +kernel
theorem dX9_findsWorst_96 : decode cX9_findsWorst 96 = .ok (.putfield 153, 3) := by decide +kernel
theorem dX9_findsWorst_99 : decode cX9_findsWorst 99 = .ok (.aload_n 0, 1) := by decide +kernel
theorem dX9_findsWorst_100 : decode cX9_findsWorst 100 = .ok (.getfield 26, 3) := by decide +kernel
theorem dX9_findsWorst_103 : decode cX9_findsWorst 103 = .ok (.iload 7, 2) := by decide +kernel
theorem dX9_findsWorst_105 : decode cX9_findsWorst 105 = .ok (.aload_n 0, 1) := by decide +kernel
theorem dX9_findsWorst_106 : decode cX9_findsWorst 106 = .ok (.getfield 9, 3) := by decide +kernel
theorem dX9_findsWorst_109 : decode cX9_findsWorst 109 = .ok (.iconst 3, 1) := by decide +kernel
theorem dX9_findsWorst_110 : decode cX9_findsWorst 110 = .ok (.iload 7, 2) := by decide +kernel
theorem dX9_findsWorst_112 : decode cX9_findsWorst 112 = .ok (.iadd, 1) := by decide +kernel
theorem dX9_findsWorst_113 : decode cX9_findsWorst 113 = .ok (.iaload, 1) := by decide +kernel
theorem dX9_findsWorst_114 : decode cX9_findsWorst 114 = .ok (.iastore, 1) := by decide +kernel
theorem dX9_findsWorst_115 : decode cX9_findsWorst 115 = .ok (.iload 7, 2) := by decide +kernel
theorem dX9_findsWorst_117 : decode cX9_findsWorst 117 = .ok (.istore 8, 2) := by decide +kernel
theorem dX9_findsWorst_119 : decode cX9_findsWorst 119 = .ok (.iload 8, 2) := by decide +kernel
theorem dX9_findsWorst_121 : decode cX9_findsWorst 121 = .ok (.iload 6, 2) := by decide +kernel
theorem dX9_findsWorst_123 : decode cX9_findsWorst 123 = .ok (.if_icmp .le 36, 3) := by decide +kernel
theorem dX9_findsWorst_126 : decode cX9_findsWorst 126 = .ok (.aload_n 0, 1) := by decide +kernel
theorem dX9_findsWorst_127 : decode cX9_findsWorst 127 = .ok (.getfield 26, 3) := by decide +kernel
theorem dX9_findsWorst_130 : decode cX9_findsWorst 130 = .ok (.iload 8, 2) := by decide +kernel
theorem dX9_findsWorst_132 : decode cX9_findsWorst 132 = .ok (.iconst 1, 1) := by decide +kernel
theorem dX9_findsWorst_133 : decode cX9_findsWorst 133 = .ok (.isub, 1) := by decide +kernel
theorem dX9_findsWorst_134 : decode cX9_findsWorst 134 = .ok (.aload_n 0, 1) := by decide +kernel
theorem dX9_findsWorst_135 : decode cX9_findsWorst 135 = .ok (.getfield 33, 3) := by decide +kernel
theorem dX9_findsWorst_138 : decode cX9_findsWorst 138 = .ok (.bipush 101, 2) := by decide +kernel
theorem dX9_findsWorst_140 : decode cX9_findsWorst 140 = .ok (.iload 8, 2) := by decide +kernel
theorem dX9_findsWorst_142 : decode cX9_findsWorst 142 = .ok (.imul, 1) := by decide +kernel
theorem dX9_findsWorst_143 : decode cX9_findsWorst 143 = .ok (.aload_n 0, 1) := by decide +kernel
theorem dX9_findsWorst_144 : decode cX9_findsWorst 144 = .ok (.getfield 26, 3) := by decide +kernel
theorem dX9_findsWorst_147 : decode cX9_findsWorst 147 = .ok (.iload 8, 2) := by decide +kernel
theorem dX9_findsWorst_149 : decode cX9_findsWorst 149 = .ok (.iaload, 1) := by decide +kernel
theorem dX9_findsWorst_150 : decode cX9_findsWorst 150 = .ok (.iadd, 1) := by decide +kernel
theorem dX9_findsWorst_151 : decode cX9_findsWorst 151 = .ok (.iaload, 1) := by decide +kernel
theorem dX9_findsWorst_152 : decode cX9_findsWorst 152 = .ok (.iastore, 1) := by decide +kernel
theorem dX9_findsWorst_153 : decode cX9_findsWorst 153 = .ok (.iinc 8 (-1), 3) := by decide +kernel
theorem dX9_findsWorst_156 : decode cX9_findsWorst 156 = .ok (.goto (-37), 3) := by decide +kernel
theorem dX9_findsWorst_159 : decode cX9_findsWorst 159 = .ok (.iconst 1, 1) := by decide +kernel
theorem dX9_findsWorst_160 : decode cX9_findsWorst 160 = .ok (.ireturn, 1) := by decide +kernel
theorem dX9_findsWorst_161 : decode cX9_findsWorst 161 = .ok (.iinc 6 1, 3) := by decide +kernel
theorem dX9_findsWorst_164 : decode cX9_findsWorst 164 = .ok (.goto (-139), 3) := by decide +kernel
theorem dX9_findsWorst_167 : decode cX9_findsWorst 167 = .ok (.iconst 0, 1) := by decide +kernel
theorem dX9_findsWorst_168 : decode cX9_findsWorst 168 = .ok (.ireturn, 1) := by decide +kernel
set_option maxHeartbeats 4000000 in
theorem st_X9_findsWorst_119_b {X : sj_X} {g : sj_G} {s0 : sj_Mem} {N : Nat} {q : Int × sj_VV} {k119 : Nat → Int → Int → sj_VV → Option (Int × sj_VV)} (hk119 : ∀ (a0 : Nat) (x6 : Int) (x8 : Int) (V : sj_VV), OK9 g a0 → k119 a0 x6 x8 V = some q → sj_T X m_X9_findsWorst s0 (some (sj_i q.1), (g, q.2)) 119 [some (sj_r (some a0)), none, none, none, none, none, some (sj_i x6), none, some (sj_i x8)] [] (g, V)) :
    ∀ (a0 : Nat) (x6 : Int) (x8 : Int) (V : sj_VV), OK9 g a0 → g_X9_findsWorst_119_b N k119 a0 x6 x8 V = some q → sj_T X m_X9_findsWorst s0 (some (sj_i q.1), (g, q.2)) 119 [some (sj_r (some a0)), none, none, none, none, none, some (sj_i x6), none, some (sj_i x8)] [] (g, V) := by
  intro a0 x6 x8 V ha0 h
  unfold g_X9_findsWorst_119_b at h
  refine r_iload (pc := 119) dX9_findsWorst_119 rfl ?_
  refine r_iload (pc := 121) dX9_findsWorst_121 rfl ?_
  refine r_icmp_le (pc := 123) (tgt := 159) h dX9_findsWorst_123 (by decide) (fun h => ?_) (fun h => ?_)
  · refine r_iconst (pc := 159) dX9_findsWorst_159 ?_
    exact r_zrets (pc := 160) h rfl dX9_findsWorst_160
  · refine r_aload_n (pc := 126) dX9_findsWorst_126 rfl rfl ?_
    refine r_gRs (b := a0 + 5) (pc := 127) dX9_findsWorst_127 fw_X9_26 rfl (ok9 ha0) (ok9_16 ha0).1 ?_
    refine r_iload (pc := 130) dX9_findsWorst_130 rfl ?_
    refine r_iconst (pc := 132) dX9_findsWorst_132 ?_
    refine r_isub (pc := 133) dX9_findsWorst_133 ?_
    refine r_aload_n (pc := 134) dX9_findsWorst_134 rfl rfl ?_
    refine r_gRs (b := a0 + 7) (pc := 135) dX9_findsWorst_135 fw_X9_33 rfl (ok9 ha0) (ok9_23 ha0).1 ?_
    refine r_bipush (pc := 138) dX9_findsWorst_138 ⟨by decide, by decide⟩ ?_
    refine r_iload (pc := 140) dX9_findsWorst_140 rfl ?_
    refine r_imul (pc := 142) dX9_findsWorst_142 ?_
    refine r_aload_n (pc := 143) dX9_findsWorst_143 rfl rfl ?_
    refine r_gRs (b := a0 + 5) (pc := 144) dX9_findsWorst_144 fw_X9_26 rfl (ok9 ha0) (ok9_16 ha0).1 ?_
    refine r_iload (pc := 147) dX9_findsWorst_147 rfl ?_
    refine r_ialoads (pc := 149) h dX9_findsWorst_149 (ok9_16 ha0).2 (fun h => ?_)
    refine r_iadd (pc := 150) dX9_findsWorst_150 ?_
    refine r_ialoads (pc := 151) h dX9_findsWorst_151 (ok9_23 ha0).2 (fun h => ?_)
    refine r_iastores (pc := 152) h dX9_findsWorst_152 (ok9_16 ha0).2 (fun V1 h => ?_)
    refine r_iinc (ln := fun w => [some (sj_r (some a0)), none, none, none, none, none, some (sj_i x6), none, some (sj_i w)]) (pc := 153) h dX9_findsWorst_153 rfl (Nat.le_of_ble_eq_true rfl) (fun _ => rfl) (fun v2 h => ?_)
    refine r_goto (pc := 156) (tgt := 119) dX9_findsWorst_156 (by decide) ?_
    exact sj_weak (l2 := [some (sj_r (some a0)), none, none, none, none, none, some (sj_i x6), none, some (sj_i v2)]) (⟨rfl, ⟨rfl, ⟨rfl, trivial⟩⟩⟩) (hk119 a0 x6 v2 V1 ha0 h)
set_option maxHeartbeats 4000000 in
theorem st_X9_findsWorst_119 {X : sj_X} {g : sj_G} {s0 : sj_Mem} {N : Nat} {q : Int × sj_VV} :
    ∀ (n : Nat) (a0 : Nat) (x6 : Int) (x8 : Int) (V : sj_VV), OK9 g a0 → g_X9_findsWorst_119 N n a0 x6 x8 V = some q → sj_T X m_X9_findsWorst s0 (some (sj_i q.1), (g, q.2)) 119 [some (sj_r (some a0)), none, none, none, none, none, some (sj_i x6), none, some (sj_i x8)] [] (g, V) := by
  intro n
  induction n with
  | zero => intro a0 x6 x8 V ha0 h; exact nomatch h
  | succ n ih => intro a0 x6 x8 V ha0 h; exact st_X9_findsWorst_119_b (N := N) ih a0 x6 x8 V ha0 h
set_option maxHeartbeats 4000000 in
theorem st_X9_findsWorst_63_b {X : sj_X} {g : sj_G} {s0 : sj_Mem} {N : Nat} {q : Int × sj_VV} {k63 : Nat → Int → Int → Int → Int → sj_VV → Option (Int × sj_VV)} (hk63 : ∀ (a0 : Nat) (x2 : Int) (x4 : Int) (x6 : Int) (x7 : Int) (V : sj_VV), OK9 g a0 → k63 a0 x2 x4 x6 x7 V = some q → sj_T X m_X9_findsWorst s0 (some (sj_i q.1), (g, q.2)) 63 [some (sj_r (some a0)), none, some (sj_i x2), none, some (sj_j x4), none, some (sj_i x6), some (sj_i x7), none] [] (g, V)) :
    ∀ (a0 : Nat) (x2 : Int) (x4 : Int) (x6 : Int) (x7 : Int) (V : sj_VV), OK9 g a0 → g_X9_findsWorst_63_b N k63 a0 x2 x4 x6 x7 V = some q → sj_T X m_X9_findsWorst s0 (some (sj_i q.1), (g, q.2)) 63 [some (sj_r (some a0)), none, some (sj_i x2), none, some (sj_j x4), none, some (sj_i x6), some (sj_i x7), none] [] (g, V) := by
  intro a0 x2 x4 x6 x7 V ha0 h
  unfold g_X9_findsWorst_63_b at h
  refine r_aload_n (pc := 63) dX9_findsWorst_63 rfl rfl ?_
  refine r_gRs (b := a0 + 8) (pc := 64) dX9_findsWorst_64 fw_X9_36 rfl (ok9 ha0) (ok9_24 ha0).1 ?_
  refine r_iload (pc := 67) dX9_findsWorst_67 rfl ?_
  refine r_laloads (pc := 69) h dX9_findsWorst_69 (ok9_24 ha0).2 (fun h => ?_)
  refine r_lload (pc := 70) dX9_findsWorst_70 rfl ?_
  refine r_leq (pc := 72) (tgt := 82) h dX9_findsWorst_72 rfl dX9_findsWorst_73 (by decide) (fun h => ?_) (fun h => ?_)
  · refine r_aload_n (pc := 82) dX9_findsWorst_82 rfl rfl ?_
    refine r_iload (pc := 83) dX9_findsWorst_83 rfl ?_
    refine r_pIs (pc := 85) h dX9_findsWorst_85 fw_X9_22 rfl rfl (nf9_13) (ok9 ha0) (fun V1 h => ?_)
    refine r_aload_n (pc := 88) dX9_findsWorst_88 rfl rfl ?_
    refine r_iload (pc := 89) dX9_findsWorst_89 rfl ?_
    refine r_pIs (pc := 91) h dX9_findsWorst_91 fw_X9_150 rfl rfl (nf9_14) (ok9 ha0) (fun V2 h => ?_)
    refine r_aload_n (pc := 94) dX9_findsWorst_94 rfl rfl ?_
    refine r_iload_n (pc := 95) dX9_findsWorst_95 rfl rfl ?_
    refine r_pZs (pc := 96) h dX9_findsWorst_96 fw_X9_153 rfl rfl (nf9_15) (ok9 ha0) (fun V3 h => ?_)
    refine r_aload_n (pc := 99) dX9_findsWorst_99 rfl rfl ?_
    refine r_gRs (b := a0 + 5) (pc := 100) dX9_findsWorst_100 fw_X9_26 rfl (ok9 ha0) (ok9_16 ha0).1 ?_
    refine r_iload (pc := 103) dX9_findsWorst_103 rfl ?_
    refine r_aload_n (pc := 105) dX9_findsWorst_105 rfl rfl ?_
    refine r_gRs (b := a0 + 1) (pc := 106) dX9_findsWorst_106 fw_X9_9 rfl (ok9 ha0) (ok9_0 ha0).1 ?_
    refine r_iconst (pc := 109) dX9_findsWorst_109 ?_
    refine r_iload (pc := 110) dX9_findsWorst_110 rfl ?_
    refine r_iadd (pc := 112) dX9_findsWorst_112 ?_
    refine r_ialoads (pc := 113) h dX9_findsWorst_113 (ok9_0 ha0).2 (fun h => ?_)
    refine r_iastores (pc := 114) h dX9_findsWorst_114 (ok9_16 ha0).2 (fun V4 h => ?_)
    refine r_iload (pc := 115) dX9_findsWorst_115 rfl ?_
    refine r_istore (ln := [some (sj_r (some a0)), none, some (sj_i x2), none, some (sj_j x4), none, some (sj_i x6), some (sj_i x7), some (sj_i x7)]) (pc := 117) dX9_findsWorst_117 (Nat.le_of_ble_eq_true rfl) rfl ?_
    exact sj_weak (l2 := [some (sj_r (some a0)), none, none, none, none, none, some (sj_i x6), none, some (sj_i x7)]) (⟨rfl, ⟨rfl, ⟨rfl, trivial⟩⟩⟩) (st_X9_findsWorst_119 N a0 x6 x7 V4 ha0 h)
  · refine r_iinc (ln := fun w => [some (sj_r (some a0)), none, some (sj_i x2), none, some (sj_j x4), none, some (sj_i x6), some (sj_i w), none]) (pc := 76) h dX9_findsWorst_76 rfl (Nat.le_of_ble_eq_true rfl) (fun _ => rfl) (fun v5 h => ?_)
    refine r_goto (pc := 79) (tgt := 63) dX9_findsWorst_79 (by decide) ?_
    exact sj_weak (l2 := [some (sj_r (some a0)), none, some (sj_i x2), none, some (sj_j x4), none, some (sj_i x6), some (sj_i v5), none]) (⟨rfl, ⟨rfl, ⟨rfl, ⟨rfl, ⟨rfl, trivial⟩⟩⟩⟩⟩) (hk63 a0 x2 x4 x6 v5 V ha0 h)
set_option maxHeartbeats 4000000 in
theorem st_X9_findsWorst_63 {X : sj_X} {g : sj_G} {s0 : sj_Mem} {N : Nat} {q : Int × sj_VV} :
    ∀ (n : Nat) (a0 : Nat) (x2 : Int) (x4 : Int) (x6 : Int) (x7 : Int) (V : sj_VV), OK9 g a0 → g_X9_findsWorst_63 N n a0 x2 x4 x6 x7 V = some q → sj_T X m_X9_findsWorst s0 (some (sj_i q.1), (g, q.2)) 63 [some (sj_r (some a0)), none, some (sj_i x2), none, some (sj_j x4), none, some (sj_i x6), some (sj_i x7), none] [] (g, V) := by
  intro n
  induction n with
  | zero => intro a0 x2 x4 x6 x7 V ha0 h; exact nomatch h
  | succ n ih => intro a0 x2 x4 x6 x7 V ha0 h; exact st_X9_findsWorst_63_b (N := N) ih a0 x2 x4 x6 x7 V ha0 h
set_option maxHeartbeats 4000000 in
theorem st_X9_findsWorst_25_b {X : sj_X} {g : sj_G} {s0 : sj_Mem} {N : Nat} {q : Int × sj_VV} {k25 : Nat → Int → Int → Int → Int → Int → sj_VV → Option (Int × sj_VV)} (hk25 : ∀ (a0 : Nat) (x1 : Int) (x2 : Int) (x3 : Int) (x4 : Int) (x6 : Int) (V : sj_VV), OK9 g a0 → k25 a0 x1 x2 x3 x4 x6 V = some q → sj_T X m_X9_findsWorst s0 (some (sj_i q.1), (g, q.2)) 25 [some (sj_r (some a0)), some (sj_i x1), some (sj_i x2), some (sj_i x3), some (sj_j x4), none, some (sj_i x6), none, none] [] (g, V)) :
    ∀ (a0 : Nat) (x1 : Int) (x2 : Int) (x3 : Int) (x4 : Int) (x6 : Int) (V : sj_VV), OK9 g a0 → g_X9_findsWorst_25_b N k25 a0 x1 x2 x3 x4 x6 V = some q → sj_T X m_X9_findsWorst s0 (some (sj_i q.1), (g, q.2)) 25 [some (sj_r (some a0)), some (sj_i x1), some (sj_i x2), some (sj_i x3), some (sj_j x4), none, some (sj_i x6), none, none] [] (g, V) := by
  intro a0 x1 x2 x3 x4 x6 V ha0 h
  unfold g_X9_findsWorst_25_b at h
  refine r_iload (pc := 25) dX9_findsWorst_25 rfl ?_
  refine r_aload_n (pc := 27) dX9_findsWorst_27 rfl rfl ?_
  refine r_gRs (b := a0 + 1) (pc := 28) dX9_findsWorst_28 fw_X9_9 rfl (ok9 ha0) (ok9_0 ha0).1 ?_
  refine r_iconst (pc := 31) dX9_findsWorst_31 ?_
  refine r_ialoads (pc := 32) h dX9_findsWorst_32 (ok9_0 ha0).2 (fun h => ?_)
  refine r_icmp_ge (pc := 33) (tgt := 167) h dX9_findsWorst_33 (by decide) (fun h => ?_) (fun h => ?_)
  · refine r_iconst (pc := 167) dX9_findsWorst_167 ?_
    exact r_zrets (pc := 168) h rfl dX9_findsWorst_168
  · refine r_aload_n (pc := 36) dX9_findsWorst_36 rfl rfl ?_
    refine r_iload (pc := 37) dX9_findsWorst_37 rfl ?_
    refine r_iconst (pc := 39) dX9_findsWorst_39 ?_
    refine r_iload_n (pc := 40) dX9_findsWorst_40 rfl rfl ?_
    refine r_iload_n (pc := 41) dX9_findsWorst_41 rfl rfl ?_
    refine r_iload_n (pc := 42) dX9_findsWorst_42 rfl rfl ?_
    refine r_iconst (pc := 43) dX9_findsWorst_43 ?_
    refine r_iadd (pc := 44) dX9_findsWorst_44 ?_
    refine r_callVs (pc := 45) (fun v => some (sj_j v)) (As := [sj_i x6, sj_i 0, sj_i x1, sj_i x2, sj_i (x3 + 1)]) (rest := []) (b := a0) (ok9 ha0) h dX9_findsWorst_45 mw_X9_259 vw_X9_goes (fun _ _ hc => cg_X9_goes ha0 hc) rfl ⟨(Nat.le_of_ble_eq_true rfl), (Nat.le_of_ble_eq_true rfl)⟩ (Nat.le_of_ble_eq_true rfl) rfl (fun v2 V1 h => ?_)
    refine r_lload (pc := 48) dX9_findsWorst_48 rfl ?_
    refine r_leq (pc := 50) (tgt := 57) h dX9_findsWorst_50 rfl dX9_findsWorst_51 (by decide) (fun h => ?_) (fun h => ?_)
    · refine r_iload (pc := 57) dX9_findsWorst_57 rfl ?_
      refine r_iconst (pc := 59) dX9_findsWorst_59 ?_
      refine r_iadd (pc := 60) dX9_findsWorst_60 ?_
      refine r_istoreL (ln := fun w => [some (sj_r (some a0)), some (sj_i x1), some (sj_i x2), some (sj_i x3), some (sj_j x4), none, some (sj_i x6), some (sj_i w), none]) (pc := 61) h dX9_findsWorst_61 (Nat.le_of_ble_eq_true rfl) (fun _ => rfl) (fun v3 h => ?_)
      exact sj_weak (l2 := [some (sj_r (some a0)), none, some (sj_i x2), none, some (sj_j x4), none, some (sj_i x6), some (sj_i v3), none]) (⟨rfl, ⟨rfl, ⟨rfl, ⟨rfl, ⟨rfl, trivial⟩⟩⟩⟩⟩) (st_X9_findsWorst_63 N a0 x2 x4 x6 v3 V1 ha0 h)
    · refine r_goto (pc := 54) (tgt := 161) dX9_findsWorst_54 (by decide) ?_
      refine r_iinc (ln := fun w => [some (sj_r (some a0)), some (sj_i x1), some (sj_i x2), some (sj_i x3), some (sj_j x4), none, some (sj_i w), none, none]) (pc := 161) h dX9_findsWorst_161 rfl (Nat.le_of_ble_eq_true rfl) (fun _ => rfl) (fun v4 h => ?_)
      refine r_goto (pc := 164) (tgt := 25) dX9_findsWorst_164 (by decide) ?_
      exact sj_weak (l2 := [some (sj_r (some a0)), some (sj_i x1), some (sj_i x2), some (sj_i x3), some (sj_j x4), none, some (sj_i v4), none, none]) (⟨rfl, ⟨rfl, ⟨rfl, ⟨rfl, ⟨rfl, ⟨rfl, trivial⟩⟩⟩⟩⟩⟩) (hk25 a0 x1 x2 x3 x4 v4 V1 ha0 h)
set_option maxHeartbeats 4000000 in
theorem st_X9_findsWorst_25 {X : sj_X} {g : sj_G} {s0 : sj_Mem} {N : Nat} {q : Int × sj_VV} :
    ∀ (n : Nat) (a0 : Nat) (x1 : Int) (x2 : Int) (x3 : Int) (x4 : Int) (x6 : Int) (V : sj_VV), OK9 g a0 → g_X9_findsWorst_25 N n a0 x1 x2 x3 x4 x6 V = some q → sj_T X m_X9_findsWorst s0 (some (sj_i q.1), (g, q.2)) 25 [some (sj_r (some a0)), some (sj_i x1), some (sj_i x2), some (sj_i x3), some (sj_j x4), none, some (sj_i x6), none, none] [] (g, V) := by
  intro n
  induction n with
  | zero => intro a0 x1 x2 x3 x4 x6 V ha0 h; exact nomatch h
  | succ n ih => intro a0 x1 x2 x3 x4 x6 V ha0 h; exact st_X9_findsWorst_25_b (N := N) ih a0 x1 x2 x3 x4 x6 V ha0 h
set_option maxHeartbeats 4000000 in
theorem st_X9_findsWorst_0 {X : sj_X} {g : sj_G} {s0 : sj_Mem} {N : Nat} {q : Int × sj_VV} :
    ∀ (a0 : Nat) (x1 : Int) (x2 : Int) (x3 : Int) (V : sj_VV), OK9 g a0 → g_X9_findsWorst N a0 x1 x2 x3 V = some q → sj_T X m_X9_findsWorst s0 (some (sj_i q.1), (g, q.2)) 0 [some (sj_r (some a0)), some (sj_i x1), some (sj_i x2), some (sj_i x3), none, none, none, none, none] [] (g, V) := by
  intro a0 x1 x2 x3 V ha0 h
  unfold g_X9_findsWorst at h
  refine r_iload_n (pc := 0) dX9_findsWorst_0 rfl rfl ?_
  refine r_sipush (pc := 1) dX9_findsWorst_1 ⟨by decide, by decide⟩ ?_
  refine r_icmp_ne (pc := 4) (tgt := 9) h dX9_findsWorst_4 (by decide) (fun h => ?_) (fun h => ?_)
  · refine r_iconst (pc := 7) dX9_findsWorst_7 ?_
    exact r_zrets (pc := 8) h rfl dX9_findsWorst_8
  · refine r_aload_n (pc := 9) dX9_findsWorst_9 rfl rfl ?_
    refine r_iconst (pc := 10) dX9_findsWorst_10 ?_
    refine r_iconst (pc := 11) dX9_findsWorst_11 ?_
    refine r_iload_n (pc := 12) dX9_findsWorst_12 rfl rfl ?_
    refine r_iload_n (pc := 13) dX9_findsWorst_13 rfl rfl ?_
    refine r_iload_n (pc := 14) dX9_findsWorst_14 rfl rfl ?_
    refine r_iconst (pc := 15) dX9_findsWorst_15 ?_
    refine r_iadd (pc := 16) dX9_findsWorst_16 ?_
    refine r_callVs (pc := 17) (fun v => some (sj_j v)) (As := [sj_i 0, sj_i 1, sj_i x1, sj_i x2, sj_i (x3 + 1)]) (rest := []) (b := a0) (ok9 ha0) h dX9_findsWorst_17 mw_X9_259 vw_X9_goes (fun _ _ hc => cg_X9_goes ha0 hc) rfl ⟨(Nat.le_of_ble_eq_true rfl), (Nat.le_of_ble_eq_true rfl)⟩ (Nat.le_of_ble_eq_true rfl) rfl (fun v2 V1 h => ?_)
    refine r_lstore (ln := [some (sj_r (some a0)), some (sj_i x1), some (sj_i x2), some (sj_i x3), some (sj_j v2), none, none, none, none]) (pc := 20) dX9_findsWorst_20 (Nat.le_of_ble_eq_true rfl) rfl ?_
    refine r_iconst (pc := 22) dX9_findsWorst_22 ?_
    refine r_istore (ln := [some (sj_r (some a0)), some (sj_i x1), some (sj_i x2), some (sj_i x3), some (sj_j v2), none, some (sj_i 0), none, none]) (pc := 23) dX9_findsWorst_23 (Nat.le_of_ble_eq_true rfl) rfl ?_
    exact sj_weak (l2 := [some (sj_r (some a0)), some (sj_i x1), some (sj_i x2), some (sj_i x3), some (sj_j v2), none, some (sj_i 0), none, none]) (⟨rfl, ⟨rfl, ⟨rfl, ⟨rfl, ⟨rfl, ⟨rfl, trivial⟩⟩⟩⟩⟩⟩) (st_X9_findsWorst_25 N a0 x1 x2 x3 v2 0 V1 ha0 h)
set_option maxHeartbeats 4000000 in
theorem cg_X9_findsWorst {X : sj_X} {g : sj_G} {N : Nat} {a0 : Nat} {x1 : Int} {x2 : Int} {x3 : Int} {V : sj_VV} {q : Int × sj_VV} (ha0 : OK9 g a0) (h : g_X9_findsWorst N a0 x1 x2 x3 V = some q) : sj_C X m_X9_findsWorst [sj_r (some a0), sj_i x1, sj_i x2, sj_i x3] (g, V) (some (sj_i q.1), (g, q.2)) :=
  sj_C_of (by decide +kernel) (Nat.le_of_ble_eq_true rfl) (lo := [some (sj_r (some a0)), some (sj_i x1), some (sj_i x2), some (sj_i x3), none, none, none, none, none]) rfl (sj_weak (l2 := [some (sj_r (some a0)), some (sj_i x1), some (sj_i x2), some (sj_i x3), none, none, none, none, none]) (⟨rfl, ⟨rfl, ⟨rfl, ⟨rfl, trivial⟩⟩⟩⟩) (st_X9_findsWorst_0 a0 x1 x2 x3 V ha0 h))
set_option maxHeartbeats 4000000 in
theorem c_X9_findsWorst {X : sj_X} {N : Nat} {a0 : Nat} {x1 : Int} {x2 : Int} {x3 : Int} {s : sj_Mem} {q : Int × sj_Mem} (h : f_X9_findsWorst N a0 x1 x2 x3 s = some q) : sj_C X m_X9_findsWorst [sj_r (some a0), sj_i x1, sj_i x2, sj_i x3] s (some (sj_i q.1), q.2) := by
  obtain ⟨g, V⟩ := s
  unfold f_X9_findsWorst at h
  obtain ⟨ho, h1⟩ := e_ok_some h
  obtain ⟨q2, h2, rfl⟩ := sj_map_some h1
  exact cg_X9_findsWorst ho h2
theorem dX9_tables_0 : decode cX9_tables 0 = .ok (.iload_n 1, 1) := by decide +kernel
theorem dX9_tables_1 : decode cX9_tables 1 = .ok (.i2l, 1) := by decide +kernel
theorem dX9_tables_2 : decode cX9_tables 2 = .ok (.lconst 1, 1) := by decide +kernel
theorem dX9_tables_3 : decode cX9_tables 3 = .ok (.ldc2_w 263, 3) := by decide +kernel
theorem dX9_tables_6 : decode cX9_tables 6 = .ok (.invokestatic 57, 3) := by decide +kernel
theorem dX9_tables_9 : decode cX9_tables 9 = .ok (.ifCond .eq 29, 3) := by decide +kernel
theorem dX9_tables_12 : decode cX9_tables 12 = .ok (.iload_n 3, 1) := by decide +kernel
theorem dX9_tables_13 : decode cX9_tables 13 = .ok (.i2l, 1) := by decide +kernel
theorem dX9_tables_14 : decode cX9_tables 14 = .ok (.lconst 0, 1) := by decide +kernel
theorem dX9_tables_15 : decode cX9_tables 15 = .ok (.ldc2_w 265, 3) := by decide +kernel
theorem dX9_tables_18 : decode cX9_tables 18 = .ok (.invokestatic 57, 3) := by decide +kernel
theorem dX9_tables_21 : decode cX9_tables 21 = .ok (.ifCond .ne 19, 3) := by decide +kernel
theorem dX9_tables_24 : decode cX9_tables 24 = .ok (.iload_n 3, 1) := by decide +kernel
theorem dX9_tables_25 : decode cX9_tables 25 = .ok (.i2l, 1) := by decide +kernel
theorem dX9_tables_26 : decode cX9_tables 26 = .ok (.ldc2_w 68, 3) := by decide +kernel
theorem dX9_tables_29 : decode cX9_tables 29 = .ok (.ldc2_w 267, 3) := by decide +kernel
theorem dX9_tables_32 : decode cX9_tables 32 = .ok (.invokestatic 57, 3) := by decide +kernel
theorem dX9_tables_35 : decode cX9_tables 35 = .ok (.ifCond .ne 5, 3) := by decide +kernel
theorem dX9_tables_38 : decode cX9_tables 38 = .ok (.iconst (-1), 1) := by decide +kernel
theorem dX9_tables_39 : decode cX9_tables 39 = .ok (.ireturn, 1) := by decide +kernel
theorem dX9_tables_40 : decode cX9_tables 40 = .ok (.aload_n 0, 1) := by decide +kernel
theorem dX9_tables_41 : decode cX9_tables 41 = .ok (.iload_n 1, 1) := by decide +kernel
theorem dX9_tables_42 : decode cX9_tables 42 = .ok (.iload_n 2, 1) := by decide +kernel
theorem dX9_tables_43 : decode cX9_tables 43 = .ok (.invokevirtual 269, 3) := by decide +kernel
theorem dX9_tables_46 : decode cX9_tables 46 = .ok (.istore 4, 2) := by decide +kernel
theorem dX9_tables_48 : decode cX9_tables 48 = .ok (.iload_n 3, 1) := by decide +kernel
theorem dX9_tables_49 : decode cX9_tables 49 = .ok (.ifCond .ne 6, 3) := by decide +kernel
theorem dX9_tables_52 : decode cX9_tables 52 = .ok (.iload 4, 2) := by decide +kernel
theorem dX9_tables_54 : decode cX9_tables 54 = .ok (.ireturn, 1) := by decide +kernel
theorem dX9_tables_55 : decode cX9_tables 55 = .ok (.aload_n 0, 1) := by decide +kernel
theorem dX9_tables_56 : decode cX9_tables 56 = .ok (.iload_n 1, 1) := by decide +kernel
theorem dX9_tables_57 : decode cX9_tables 57 = .ok (.iload_n 2, 1) := by decide +kernel
theorem dX9_tables_58 : decode cX9_tables 58 = .ok (.iload 4, 2) := by decide +kernel
theorem dX9_tables_60 : decode cX9_tables 60 = .ok (.invokevirtual 273, 3) := by decide +kernel
theorem dX9_tables_63 : decode cX9_tables 63 = .ok (.ifCond .ne 5, 3) := by decide +kernel
theorem dX9_tables_66 : decode cX9_tables 66 = .ok (.iconst (-1), 1) := by decide +kernel
theorem dX9_tables_67 : decode cX9_tables 67 = .ok (.ireturn, 1) := by decide +kernel
theorem dX9_tables_68 : decode cX9_tables 68 = .ok (.iload_n 3, 1) := by decide +kernel
theorem dX9_tables_69 : decode cX9_tables 69 = .ok (.iconst 1, 1) := by decide +kernel
theorem dX9_tables_70 : decode cX9_tables 70 = .ok (.if_icmp .ne 10, 3) := by decide +kernel
theorem dX9_tables_73 : decode cX9_tables 73 = .ok (.aload_n 0, 1) := by decide +kernel
theorem dX9_tables_74 : decode cX9_tables 74 = .ok (.getfield 22, 3) := by decide +kernel
theorem dX9_tables_77 : decode cX9_tables 77 = .ok (.goto 49, 3) := by decide +kernel
theorem dX9_tables_80 : decode cX9_tables 80 = .ok (.iload_n 3, 1) := by decide +kernel
theorem dX9_tables_81 : decode cX9_tables 81 = .ok (.iconst 2, 1) := by decide +kernel
theorem dX9_tables_82 : decode cX9_tables 82 = .ok (.if_icmp .ne 10, 3) := by decide +kernel
theorem dX9_tables_85 : decode cX9_tables 85 = .ok (.aload_n 0, 1) := by decide +kernel
theorem dX9_tables_86 : decode cX9_tables 86 = .ok (.getfield 150, 3) := by decide +kernel
theorem dX9_tables_89 : decode cX9_tables 89 = .ok (.goto 37, 3) := by decide +kernel
theorem dX9_tables_92 : decode cX9_tables 92 = .ok (.iload_n 3, 1) := by decide +kernel
theorem dX9_tables_93 : decode cX9_tables 93 = .ok (.bipush 10, 2) := by decide +kernel
theorem dX9_tables_95 : decode cX9_tables 95 = .ok (.isub, 1) := by decide +kernel
theorem dX9_tables_96 : decode cX9_tables 96 = .ok (.i2l, 1) := by decide +kernel
theorem dX9_tables_97 : decode cX9_tables 97 = .ok (.aload_n 0, 1) := by decide +kernel
theorem dX9_tables_98 : decode cX9_tables 98 = .ok (.getfield 22, 3) := by decide +kernel
theorem dX9_tables_101 : decode cX9_tables 101 = .ok (.i2l, 1) := by decide +kernel
theorem dX9_tables_102 : decode cX9_tables 102 = .ok (.aload_n 0, 1) := by decide +kernel
theorem dX9_tables_103 : decode cX9_tables 103 = .ok (.getfield 150, 3) := by decide +kernel
theorem dX9_tables_106 : decode cX9_tables 106 = .ok (.i2l, 1) := by decide +kernel
theorem dX9_tables_107 : decode cX9_tables 107 = .ok (.invokestatic 57, 3) := by decide +kernel
theorem dX9_tables_110 : decode cX9_tables 110 = .ok (.ifCond .eq 15, 3) := by decide +kernel
theorem dX9_tables_113 : decode cX9_tables 113 = .ok (.aload_n 0, 1) := by decide +kernel
theorem dX9_tables_114 : decode cX9_tables 114 = .ok (.getfield 26, 3) := by decide +kernel
theorem dX9_tables_117 : decode cX9_tables 117 = .ok (.iload_n 3, 1) := by decide +kernel
theorem dX9_tables_118 : decode cX9_tables 118 = .ok (.bipush 10, 2) := by decide +kernel
theorem dX9_tables_120 : decode cX9_tables 120 = .ok (.isub, 1) := by decide +kernel
theorem dX9_tables_121 : decode cX9_tables 121 = .ok (.iaload, 1) := by decide +kernel
theorem dX9_tables_122 : decode cX9_tables 122 = .ok (.goto 4, 3) := by decide +kernel
theorem dX9_tables_125 : decode cX9_tables 125 = .ok (.iconst (-1), 1) := by decide +kernel
theorem dX9_tables_126 : decode cX9_tables 126 = .ok (.ireturn, 1) := by decide +kernel
set_option maxHeartbeats 4000000 in
theorem st_X9_tables_40 {X : sj_X} {g : sj_G} {s0 : sj_Mem} {N : Nat} {q : Int × sj_VV} :
    ∀ (a0 : Nat) (x1 : Int) (x2 : Int) (x3 : Int) (V : sj_VV), OK9 g a0 → g_X9_tables_40 N a0 x1 x2 x3 V = some q → sj_T X m_X9_tables s0 (some (sj_i q.1), (g, q.2)) 40 [some (sj_r (some a0)), some (sj_i x1), some (sj_i x2), some (sj_i x3), none] [] (g, V) := by
  intro a0 x1 x2 x3 V ha0 h
  unfold g_X9_tables_40 at h
  refine r_aload_n (pc := 40) dX9_tables_40 rfl rfl ?_
  refine r_iload_n (pc := 41) dX9_tables_41 rfl rfl ?_
  refine r_iload_n (pc := 42) dX9_tables_42 rfl rfl ?_
  refine r_callVs (pc := 43) (fun v => some (sj_i v)) (As := [sj_i x1, sj_i x2]) (rest := []) (b := a0) (ok9 ha0) h dX9_tables_43 mw_X9_269 vw_X9_tableK (fun _ _ hc => cg_X9_tableK ha0 hc) rfl ⟨(Nat.le_of_ble_eq_true rfl), (Nat.le_of_ble_eq_true rfl)⟩ (Nat.le_of_ble_eq_true rfl) rfl (fun v2 V1 h => ?_)
  refine r_istore (ln := [some (sj_r (some a0)), some (sj_i x1), some (sj_i x2), some (sj_i x3), some (sj_i v2)]) (pc := 46) dX9_tables_46 (Nat.le_of_ble_eq_true rfl) rfl ?_
  refine r_iload_n (pc := 48) dX9_tables_48 rfl rfl ?_
  refine r_if_ne (pc := 49) (tgt := 55) h dX9_tables_49 (by decide) (fun h => ?_) (fun h => ?_)
  · refine r_iload (pc := 52) dX9_tables_52 rfl ?_
    exact r_irets (pc := 54) h rfl dX9_tables_54
  · refine r_aload_n (pc := 55) dX9_tables_55 rfl rfl ?_
    refine r_iload_n (pc := 56) dX9_tables_56 rfl rfl ?_
    refine r_iload_n (pc := 57) dX9_tables_57 rfl rfl ?_
    refine r_iload (pc := 58) dX9_tables_58 rfl ?_
    refine r_callVs (pc := 60) (fun v => some (sj_i v)) (As := [sj_i x1, sj_i x2, sj_i v2]) (rest := []) (b := a0) (ok9 ha0) h dX9_tables_60 mw_X9_273 vw_X9_findsWorst (fun _ _ hc => cg_X9_findsWorst ha0 hc) rfl ⟨(Nat.le_of_ble_eq_true rfl), (Nat.le_of_ble_eq_true rfl)⟩ (Nat.le_of_ble_eq_true rfl) rfl (fun v4 V3 h => ?_)
    refine r_if_ne (pc := 63) (tgt := 68) h dX9_tables_63 (by decide) (fun h => ?_) (fun h => ?_)
    · refine r_iconst (pc := 66) dX9_tables_66 ?_
      exact r_irets (pc := 67) h rfl dX9_tables_67
    · refine r_iload_n (pc := 68) dX9_tables_68 rfl rfl ?_
      refine r_iconst (pc := 69) dX9_tables_69 ?_
      refine r_icmp_ne (pc := 70) (tgt := 80) h dX9_tables_70 (by decide) (fun h => ?_) (fun h => ?_)
      · refine r_aload_n (pc := 73) dX9_tables_73 rfl rfl ?_
        refine r_gIs (pc := 74) dX9_tables_74 fw_X9_22 rfl (ok9 ha0) ?_
        refine r_goto (pc := 77) (tgt := 126) dX9_tables_77 (by decide) ?_
        exact r_irets (pc := 126) h rfl dX9_tables_126
      · refine r_iload_n (pc := 80) dX9_tables_80 rfl rfl ?_
        refine r_iconst (pc := 81) dX9_tables_81 ?_
        refine r_icmp_ne (pc := 82) (tgt := 92) h dX9_tables_82 (by decide) (fun h => ?_) (fun h => ?_)
        · refine r_aload_n (pc := 85) dX9_tables_85 rfl rfl ?_
          refine r_gIs (pc := 86) dX9_tables_86 fw_X9_150 rfl (ok9 ha0) ?_
          refine r_goto (pc := 89) (tgt := 126) dX9_tables_89 (by decide) ?_
          exact r_irets (pc := 126) h rfl dX9_tables_126
        · refine r_iload_n (pc := 92) dX9_tables_92 rfl rfl ?_
          refine r_bipush (pc := 93) dX9_tables_93 ⟨by decide, by decide⟩ ?_
          refine r_isub (pc := 95) dX9_tables_95 ?_
          refine r_i2l (pc := 96) h dX9_tables_96 (fun v5 h => ?_)
          refine r_aload_n (pc := 97) dX9_tables_97 rfl rfl ?_
          refine r_gIs (pc := 98) dX9_tables_98 fw_X9_22 rfl (ok9 ha0) ?_
          refine r_i2l (pc := 101) h dX9_tables_101 (fun v6 h => ?_)
          refine r_aload_n (pc := 102) dX9_tables_102 rfl rfl ?_
          refine r_gIs (pc := 103) dX9_tables_103 fw_X9_150 rfl (ok9 ha0) ?_
          refine r_i2l (pc := 106) h dX9_tables_106 (fun v7 h => ?_)
          refine r_callSs (pc := 107) (fun v => some (sj_i v)) (As := [sj_j v5, sj_j v6, sj_j v7]) (rest := []) h dX9_tables_107 mw_X9_57 kw_1225 (fun _ _ hc => cg_X9_isIn  hc) rfl ⟨(Nat.le_of_ble_eq_true rfl), (Nat.le_of_ble_eq_true rfl)⟩ (Nat.le_of_ble_eq_true rfl) rfl (fun v9 V8 h => ?_)
          refine r_if_eq (pc := 110) (tgt := 125) h dX9_tables_110 (by decide) (fun h => ?_) (fun h => ?_)
          · refine r_iconst (pc := 125) dX9_tables_125 ?_
            exact r_irets (pc := 126) h rfl dX9_tables_126
          · refine r_aload_n (pc := 113) dX9_tables_113 rfl rfl ?_
            refine r_gRs (b := a0 + 5) (pc := 114) dX9_tables_114 fw_X9_26 rfl (ok9 ha0) (ok9_16 ha0).1 ?_
            refine r_iload_n (pc := 117) dX9_tables_117 rfl rfl ?_
            refine r_bipush (pc := 118) dX9_tables_118 ⟨by decide, by decide⟩ ?_
            refine r_isub (pc := 120) dX9_tables_120 ?_
            refine r_ialoads (pc := 121) h dX9_tables_121 (ok9_16 ha0).2 (fun h => ?_)
            refine r_goto (pc := 122) (tgt := 126) dX9_tables_122 (by decide) ?_
            exact r_irets (pc := 126) h rfl dX9_tables_126
set_option maxHeartbeats 4000000 in
theorem st_X9_tables_0 {X : sj_X} {g : sj_G} {s0 : sj_Mem} {N : Nat} {q : Int × sj_VV} :
    ∀ (a0 : Nat) (x1 : Int) (x2 : Int) (x3 : Int) (V : sj_VV), OK9 g a0 → g_X9_tables N a0 x1 x2 x3 V = some q → sj_T X m_X9_tables s0 (some (sj_i q.1), (g, q.2)) 0 [some (sj_r (some a0)), some (sj_i x1), some (sj_i x2), some (sj_i x3), none] [] (g, V) := by
  intro a0 x1 x2 x3 V ha0 h
  unfold g_X9_tables at h
  refine r_iload_n (pc := 0) dX9_tables_0 rfl rfl ?_
  refine r_i2l (pc := 1) h dX9_tables_1 (fun v1 h => ?_)
  refine r_lconst1 (pc := 2) dX9_tables_2 ?_
  refine r_ldc2 (n := 12) (pc := 3) dX9_tables_3 kc_X9_263 ?_
  refine r_callSs (pc := 6) (fun v => some (sj_i v)) (As := [sj_j v1, sj_j 1, sj_j 12]) (rest := []) h dX9_tables_6 mw_X9_57 kw_1225 (fun _ _ hc => cg_X9_isIn  hc) rfl ⟨(Nat.le_of_ble_eq_true rfl), (Nat.le_of_ble_eq_true rfl)⟩ (Nat.le_of_ble_eq_true rfl) rfl (fun v3 V2 h => ?_)
  refine r_if_eq (pc := 9) (tgt := 38) h dX9_tables_9 (by decide) (fun h => ?_) (fun h => ?_)
  · refine r_iconst (pc := 38) dX9_tables_38 ?_
    exact r_irets (pc := 39) h rfl dX9_tables_39
  · refine r_iload_n (pc := 12) dX9_tables_12 rfl rfl ?_
    refine r_i2l (pc := 13) h dX9_tables_13 (fun v4 h => ?_)
    refine r_lconst0 (pc := 14) dX9_tables_14 ?_
    refine r_ldc2 (n := 2) (pc := 15) dX9_tables_15 kc_X9_265 ?_
    refine r_callSs (pc := 18) (fun v => some (sj_i v)) (As := [sj_j v4, sj_j 0, sj_j 2]) (rest := []) h dX9_tables_18 mw_X9_57 kw_1225 (fun _ _ hc => cg_X9_isIn  hc) rfl ⟨(Nat.le_of_ble_eq_true rfl), (Nat.le_of_ble_eq_true rfl)⟩ (Nat.le_of_ble_eq_true rfl) rfl (fun v6 V5 h => ?_)
    refine r_if_ne (pc := 21) (tgt := 40) h dX9_tables_21 (by decide) (fun h => ?_) (fun h => ?_)
    · refine r_iload_n (pc := 24) dX9_tables_24 rfl rfl ?_
      refine r_i2l (pc := 25) h dX9_tables_25 (fun v7 h => ?_)
      refine r_ldc2 (n := 10) (pc := 26) dX9_tables_26 kc_X9_68 ?_
      refine r_ldc2 (n := 50) (pc := 29) dX9_tables_29 kc_X9_267 ?_
      refine r_callSs (pc := 32) (fun v => some (sj_i v)) (As := [sj_j v7, sj_j 10, sj_j 50]) (rest := []) h dX9_tables_32 mw_X9_57 kw_1225 (fun _ _ hc => cg_X9_isIn  hc) rfl ⟨(Nat.le_of_ble_eq_true rfl), (Nat.le_of_ble_eq_true rfl)⟩ (Nat.le_of_ble_eq_true rfl) rfl (fun v9 V8 h => ?_)
      refine r_if_ne (pc := 35) (tgt := 40) h dX9_tables_35 (by decide) (fun h => ?_) (fun h => ?_)
      · refine r_iconst (pc := 38) dX9_tables_38 ?_
        exact r_irets (pc := 39) h rfl dX9_tables_39
      · exact sj_weak (l2 := [some (sj_r (some a0)), some (sj_i x1), some (sj_i x2), some (sj_i x3), none]) (⟨rfl, ⟨rfl, ⟨rfl, ⟨rfl, trivial⟩⟩⟩⟩) (st_X9_tables_40 a0 x1 x2 x3 V8 ha0 h)
    · exact sj_weak (l2 := [some (sj_r (some a0)), some (sj_i x1), some (sj_i x2), some (sj_i x3), none]) (⟨rfl, ⟨rfl, ⟨rfl, ⟨rfl, trivial⟩⟩⟩⟩) (st_X9_tables_40 a0 x1 x2 x3 V5 ha0 h)
set_option maxHeartbeats 4000000 in
theorem cg_X9_tables {X : sj_X} {g : sj_G} {N : Nat} {a0 : Nat} {x1 : Int} {x2 : Int} {x3 : Int} {V : sj_VV} {q : Int × sj_VV} (ha0 : OK9 g a0) (h : g_X9_tables N a0 x1 x2 x3 V = some q) : sj_C X m_X9_tables [sj_r (some a0), sj_i x1, sj_i x2, sj_i x3] (g, V) (some (sj_i q.1), (g, q.2)) :=
  sj_C_of (by decide +kernel) (Nat.le_of_ble_eq_true rfl) (lo := [some (sj_r (some a0)), some (sj_i x1), some (sj_i x2), some (sj_i x3), none]) rfl (sj_weak (l2 := [some (sj_r (some a0)), some (sj_i x1), some (sj_i x2), some (sj_i x3), none]) (⟨rfl, ⟨rfl, ⟨rfl, ⟨rfl, trivial⟩⟩⟩⟩) (st_X9_tables_0 a0 x1 x2 x3 V ha0 h))
set_option maxHeartbeats 4000000 in
theorem c_X9_tables {X : sj_X} {N : Nat} {a0 : Nat} {x1 : Int} {x2 : Int} {x3 : Int} {s : sj_Mem} {q : Int × sj_Mem} (h : f_X9_tables N a0 x1 x2 x3 s = some q) : sj_C X m_X9_tables [sj_r (some a0), sj_i x1, sj_i x2, sj_i x3] s (some (sj_i q.1), q.2) := by
  obtain ⟨g, V⟩ := s
  unfold f_X9_tables at h
  obtain ⟨ho, h1⟩ := e_ok_some h
  obtain ⟨q2, h2, rfl⟩ := sj_map_some h1
  exact cg_X9_tables ho h2
theorem dX9_boxes_0 : decode cX9_boxes 0 = .ok (.iload_n 1, 1) := by decide +kernel
theorem dX9_boxes_1 : decode cX9_boxes 1 = .ok (.iload_n 2, 1) := by decide +kernel
theorem dX9_boxes_2 : decode cX9_boxes 2 = .ok (.iload_n 3, 1) := by decide +kernel
theorem dX9_boxes_3 : decode cX9_boxes 3 = .ok (.invokestatic 197, 3) := by decide +kernel
theorem dX9_boxes_6 : decode cX9_boxes 6 = .ok (.ifCond .eq 44, 3) := by decide +kernel
theorem dX9_boxes_9 : decode cX9_boxes 9 = .ok (.iload 4, 2) := by decide +kernel
theorem dX9_boxes_11 : decode cX9_boxes 11 = .ok (.i2l, 1) := by decide +kernel
theorem dX9_boxes_12 : decode cX9_boxes 12 = .ok (.lconst 1, 1) := by decide +kernel
theorem dX9_boxes_13 : decode cX9_boxes 13 = .ok (.ldc2_w 241, 3) := by decide +kernel
theorem dX9_boxes_16 : decode cX9_boxes 16 = .ok (.invokestatic 57, 3) := by decide +kernel
theorem dX9_boxes_19 : decode cX9_boxes 19 = .ok (.ifCond .eq 31, 3) := by decide +kernel
theorem dX9_boxes_22 : decode cX9_boxes 22 = .ok (.iload 6, 2) := by decide +kernel
theorem dX9_boxes_24 : decode cX9_boxes 24 = .ok (.i2l, 1) := by decide +kernel
theorem dX9_boxes_25 : decode cX9_boxes 25 = .ok (.lconst 0, 1) := by decide +kernel
theorem dX9_boxes_26 : decode cX9_boxes 26 = .ok (.ldc2_w 64, 3) := by decide +kernel
theorem dX9_boxes_29 : decode cX9_boxes 29 = .ok (.invokestatic 57, 3) := by decide +kernel
theorem dX9_boxes_32 : decode cX9_boxes 32 = .ok (.ifCond .eq 18, 3) := by decide +kernel
theorem dX9_boxes_35 : decode cX9_boxes 35 = .ok (.aload_n 0, 1) := by decide +kernel
theorem dX9_boxes_36 : decode cX9_boxes 36 = .ok (.iload_n 1, 1) := by decide +kernel
theorem dX9_boxes_37 : decode cX9_boxes 37 = .ok (.iload_n 2, 1) := by decide +kernel
theorem dX9_boxes_38 : decode cX9_boxes 38 = .ok (.iload_n 3, 1) := by decide +kernel
theorem dX9_boxes_39 : decode cX9_boxes 39 = .ok (.iload 4, 2) := by decide +kernel
theorem dX9_boxes_41 : decode cX9_boxes 41 = .ok (.iload 5, 2) := by decide +kernel
theorem dX9_boxes_43 : decode cX9_boxes 43 = .ok (.invokevirtual 243, 3) := by decide +kernel
theorem dX9_boxes_46 : decode cX9_boxes 46 = .ok (.iconst (-1), 1) := by decide +kernel
theorem dX9_boxes_47 : decode cX9_boxes 47 = .ok (.if_icmp .ne 6, 3) := by decide +kernel
theorem dX9_boxes_50 : decode cX9_boxes 50 = .ok (.bipush (-100), 2) := by decide +kernel
theorem dX9_boxes_52 : decode cX9_boxes 52 = .ok (.ireturn, 1) := by decide +kernel
theorem dX9_boxes_53 : decode cX9_boxes 53 = .ok (.iload 6, 2) := by decide +kernel
theorem dX9_boxes_55 : decode cX9_boxes 55 = .ok (.ifCond .ne 10, 3) := by decide +kernel
theorem dX9_boxes_58 : decode cX9_boxes 58 = .ok (.aload_n 0, 1) := by decide +kernel
theorem dX9_boxes_59 : decode cX9_boxes 59 = .ok (.getfield 231, 3) := by decide +kernel
theorem dX9_boxes_62 : decode cX9_boxes 62 = .ok (.goto 46, 3) := by decide +kernel
theorem dX9_boxes_65 : decode cX9_boxes 65 = .ok (.iload 6, 2) := by decide +kernel
theorem dX9_boxes_67 : decode cX9_boxes 67 = .ok (.iconst 1, 1) := by decide +kernel
theorem dX9_boxes_68 : decode cX9_boxes 68 = .ok (.if_icmp .ne 10, 3) := by decide +kernel
theorem dX9_boxes_71 : decode cX9_boxes 71 = .ok (.aload_n 0, 1) := by decide +kernel
theorem dX9_boxes_72 : decode cX9_boxes 72 = .ok (.getfield 222, 3) := by decide +kernel
theorem dX9_boxes_75 : decode cX9_boxes 75 = .ok (.goto 33, 3) := by decide +kernel
theorem dX9_boxes_78 : decode cX9_boxes 78 = .ok (.iload 6, 2) := by decide +kernel
theorem dX9_boxes_80 : decode cX9_boxes 80 = .ok (.iconst 2, 1) := by decide +kernel
theorem dX9_boxes_81 : decode cX9_boxes 81 = .ok (.if_icmp .ne 10, 3) := by decide +kernel
theorem dX9_boxes_84 : decode cX9_boxes 84 = .ok (.aload_n 0, 1) := by decide +kernel
theorem dX9_boxes_85 : decode cX9_boxes 85 = .ok (.getfield 225, 3) := by decide +kernel
theorem dX9_boxes_88 : decode cX9_boxes 88 = .ok (.goto 20, 3) := by decide +kernel
theorem dX9_boxes_91 : decode cX9_boxes 91 = .ok (.iload 6, 2) := by decide +kernel
theorem dX9_boxes_93 : decode cX9_boxes 93 = .ok (.iconst 3, 1) := by decide +kernel
theorem dX9_boxes_94 : decode cX9_boxes 94 = .ok (.if_icmp .ne 10, 3) := by decide +kernel
theorem dX9_boxes_97 : decode cX9_boxes 97 = .ok (.aload_n 0, 1) := by decide +kernel
theorem dX9_boxes_98 : decode cX9_boxes 98 = .ok (.getfield 228, 3) := by decide +kernel
theorem dX9_boxes_101 : decode cX9_boxes 101 = .ok (.goto 7, 3) := by decide +kernel
theorem dX9_boxes_104 : decode cX9_boxes 104 = .ok (.aload_n 0, 1) := by decide +kernel
theorem dX9_boxes_105 : decode cX9_boxes 105 = .ok (.getfield 234, 3) := by decide +kernel
theorem dX9_boxes_108 : decode cX9_boxes 108 = .ok (.ireturn, 1) := by decide +kernel
set_option maxHeartbeats 4000000 in
theorem st_X9_boxes_0 {X : sj_X} {g : sj_G} {s0 : sj_Mem} {N : Nat} {q : Int × sj_VV} :
    ∀ (a0 : Nat) (x1 : Int) (x2 : Int) (x3 : Int) (x4 : Int) (x5 : Int) (x6 : Int) (V : sj_VV), OK9 g a0 → g_X9_boxes N a0 x1 x2 x3 x4 x5 x6 V = some q → sj_T X m_X9_boxes s0 (some (sj_i q.1), (g, q.2)) 0 [some (sj_r (some a0)), some (sj_i x1), some (sj_i x2), some (sj_i x3), some (sj_i x4), some (sj_i x5), some (sj_i x6)] [] (g, V) := by
  intro a0 x1 x2 x3 x4 x5 x6 V ha0 h
  unfold g_X9_boxes at h
  refine r_iload_n (pc := 0) dX9_boxes_0 rfl rfl ?_
  refine r_iload_n (pc := 1) dX9_boxes_1 rfl rfl ?_
  refine r_iload_n (pc := 2) dX9_boxes_2 rfl rfl ?_
  refine r_callSs (pc := 3) (fun v => some (sj_i v)) (As := [sj_i x1, sj_i x2, sj_i x3]) (rest := []) h dX9_boxes_3 mw_X9_197 kw_1284 (fun _ _ hc => cg_X9_isCircle  hc) rfl ⟨(Nat.le_of_ble_eq_true rfl), (Nat.le_of_ble_eq_true rfl)⟩ (Nat.le_of_ble_eq_true rfl) rfl (fun v2 V1 h => ?_)
  refine r_if_eq (pc := 6) (tgt := 50) h dX9_boxes_6 (by decide) (fun h => ?_) (fun h => ?_)
  · refine r_bipush (pc := 50) dX9_boxes_50 ⟨by decide, by decide⟩ ?_
    exact r_irets (pc := 52) h rfl dX9_boxes_52
  · refine r_iload (pc := 9) dX9_boxes_9 rfl ?_
    refine r_i2l (pc := 11) h dX9_boxes_11 (fun v3 h => ?_)
    refine r_lconst1 (pc := 12) dX9_boxes_12 ?_
    refine r_ldc2 (n := 64) (pc := 13) dX9_boxes_13 kc_X9_241 ?_
    refine r_callSs (pc := 16) (fun v => some (sj_i v)) (As := [sj_j v3, sj_j 1, sj_j 64]) (rest := []) h dX9_boxes_16 mw_X9_57 kw_1225 (fun _ _ hc => cg_X9_isIn  hc) rfl ⟨(Nat.le_of_ble_eq_true rfl), (Nat.le_of_ble_eq_true rfl)⟩ (Nat.le_of_ble_eq_true rfl) rfl (fun v5 V4 h => ?_)
    refine r_if_eq (pc := 19) (tgt := 50) h dX9_boxes_19 (by decide) (fun h => ?_) (fun h => ?_)
    · refine r_bipush (pc := 50) dX9_boxes_50 ⟨by decide, by decide⟩ ?_
      exact r_irets (pc := 52) h rfl dX9_boxes_52
    · refine r_iload (pc := 22) dX9_boxes_22 rfl ?_
      refine r_i2l (pc := 24) h dX9_boxes_24 (fun v6 h => ?_)
      refine r_lconst0 (pc := 25) dX9_boxes_25 ?_
      refine r_ldc2 (n := 4) (pc := 26) dX9_boxes_26 kc_X9_64 ?_
      refine r_callSs (pc := 29) (fun v => some (sj_i v)) (As := [sj_j v6, sj_j 0, sj_j 4]) (rest := []) h dX9_boxes_29 mw_X9_57 kw_1225 (fun _ _ hc => cg_X9_isIn  hc) rfl ⟨(Nat.le_of_ble_eq_true rfl), (Nat.le_of_ble_eq_true rfl)⟩ (Nat.le_of_ble_eq_true rfl) rfl (fun v8 V7 h => ?_)
      refine r_if_eq (pc := 32) (tgt := 50) h dX9_boxes_32 (by decide) (fun h => ?_) (fun h => ?_)
      · refine r_bipush (pc := 50) dX9_boxes_50 ⟨by decide, by decide⟩ ?_
        exact r_irets (pc := 52) h rfl dX9_boxes_52
      · refine r_aload_n (pc := 35) dX9_boxes_35 rfl rfl ?_
        refine r_iload_n (pc := 36) dX9_boxes_36 rfl rfl ?_
        refine r_iload_n (pc := 37) dX9_boxes_37 rfl rfl ?_
        refine r_iload_n (pc := 38) dX9_boxes_38 rfl rfl ?_
        refine r_iload (pc := 39) dX9_boxes_39 rfl ?_
        refine r_iload (pc := 41) dX9_boxes_41 rfl ?_
        refine r_callVs (pc := 43) (fun v => some (sj_i v)) (As := [sj_i x1, sj_i x2, sj_i x3, sj_i x4, sj_i x5]) (rest := []) (b := a0) (ok9 ha0) h dX9_boxes_43 mw_X9_243 vw_X9_searches (fun _ _ hc => cg_X9_searches ha0 hc) rfl ⟨(Nat.le_of_ble_eq_true rfl), (Nat.le_of_ble_eq_true rfl)⟩ (Nat.le_of_ble_eq_true rfl) rfl (fun v10 V9 h => ?_)
        refine r_iconst (pc := 46) dX9_boxes_46 ?_
        refine r_icmp_ne (pc := 47) (tgt := 53) h dX9_boxes_47 (by decide) (fun h => ?_) (fun h => ?_)
        · refine r_bipush (pc := 50) dX9_boxes_50 ⟨by decide, by decide⟩ ?_
          exact r_irets (pc := 52) h rfl dX9_boxes_52
        · refine r_iload (pc := 53) dX9_boxes_53 rfl ?_
          refine r_if_ne (pc := 55) (tgt := 65) h dX9_boxes_55 (by decide) (fun h => ?_) (fun h => ?_)
          · refine r_aload_n (pc := 58) dX9_boxes_58 rfl rfl ?_
            refine r_gIs (pc := 59) dX9_boxes_59 fw_X9_231 rfl (ok9 ha0) ?_
            refine r_goto (pc := 62) (tgt := 108) dX9_boxes_62 (by decide) ?_
            exact r_irets (pc := 108) h rfl dX9_boxes_108
          · refine r_iload (pc := 65) dX9_boxes_65 rfl ?_
            refine r_iconst (pc := 67) dX9_boxes_67 ?_
            refine r_icmp_ne (pc := 68) (tgt := 78) h dX9_boxes_68 (by decide) (fun h => ?_) (fun h => ?_)
            · refine r_aload_n (pc := 71) dX9_boxes_71 rfl rfl ?_
              refine r_gIs (pc := 72) dX9_boxes_72 fw_X9_222 rfl (ok9 ha0) ?_
              refine r_goto (pc := 75) (tgt := 108) dX9_boxes_75 (by decide) ?_
              exact r_irets (pc := 108) h rfl dX9_boxes_108
            · refine r_iload (pc := 78) dX9_boxes_78 rfl ?_
              refine r_iconst (pc := 80) dX9_boxes_80 ?_
              refine r_icmp_ne (pc := 81) (tgt := 91) h dX9_boxes_81 (by decide) (fun h => ?_) (fun h => ?_)
              · refine r_aload_n (pc := 84) dX9_boxes_84 rfl rfl ?_
                refine r_gIs (pc := 85) dX9_boxes_85 fw_X9_225 rfl (ok9 ha0) ?_
                refine r_goto (pc := 88) (tgt := 108) dX9_boxes_88 (by decide) ?_
                exact r_irets (pc := 108) h rfl dX9_boxes_108
              · refine r_iload (pc := 91) dX9_boxes_91 rfl ?_
                refine r_iconst (pc := 93) dX9_boxes_93 ?_
                refine r_icmp_ne (pc := 94) (tgt := 104) h dX9_boxes_94 (by decide) (fun h => ?_) (fun h => ?_)
                · refine r_aload_n (pc := 97) dX9_boxes_97 rfl rfl ?_
                  refine r_gIs (pc := 98) dX9_boxes_98 fw_X9_228 rfl (ok9 ha0) ?_
                  refine r_goto (pc := 101) (tgt := 108) dX9_boxes_101 (by decide) ?_
                  exact r_irets (pc := 108) h rfl dX9_boxes_108
                · refine r_aload_n (pc := 104) dX9_boxes_104 rfl rfl ?_
                  refine r_gIs (pc := 105) dX9_boxes_105 fw_X9_234 rfl (ok9 ha0) ?_
                  exact r_irets (pc := 108) h rfl dX9_boxes_108
set_option maxHeartbeats 4000000 in
theorem cg_X9_boxes {X : sj_X} {g : sj_G} {N : Nat} {a0 : Nat} {x1 : Int} {x2 : Int} {x3 : Int} {x4 : Int} {x5 : Int} {x6 : Int} {V : sj_VV} {q : Int × sj_VV} (ha0 : OK9 g a0) (h : g_X9_boxes N a0 x1 x2 x3 x4 x5 x6 V = some q) : sj_C X m_X9_boxes [sj_r (some a0), sj_i x1, sj_i x2, sj_i x3, sj_i x4, sj_i x5, sj_i x6] (g, V) (some (sj_i q.1), (g, q.2)) :=
  sj_C_of (by decide +kernel) (Nat.le_of_ble_eq_true rfl) (lo := [some (sj_r (some a0)), some (sj_i x1), some (sj_i x2), some (sj_i x3), some (sj_i x4), some (sj_i x5), some (sj_i x6)]) rfl (sj_weak (l2 := [some (sj_r (some a0)), some (sj_i x1), some (sj_i x2), some (sj_i x3), some (sj_i x4), some (sj_i x5), some (sj_i x6)]) (⟨rfl, ⟨rfl, ⟨rfl, ⟨rfl, ⟨rfl, ⟨rfl, ⟨rfl, trivial⟩⟩⟩⟩⟩⟩⟩) (st_X9_boxes_0 a0 x1 x2 x3 x4 x5 x6 V ha0 h))
set_option maxHeartbeats 4000000 in
theorem c_X9_boxes {X : sj_X} {N : Nat} {a0 : Nat} {x1 : Int} {x2 : Int} {x3 : Int} {x4 : Int} {x5 : Int} {x6 : Int} {s : sj_Mem} {q : Int × sj_Mem} (h : f_X9_boxes N a0 x1 x2 x3 x4 x5 x6 s = some q) : sj_C X m_X9_boxes [sj_r (some a0), sj_i x1, sj_i x2, sj_i x3, sj_i x4, sj_i x5, sj_i x6] s (some (sj_i q.1), q.2) := by
  obtain ⟨g, V⟩ := s
  unfold f_X9_boxes at h
  obtain ⟨ho, h1⟩ := e_ok_some h
  obtain ⟨q2, h2, rfl⟩ := sj_map_some h1
  exact cg_X9_boxes ho h2
theorem dX9_tried_0 : decode cX9_tried 0 = .ok (.aload_n 0, 1) := by decide +kernel
theorem dX9_tried_1 : decode cX9_tried 1 = .ok (.iload_n 1, 1) := by decide +kernel
theorem dX9_tried_2 : decode cX9_tried 2 = .ok (.iload_n 2, 1) := by decide +kernel
theorem dX9_tried_3 : decode cX9_tried 3 = .ok (.iload_n 3, 1) := by decide +kernel
theorem dX9_tried_4 : decode cX9_tried 4 = .ok (.iload 4, 2) := by decide +kernel
theorem dX9_tried_6 : decode cX9_tried 6 = .ok (.invokevirtual 212, 3) := by decide +kernel
theorem dX9_tried_9 : decode cX9_tried 9 = .ok (.ireturn, 1) := by decide +kernel
set_option maxHeartbeats 4000000 in
theorem st_X9_tried_0 {X : sj_X} {g : sj_G} {s0 : sj_Mem} {N : Nat} {q : Int × sj_VV} :
    ∀ (a0 : Nat) (x1 : Int) (x2 : Int) (x3 : Int) (x4 : Int) (V : sj_VV), OK9 g a0 → g_X9_tried N a0 x1 x2 x3 x4 V = some q → sj_T X m_X9_tried s0 (some (sj_i q.1), (g, q.2)) 0 [some (sj_r (some a0)), some (sj_i x1), some (sj_i x2), some (sj_i x3), some (sj_i x4)] [] (g, V) := by
  intro a0 x1 x2 x3 x4 V ha0 h
  unfold g_X9_tried at h
  refine r_aload_n (pc := 0) dX9_tried_0 rfl rfl ?_
  refine r_iload_n (pc := 1) dX9_tried_1 rfl rfl ?_
  refine r_iload_n (pc := 2) dX9_tried_2 rfl rfl ?_
  refine r_iload_n (pc := 3) dX9_tried_3 rfl rfl ?_
  refine r_iload (pc := 4) dX9_tried_4 rfl ?_
  refine r_callVs (pc := 6) (fun v => some (sj_i v)) (As := [sj_i x1, sj_i x2, sj_i x3, sj_i x4]) (rest := []) (b := a0) (ok9 ha0) h dX9_tried_6 mw_X9_212 vw_X9_factorBy (fun _ _ hc => cg_X9_factorBy ha0 hc) rfl ⟨(Nat.le_of_ble_eq_true rfl), (Nat.le_of_ble_eq_true rfl)⟩ (Nat.le_of_ble_eq_true rfl) rfl (fun v2 V1 h => ?_)
  exact r_irets (pc := 9) h rfl dX9_tried_9
set_option maxHeartbeats 4000000 in
theorem cg_X9_tried {X : sj_X} {g : sj_G} {N : Nat} {a0 : Nat} {x1 : Int} {x2 : Int} {x3 : Int} {x4 : Int} {V : sj_VV} {q : Int × sj_VV} (ha0 : OK9 g a0) (h : g_X9_tried N a0 x1 x2 x3 x4 V = some q) : sj_C X m_X9_tried [sj_r (some a0), sj_i x1, sj_i x2, sj_i x3, sj_i x4] (g, V) (some (sj_i q.1), (g, q.2)) :=
  sj_C_of (by decide +kernel) (Nat.le_of_ble_eq_true rfl) (lo := [some (sj_r (some a0)), some (sj_i x1), some (sj_i x2), some (sj_i x3), some (sj_i x4)]) rfl (sj_weak (l2 := [some (sj_r (some a0)), some (sj_i x1), some (sj_i x2), some (sj_i x3), some (sj_i x4)]) (⟨rfl, ⟨rfl, ⟨rfl, ⟨rfl, ⟨rfl, trivial⟩⟩⟩⟩⟩) (st_X9_tried_0 a0 x1 x2 x3 x4 V ha0 h))
set_option maxHeartbeats 4000000 in
theorem c_X9_tried {X : sj_X} {N : Nat} {a0 : Nat} {x1 : Int} {x2 : Int} {x3 : Int} {x4 : Int} {s : sj_Mem} {q : Int × sj_Mem} (h : f_X9_tried N a0 x1 x2 x3 x4 s = some q) : sj_C X m_X9_tried [sj_r (some a0), sj_i x1, sj_i x2, sj_i x3, sj_i x4] s (some (sj_i q.1), q.2) := by
  obtain ⟨g, V⟩ := s
  unfold f_X9_tried at h
  obtain ⟨ho, h1⟩ := e_ok_some h
  obtain ⟨q2, h2, rfl⟩ := sj_map_some h1
  exact cg_X9_tried ho h2
theorem dX9_pull_0 : decode cX9_pull 0 = .ok (.iload_n 1, 1) := by decide +kernel
theorem dX9_pull_1 : decode cX9_pull 1 = .ok (.invokestatic 287, 3) := by decide +kernel
theorem dX9_pull_4 : decode cX9_pull 4 = .ok (.ifCond .eq 33, 3) := by decide +kernel
theorem dX9_pull_7 : decode cX9_pull 7 = .ok (.aload_n 0, 1) := by decide +kernel
theorem dX9_pull_8 : decode cX9_pull 8 = .ok (.invokevirtual 277, 3) := by decide +kernel
theorem dX9_pull_11 : decode cX9_pull 11 = .ok (.ifCond .eq 26, 3) := by decide +kernel
theorem dX9_pull_14 : decode cX9_pull 14 = .ok (.aload_n 0, 1) := by decide +kernel
theorem dX9_pull_15 : decode cX9_pull 15 = .ok (.iload_n 1, 1) := by decide +kernel
theorem dX9_pull_16 : decode cX9_pull 16 = .ok (.ldc2_w 138, 3) := by decide +kernel
theorem dX9_pull_19 : decode cX9_pull 19 = .ok (.aload_n 0, 1) := by decide +kernel
theorem dX9_pull_20 : decode cX9_pull 20 = .ok (.getfield 9, 3) := by decide +kernel
theorem dX9_pull_23 : decode cX9_pull 23 = .ok (.iconst 1, 1) := by decide +kernel
theorem dX9_pull_24 : decode cX9_pull 24 = .ok (.iaload, 1) := by decide +kernel
theorem dX9_pull_25 : decode cX9_pull 25 = .ok (.i2l, 1) := by decide +kernel
theorem dX9_pull_26 : decode cX9_pull 26 = .ok (.lmul, 1) := by decide +kernel
theorem dX9_pull_27 : decode cX9_pull 27 = .ok (.ldc2_w 285, 3) := by decide +kernel
theorem dX9_pull_30 : decode cX9_pull 30 = .ok (.lmul, 1) := by decide +kernel
theorem dX9_pull_31 : decode cX9_pull 31 = .ok (.invokevirtual 179, 3) := by decide +kernel
theorem dX9_pull_34 : decode cX9_pull 34 = .ok (.ifCond .ne 5, 3) := by decide +kernel
theorem dX9_pull_37 : decode cX9_pull 37 = .ok (.iconst (-1), 1) := by decide +kernel
theorem dX9_pull_38 : decode cX9_pull 38 = .ok (.ireturn, 1) := by decide +kernel
theorem dX9_pull_39 : decode cX9_pull 39 = .ok (.iconst (-1), 1) := by decide +kernel
theorem dX9_pull_40 : decode cX9_pull 40 = .ok (.istore_n 2, 1) := by decide +kernel
theorem dX9_pull_41 : decode cX9_pull 41 = .ok (.sipush 20000, 3) := by decide +kernel
theorem dX9_pull_44 : decode cX9_pull 44 = .ok (.istore_n 3, 1) := by decide +kernel
theorem dX9_pull_45 : decode cX9_pull 45 = .ok (.iload_n 3, 1) := by decide +kernel
theorem dX9_pull_46 : decode cX9_pull 46 = .ok (.iload_n 2, 1) := by decide +kernel
theorem dX9_pull_47 : decode cX9_pull 47 = .ok (.isub, 1) := by decide +kernel
theorem dX9_pull_48 : decode cX9_pull 48 = .ok (.iconst 1, 1) := by decide +kernel
theorem dX9_pull_49 : decode cX9_pull 49 = .ok (.if_icmp .le 45, 3) := by decide +kernel
theorem dX9_pull_52 : decode cX9_pull 52 = .ok (.iload_n 2, 1) := by decide +kernel
theorem dX9_pull_53 : decode cX9_pull 53 = .ok (.iload_n 3, 1) := by decide +kernel
theorem dX9_pull_54 : decode cX9_pull 54 = .ok (.iadd, 1) := by decide +kernel
theorem dX9_pull_55 : decode cX9_pull 55 = .ok (.iconst 2, 1) := by decide +kernel
theorem dX9_pull_56 : decode cX9_pull 56 = .ok (.idiv, 1) := by decide +kernel
theorem dX9_pull_57 : decode cX9_pull 57 = .ok (.istore 4, 2) := by decide +kernel
theorem dX9_pull_59 : decode cX9_pull 59 = .ok (.aload_n 0, 1) := by decide +kernel
theorem dX9_pull_60 : decode cX9_pull 60 = .ok (.iload_n 1, 1) := by decide +kernel
theorem dX9_pull_61 : decode cX9_pull 61 = .ok (.ldc2_w 138, 3) := by decide +kernel
theorem dX9_pull_64 : decode cX9_pull 64 = .ok (.aload_n 0, 1) := by decide +kernel
theorem dX9_pull_65 : decode cX9_pull 65 = .ok (.getfield 9, 3) := by decide +kernel
theorem dX9_pull_68 : decode cX9_pull 68 = .ok (.iconst 1, 1) := by decide +kernel
theorem dX9_pull_69 : decode cX9_pull 69 = .ok (.iaload, 1) := by decide +kernel
theorem dX9_pull_70 : decode cX9_pull 70 = .ok (.i2l, 1) := by decide +kernel
theorem dX9_pull_71 : decode cX9_pull 71 = .ok (.lmul, 1) := by decide +kernel
theorem dX9_pull_72 : decode cX9_pull 72 = .ok (.iload 4, 2) := by decide +kernel
theorem dX9_pull_74 : decode cX9_pull 74 = .ok (.i2l, 1) := by decide +kernel
theorem dX9_pull_75 : decode cX9_pull 75 = .ok (.lmul, 1) := by decide +kernel
theorem dX9_pull_76 : decode cX9_pull 76 = .ok (.invokevirtual 179, 3) := by decide +kernel
theorem dX9_pull_79 : decode cX9_pull 79 = .ok (.ifCond .eq 9, 3) := by decide +kernel
theorem dX9_pull_82 : decode cX9_pull 82 = .ok (.iload 4, 2) := by decide +kernel
theorem dX9_pull_84 : decode cX9_pull 84 = .ok (.istore_n 3, 1) := by decide +kernel
theorem dX9_pull_85 : decode cX9_pull 85 = .ok (.goto 6, 3) := by decide +kernel
theorem dX9_pull_88 : decode cX9_pull 88 = .ok (.iload 4, 2) := by decide +kernel
theorem dX9_pull_90 : decode cX9_pull 90 = .ok (.istore_n 2, 1) := by decide +kernel
theorem dX9_pull_91 : decode cX9_pull 91 = .ok (.goto (-46), 3) := by decide +kernel
theorem dX9_pull_94 : decode cX9_pull 94 = .ok (.iload_n 3, 1) := by decide +kernel
theorem dX9_pull_95 : decode cX9_pull 95 = .ok (.ireturn, 1) := by decide +kernel
set_option maxHeartbeats 4000000 in
theorem st_X9_pull_91 {X : sj_X} {g : sj_G} {s0 : sj_Mem} {N : Nat} {q : Int × sj_VV} {k45 : Nat → Int → Int → Int → sj_VV → Option (Int × sj_VV)} (hk45 : ∀ (a0 : Nat) (x1 : Int) (x2 : Int) (x3 : Int) (V : sj_VV), OK9 g a0 → k45 a0 x1 x2 x3 V = some q → sj_T X m_X9_pull s0 (some (sj_i q.1), (g, q.2)) 45 [some (sj_r (some a0)), some (sj_i x1), some (sj_i x2), some (sj_i x3), none] [] (g, V)) :
    ∀ (a0 : Nat) (x1 : Int) (x2 : Int) (x3 : Int) (V : sj_VV), OK9 g a0 → g_X9_pull_91 N k45 a0 x1 x2 x3 V = some q → sj_T X m_X9_pull s0 (some (sj_i q.1), (g, q.2)) 91 [some (sj_r (some a0)), some (sj_i x1), some (sj_i x2), some (sj_i x3), none] [] (g, V) := by
  intro a0 x1 x2 x3 V ha0 h
  unfold g_X9_pull_91 at h
  refine r_goto (pc := 91) (tgt := 45) dX9_pull_91 (by decide) ?_
  exact sj_weak (l2 := [some (sj_r (some a0)), some (sj_i x1), some (sj_i x2), some (sj_i x3), none]) (⟨rfl, ⟨rfl, ⟨rfl, ⟨rfl, trivial⟩⟩⟩⟩) (hk45 a0 x1 x2 x3 V ha0 h)
set_option maxHeartbeats 4000000 in
theorem st_X9_pull_45_b {X : sj_X} {g : sj_G} {s0 : sj_Mem} {N : Nat} {q : Int × sj_VV} {k45 : Nat → Int → Int → Int → sj_VV → Option (Int × sj_VV)} (hk45 : ∀ (a0 : Nat) (x1 : Int) (x2 : Int) (x3 : Int) (V : sj_VV), OK9 g a0 → k45 a0 x1 x2 x3 V = some q → sj_T X m_X9_pull s0 (some (sj_i q.1), (g, q.2)) 45 [some (sj_r (some a0)), some (sj_i x1), some (sj_i x2), some (sj_i x3), none] [] (g, V)) :
    ∀ (a0 : Nat) (x1 : Int) (x2 : Int) (x3 : Int) (V : sj_VV), OK9 g a0 → g_X9_pull_45_b N k45 a0 x1 x2 x3 V = some q → sj_T X m_X9_pull s0 (some (sj_i q.1), (g, q.2)) 45 [some (sj_r (some a0)), some (sj_i x1), some (sj_i x2), some (sj_i x3), none] [] (g, V) := by
  intro a0 x1 x2 x3 V ha0 h
  unfold g_X9_pull_45_b at h
  refine r_iload_n (pc := 45) dX9_pull_45 rfl rfl ?_
  refine r_iload_n (pc := 46) dX9_pull_46 rfl rfl ?_
  refine r_isub (pc := 47) dX9_pull_47 ?_
  refine r_iconst (pc := 48) dX9_pull_48 ?_
  refine r_icmp_le (pc := 49) (tgt := 94) h dX9_pull_49 (by decide) (fun h => ?_) (fun h => ?_)
  · refine r_iload_n (pc := 94) dX9_pull_94 rfl rfl ?_
    exact r_irets (pc := 95) h rfl dX9_pull_95
  · refine r_iload_n (pc := 52) dX9_pull_52 rfl rfl ?_
    refine r_iload_n (pc := 53) dX9_pull_53 rfl rfl ?_
    refine r_iadd (pc := 54) dX9_pull_54 ?_
    refine r_iconst (pc := 55) dX9_pull_55 ?_
    refine r_idiv (pc := 56) h dX9_pull_56 (fun v1 h => ?_)
    refine r_istore (ln := [some (sj_r (some a0)), some (sj_i x1), some (sj_i x2), some (sj_i x3), some (sj_i v1)]) (pc := 57) dX9_pull_57 (Nat.le_of_ble_eq_true rfl) rfl ?_
    refine r_aload_n (pc := 59) dX9_pull_59 rfl rfl ?_
    refine r_iload_n (pc := 60) dX9_pull_60 rfl rfl ?_
    refine r_ldc2 (n := 2000) (pc := 61) dX9_pull_61 kc_X9_138 ?_
    refine r_aload_n (pc := 64) dX9_pull_64 rfl rfl ?_
    refine r_gRs (b := a0 + 1) (pc := 65) dX9_pull_65 fw_X9_9 rfl (ok9 ha0) (ok9_0 ha0).1 ?_
    refine r_iconst (pc := 68) dX9_pull_68 ?_
    refine r_ialoads (pc := 69) h dX9_pull_69 (ok9_0 ha0).2 (fun h => ?_)
    refine r_i2l (pc := 70) h dX9_pull_70 (fun v2 h => ?_)
    refine r_lmul (pc := 71) dX9_pull_71 ?_
    refine r_iload (pc := 72) dX9_pull_72 rfl ?_
    refine r_i2l (pc := 74) h dX9_pull_74 (fun v3 h => ?_)
    refine r_lmul (pc := 75) dX9_pull_75 ?_
    refine r_callVs (pc := 76) (fun v => some (sj_i v)) (As := [sj_i x1, sj_j ((2000 * v2) * v3)]) (rest := []) (b := a0) (ok9 ha0) h dX9_pull_76 mw_X9_179 vw_X9_standsWith (fun _ _ hc => cg_X9_standsWith ha0 hc) rfl ⟨(Nat.le_of_ble_eq_true rfl), (Nat.le_of_ble_eq_true rfl)⟩ (Nat.le_of_ble_eq_true rfl) rfl (fun v5 V4 h => ?_)
    refine r_if_eq (pc := 79) (tgt := 88) h dX9_pull_79 (by decide) (fun h => ?_) (fun h => ?_)
    · refine r_iload (pc := 88) dX9_pull_88 rfl ?_
      refine r_istore_n (ln := [some (sj_r (some a0)), some (sj_i x1), some (sj_i v1), some (sj_i x3), some (sj_i v1)]) (pc := 90) dX9_pull_90 rfl (Nat.le_of_ble_eq_true rfl) rfl ?_
      exact sj_weak (l2 := [some (sj_r (some a0)), some (sj_i x1), some (sj_i v1), some (sj_i x3), none]) (⟨rfl, ⟨rfl, ⟨rfl, ⟨rfl, trivial⟩⟩⟩⟩) (st_X9_pull_91 hk45 a0 x1 v1 x3 V4 ha0 h)
    · refine r_iload (pc := 82) dX9_pull_82 rfl ?_
      refine r_istore_n (ln := [some (sj_r (some a0)), some (sj_i x1), some (sj_i x2), some (sj_i v1), some (sj_i v1)]) (pc := 84) dX9_pull_84 rfl (Nat.le_of_ble_eq_true rfl) rfl ?_
      refine r_goto (pc := 85) (tgt := 91) dX9_pull_85 (by decide) ?_
      exact sj_weak (l2 := [some (sj_r (some a0)), some (sj_i x1), some (sj_i x2), some (sj_i v1), none]) (⟨rfl, ⟨rfl, ⟨rfl, ⟨rfl, trivial⟩⟩⟩⟩) (st_X9_pull_91 hk45 a0 x1 x2 v1 V4 ha0 h)
set_option maxHeartbeats 4000000 in
theorem st_X9_pull_45 {X : sj_X} {g : sj_G} {s0 : sj_Mem} {N : Nat} {q : Int × sj_VV} :
    ∀ (n : Nat) (a0 : Nat) (x1 : Int) (x2 : Int) (x3 : Int) (V : sj_VV), OK9 g a0 → g_X9_pull_45 N n a0 x1 x2 x3 V = some q → sj_T X m_X9_pull s0 (some (sj_i q.1), (g, q.2)) 45 [some (sj_r (some a0)), some (sj_i x1), some (sj_i x2), some (sj_i x3), none] [] (g, V) := by
  intro n
  induction n with
  | zero => intro a0 x1 x2 x3 V ha0 h; exact nomatch h
  | succ n ih => intro a0 x1 x2 x3 V ha0 h; exact st_X9_pull_45_b (N := N) ih a0 x1 x2 x3 V ha0 h
set_option maxHeartbeats 4000000 in
theorem st_X9_pull_0 {X : sj_X} {g : sj_G} {s0 : sj_Mem} {N : Nat} {q : Int × sj_VV} :
    ∀ (a0 : Nat) (x1 : Int) (V : sj_VV), OK9 g a0 → g_X9_pull N a0 x1 V = some q → sj_T X m_X9_pull s0 (some (sj_i q.1), (g, q.2)) 0 [some (sj_r (some a0)), some (sj_i x1), none, none, none] [] (g, V) := by
  intro a0 x1 V ha0 h
  unfold g_X9_pull at h
  refine r_iload_n (pc := 0) dX9_pull_0 rfl rfl ?_
  refine r_callSs (pc := 1) (fun v => some (sj_i v)) (As := [sj_i x1]) (rest := []) h dX9_pull_1 mw_X9_287 kw_1446 (fun _ _ hc => cg_X9_isK  hc) rfl ⟨(Nat.le_of_ble_eq_true rfl), (Nat.le_of_ble_eq_true rfl)⟩ (Nat.le_of_ble_eq_true rfl) rfl (fun v2 V1 h => ?_)
  refine r_if_eq (pc := 4) (tgt := 37) h dX9_pull_4 (by decide) (fun h => ?_) (fun h => ?_)
  · refine r_iconst (pc := 37) dX9_pull_37 ?_
    exact r_irets (pc := 38) h rfl dX9_pull_38
  · refine r_aload_n (pc := 7) dX9_pull_7 rfl rfl ?_
    refine r_callVs (pc := 8) (fun v => some (sj_i v)) (As := []) (rest := []) (b := a0) (ok9 ha0) h dX9_pull_8 mw_X9_277 vw_X9_takesSlip (fun _ _ hc => cg_X9_takesSlip ha0 hc) rfl ⟨(Nat.le_of_ble_eq_true rfl), (Nat.le_of_ble_eq_true rfl)⟩ (Nat.le_of_ble_eq_true rfl) rfl (fun v4 V3 h => ?_)
    refine r_if_eq (pc := 11) (tgt := 37) h dX9_pull_11 (by decide) (fun h => ?_) (fun h => ?_)
    · refine r_iconst (pc := 37) dX9_pull_37 ?_
      exact r_irets (pc := 38) h rfl dX9_pull_38
    · refine r_aload_n (pc := 14) dX9_pull_14 rfl rfl ?_
      refine r_iload_n (pc := 15) dX9_pull_15 rfl rfl ?_
      refine r_ldc2 (n := 2000) (pc := 16) dX9_pull_16 kc_X9_138 ?_
      refine r_aload_n (pc := 19) dX9_pull_19 rfl rfl ?_
      refine r_gRs (b := a0 + 1) (pc := 20) dX9_pull_20 fw_X9_9 rfl (ok9 ha0) (ok9_0 ha0).1 ?_
      refine r_iconst (pc := 23) dX9_pull_23 ?_
      refine r_ialoads (pc := 24) h dX9_pull_24 (ok9_0 ha0).2 (fun h => ?_)
      refine r_i2l (pc := 25) h dX9_pull_25 (fun v5 h => ?_)
      refine r_lmul (pc := 26) dX9_pull_26 ?_
      refine r_ldc2 (n := 20000) (pc := 27) dX9_pull_27 kc_X9_285 ?_
      refine r_lmul (pc := 30) dX9_pull_30 ?_
      refine r_callVs (pc := 31) (fun v => some (sj_i v)) (As := [sj_i x1, sj_j ((2000 * v5) * 20000)]) (rest := []) (b := a0) (ok9 ha0) h dX9_pull_31 mw_X9_179 vw_X9_standsWith (fun _ _ hc => cg_X9_standsWith ha0 hc) rfl ⟨(Nat.le_of_ble_eq_true rfl), (Nat.le_of_ble_eq_true rfl)⟩ (Nat.le_of_ble_eq_true rfl) rfl (fun v7 V6 h => ?_)
      refine r_if_ne (pc := 34) (tgt := 39) h dX9_pull_34 (by decide) (fun h => ?_) (fun h => ?_)
      · refine r_iconst (pc := 37) dX9_pull_37 ?_
        exact r_irets (pc := 38) h rfl dX9_pull_38
      · refine r_iconst (pc := 39) dX9_pull_39 ?_
        refine r_istore_n (ln := [some (sj_r (some a0)), some (sj_i x1), some (sj_i ((-1))), none, none]) (pc := 40) dX9_pull_40 rfl (Nat.le_of_ble_eq_true rfl) rfl ?_
        refine r_sipush (pc := 41) dX9_pull_41 ⟨by decide, by decide⟩ ?_
        refine r_istore_n (ln := [some (sj_r (some a0)), some (sj_i x1), some (sj_i ((-1))), some (sj_i 20000), none]) (pc := 44) dX9_pull_44 rfl (Nat.le_of_ble_eq_true rfl) rfl ?_
        exact sj_weak (l2 := [some (sj_r (some a0)), some (sj_i x1), some (sj_i ((-1))), some (sj_i 20000), none]) (⟨rfl, ⟨rfl, ⟨rfl, ⟨rfl, trivial⟩⟩⟩⟩) (st_X9_pull_45 N a0 x1 ((-1)) 20000 V6 ha0 h)
set_option maxHeartbeats 4000000 in
theorem cg_X9_pull {X : sj_X} {g : sj_G} {N : Nat} {a0 : Nat} {x1 : Int} {V : sj_VV} {q : Int × sj_VV} (ha0 : OK9 g a0) (h : g_X9_pull N a0 x1 V = some q) : sj_C X m_X9_pull [sj_r (some a0), sj_i x1] (g, V) (some (sj_i q.1), (g, q.2)) :=
  sj_C_of (by decide +kernel) (Nat.le_of_ble_eq_true rfl) (lo := [some (sj_r (some a0)), some (sj_i x1), none, none, none]) rfl (sj_weak (l2 := [some (sj_r (some a0)), some (sj_i x1), none, none, none]) (⟨rfl, ⟨rfl, trivial⟩⟩) (st_X9_pull_0 a0 x1 V ha0 h))
set_option maxHeartbeats 4000000 in
theorem c_X9_pull {X : sj_X} {N : Nat} {a0 : Nat} {x1 : Int} {s : sj_Mem} {q : Int × sj_Mem} (h : f_X9_pull N a0 x1 s = some q) : sj_C X m_X9_pull [sj_r (some a0), sj_i x1] s (some (sj_i q.1), q.2) := by
  obtain ⟨g, V⟩ := s
  unfold f_X9_pull at h
  obtain ⟨ho, h1⟩ := e_ok_some h
  obtain ⟨q2, h2, rfl⟩ := sj_map_some h1
  exact cg_X9_pull ho h2
theorem dX9_needs_0 : decode cX9_needs 0 = .ok (.iload_n 1, 1) := by decide +kernel
theorem dX9_needs_1 : decode cX9_needs 1 = .ok (.invokestatic 287, 3) := by decide +kernel
theorem dX9_needs_4 : decode cX9_needs 4 = .ok (.ifCond .eq 10, 3) := by decide +kernel
theorem dX9_needs_7 : decode cX9_needs 7 = .ok (.aload_n 0, 1) := by decide +kernel
theorem dX9_needs_8 : decode cX9_needs 8 = .ok (.invokevirtual 277, 3) := by decide +kernel
theorem dX9_needs_11 : decode cX9_needs 11 = .ok (.ifCond .ne 5, 3) := by decide +kernel
theorem dX9_needs_14 : decode cX9_needs 14 = .ok (.iconst (-1), 1) := by decide +kernel
theorem dX9_needs_15 : decode cX9_needs 15 = .ok (.ireturn, 1) := by decide +kernel
theorem dX9_needs_16 : decode cX9_needs 16 = .ok (.aload_n 0, 1) := by decide +kernel
theorem dX9_needs_17 : decode cX9_needs 17 = .ok (.invokevirtual 301, 3) := by decide +kernel
theorem dX9_needs_20 : decode cX9_needs 20 = .ok (.iconst 0, 1) := by decide +kernel
theorem dX9_needs_21 : decode cX9_needs 21 = .ok (.istore_n 2, 1) := by decide +kernel
theorem dX9_needs_22 : decode cX9_needs 22 = .ok (.iload_n 2, 1) := by decide +kernel
theorem dX9_needs_23 : decode cX9_needs 23 = .ok (.sipush 500, 3) := by decide +kernel
theorem dX9_needs_26 : decode cX9_needs 26 = .ok (.if_icmp .gt 60, 3) := by decide +kernel
theorem dX9_needs_29 : decode cX9_needs 29 = .ok (.aload_n 0, 1) := by decide +kernel
theorem dX9_needs_30 : decode cX9_needs 30 = .ok (.iload_n 1, 1) := by decide +kernel
theorem dX9_needs_31 : decode cX9_needs 31 = .ok (.invokevirtual 183, 3) := by decide +kernel
theorem dX9_needs_34 : decode cX9_needs 34 = .ok (.ifCond .ne 52, 3) := by decide +kernel
theorem dX9_needs_37 : decode cX9_needs 37 = .ok (.iinc 2 1, 3) := by decide +kernel
theorem dX9_needs_40 : decode cX9_needs 40 = .ok (.iconst 0, 1) := by decide +kernel
theorem dX9_needs_41 : decode cX9_needs 41 = .ok (.istore_n 3, 1) := by decide +kernel
theorem dX9_needs_42 : decode cX9_needs 42 = .ok (.iload_n 3, 1) := by decide +kernel
theorem dX9_needs_43 : decode cX9_needs 43 = .ok (.iconst 4, 1) := by decide +kernel
theorem dX9_needs_44 : decode cX9_needs 44 = .ok (.if_icmp .ge 39, 3) := by decide +kernel
theorem dX9_needs_47 : decode cX9_needs 47 = .ok (.aload_n 0, 1) := by decide +kernel
theorem dX9_needs_48 : decode cX9_needs 48 = .ok (.getfield 9, 3) := by decide +kernel
theorem dX9_needs_51 : decode cX9_needs 51 = .ok (.sipush 290, 3) := by decide +kernel
theorem dX9_needs_54 : decode cX9_needs 54 = .ok (.iconst 3, 1) := by decide +kernel
theorem dX9_needs_55 : decode cX9_needs 55 = .ok (.iload_n 3, 1) := by decide +kernel
theorem dX9_needs_56 : decode cX9_needs 56 = .ok (.imul, 1) := by decide +kernel
theorem dX9_needs_57 : decode cX9_needs 57 = .ok (.iadd, 1) := by decide +kernel
theorem dX9_needs_58 : decode cX9_needs 58 = .ok (.iconst 1, 1) := by decide +kernel
theorem dX9_needs_59 : decode cX9_needs 59 = .ok (.iadd, 1) := by decide +kernel
theorem dX9_needs_60 : decode cX9_needs 60 = .ok (.aload_n 0, 1) := by decide +kernel
theorem dX9_needs_61 : decode cX9_needs 61 = .ok (.getfield 13, 3) := by decide +kernel
theorem dX9_needs_64 : decode cX9_needs 64 = .ok (.sipush 290, 3) := by decide +kernel
theorem dX9_needs_67 : decode cX9_needs 67 = .ok (.iconst 3, 1) := by decide +kernel
theorem dX9_needs_68 : decode cX9_needs 68 = .ok (.iload_n 3, 1) := by decide +kernel
theorem dX9_needs_69 : decode cX9_needs 69 = .ok (.imul, 1) := by decide +kernel
theorem dX9_needs_70 : decode cX9_needs 70 = .ok (.iadd, 1) := by decide +kernel
theorem dX9_needs_71 : decode cX9_needs 71 = .ok (.iconst 1, 1) := by decide +kernel
theorem dX9_needs_72 : decode cX9_needs 72 = .ok (.iadd, 1) := by decide +kernel
theorem dX9_needs_73 : decode cX9_needs 73 = .ok (.iaload, 1) := by decide +kernel
theorem dX9_needs_74 : decode cX9_needs 74 = .ok (.iload_n 2, 1) := by decide +kernel
theorem dX9_needs_75 : decode cX9_needs 75 = .ok (.iadd, 1) := by decide +kernel
theorem dX9_needs_76 : decode cX9_needs 76 = .ok (.iastore, 1) := by decide +kernel
theorem dX9_needs_77 : decode cX9_needs 77 = .ok (.iinc 3 1, 3) := by decide +kernel
theorem dX9_needs_80 : decode cX9_needs 80 = .ok (.goto (-38), 3) := by decide +kernel
theorem dX9_needs_83 : decode cX9_needs 83 = .ok (.goto (-61), 3) := by decide +kernel
theorem dX9_needs_86 : decode cX9_needs 86 = .ok (.aload_n 0, 1) := by decide +kernel
theorem dX9_needs_87 : decode cX9_needs 87 = .ok (.invokevirtual 304, 3) := by decide +kernel
theorem dX9_needs_90 : decode cX9_needs 90 = .ok (.iload_n 2, 1) := by decide +kernel
theorem dX9_needs_91 : decode cX9_needs 91 = .ok (.sipush 500, 3) := by decide +kernel
theorem dX9_needs_94 : decode cX9_needs 94 = .ok (.if_icmp .le 7, 3) := by decide +kernel
theorem dX9_needs_97 : decode cX9_needs 97 = .ok (.iconst (-1), 1) := by decide +kernel
theorem dX9_needs_98 : decode cX9_needs 98 = .ok (.goto 4, 3) := by decide +kernel
theorem dX9_needs_101 : decode cX9_needs 101 = .ok (.iload_n 2, 1) := by decide +kernel
theorem dX9_needs_102 : decode cX9_needs 102 = .ok (.ireturn, 1) := by decide +kernel
set_option maxHeartbeats 4000000 in
theorem st_X9_needs_42_b {X : sj_X} {g : sj_G} {s0 : sj_Mem} {N : Nat} {q : Int × sj_VV} {k22 : Nat → Int → Int → sj_VV → Option (Int × sj_VV)} {k42 : Nat → Int → Int → Int → sj_VV → Option (Int × sj_VV)} (hk22 : ∀ (a0 : Nat) (x1 : Int) (x2 : Int) (V : sj_VV), OK9 g a0 → k22 a0 x1 x2 V = some q → sj_T X m_X9_needs s0 (some (sj_i q.1), (g, q.2)) 22 [some (sj_r (some a0)), some (sj_i x1), some (sj_i x2), none] [] (g, V)) (hk42 : ∀ (a0 : Nat) (x1 : Int) (x2 : Int) (x3 : Int) (V : sj_VV), OK9 g a0 → k42 a0 x1 x2 x3 V = some q → sj_T X m_X9_needs s0 (some (sj_i q.1), (g, q.2)) 42 [some (sj_r (some a0)), some (sj_i x1), some (sj_i x2), some (sj_i x3)] [] (g, V)) :
    ∀ (a0 : Nat) (x1 : Int) (x2 : Int) (x3 : Int) (V : sj_VV), OK9 g a0 → g_X9_needs_42_b N k22 k42 a0 x1 x2 x3 V = some q → sj_T X m_X9_needs s0 (some (sj_i q.1), (g, q.2)) 42 [some (sj_r (some a0)), some (sj_i x1), some (sj_i x2), some (sj_i x3)] [] (g, V) := by
  intro a0 x1 x2 x3 V ha0 h
  unfold g_X9_needs_42_b at h
  refine r_iload_n (pc := 42) dX9_needs_42 rfl rfl ?_
  refine r_iconst (pc := 43) dX9_needs_43 ?_
  refine r_icmp_ge (pc := 44) (tgt := 83) h dX9_needs_44 (by decide) (fun h => ?_) (fun h => ?_)
  · refine r_goto (pc := 83) (tgt := 22) dX9_needs_83 (by decide) ?_
    exact sj_weak (l2 := [some (sj_r (some a0)), some (sj_i x1), some (sj_i x2), none]) (⟨rfl, ⟨rfl, ⟨rfl, trivial⟩⟩⟩) (hk22 a0 x1 x2 V ha0 h)
  · refine r_aload_n (pc := 47) dX9_needs_47 rfl rfl ?_
    refine r_gRs (b := a0 + 1) (pc := 48) dX9_needs_48 fw_X9_9 rfl (ok9 ha0) (ok9_0 ha0).1 ?_
    refine r_sipush (pc := 51) dX9_needs_51 ⟨by decide, by decide⟩ ?_
    refine r_iconst (pc := 54) dX9_needs_54 ?_
    refine r_iload_n (pc := 55) dX9_needs_55 rfl rfl ?_
    refine r_imul (pc := 56) dX9_needs_56 ?_
    refine r_iadd (pc := 57) dX9_needs_57 ?_
    refine r_iconst (pc := 58) dX9_needs_58 ?_
    refine r_iadd (pc := 59) dX9_needs_59 ?_
    refine r_aload_n (pc := 60) dX9_needs_60 rfl rfl ?_
    refine r_gRs (b := a0 + 2) (pc := 61) dX9_needs_61 fw_X9_13 rfl (ok9 ha0) (ok9_1 ha0).1 ?_
    refine r_sipush (pc := 64) dX9_needs_64 ⟨by decide, by decide⟩ ?_
    refine r_iconst (pc := 67) dX9_needs_67 ?_
    refine r_iload_n (pc := 68) dX9_needs_68 rfl rfl ?_
    refine r_imul (pc := 69) dX9_needs_69 ?_
    refine r_iadd (pc := 70) dX9_needs_70 ?_
    refine r_iconst (pc := 71) dX9_needs_71 ?_
    refine r_iadd (pc := 72) dX9_needs_72 ?_
    refine r_ialoads (pc := 73) h dX9_needs_73 (ok9_1 ha0).2 (fun h => ?_)
    refine r_iload_n (pc := 74) dX9_needs_74 rfl rfl ?_
    refine r_iadd (pc := 75) dX9_needs_75 ?_
    refine r_iastores (pc := 76) h dX9_needs_76 (ok9_0 ha0).2 (fun V1 h => ?_)
    refine r_iinc (ln := fun w => [some (sj_r (some a0)), some (sj_i x1), some (sj_i x2), some (sj_i w)]) (pc := 77) h dX9_needs_77 rfl (Nat.le_of_ble_eq_true rfl) (fun _ => rfl) (fun v2 h => ?_)
    refine r_goto (pc := 80) (tgt := 42) dX9_needs_80 (by decide) ?_
    exact sj_weak (l2 := [some (sj_r (some a0)), some (sj_i x1), some (sj_i x2), some (sj_i v2)]) (⟨rfl, ⟨rfl, ⟨rfl, ⟨rfl, trivial⟩⟩⟩⟩) (hk42 a0 x1 x2 v2 V1 ha0 h)
set_option maxHeartbeats 4000000 in
theorem st_X9_needs_42 {X : sj_X} {g : sj_G} {s0 : sj_Mem} {N : Nat} {q : Int × sj_VV} {k22 : Nat → Int → Int → sj_VV → Option (Int × sj_VV)} (hk22 : ∀ (a0 : Nat) (x1 : Int) (x2 : Int) (V : sj_VV), OK9 g a0 → k22 a0 x1 x2 V = some q → sj_T X m_X9_needs s0 (some (sj_i q.1), (g, q.2)) 22 [some (sj_r (some a0)), some (sj_i x1), some (sj_i x2), none] [] (g, V)) :
    ∀ (n : Nat) (a0 : Nat) (x1 : Int) (x2 : Int) (x3 : Int) (V : sj_VV), OK9 g a0 → g_X9_needs_42 N k22 n a0 x1 x2 x3 V = some q → sj_T X m_X9_needs s0 (some (sj_i q.1), (g, q.2)) 42 [some (sj_r (some a0)), some (sj_i x1), some (sj_i x2), some (sj_i x3)] [] (g, V) := by
  intro n
  induction n with
  | zero => intro a0 x1 x2 x3 V ha0 h; exact nomatch h
  | succ n ih => intro a0 x1 x2 x3 V ha0 h; exact st_X9_needs_42_b (N := N) hk22 ih a0 x1 x2 x3 V ha0 h
set_option maxHeartbeats 4000000 in
theorem st_X9_needs_86 {X : sj_X} {g : sj_G} {s0 : sj_Mem} {N : Nat} {q : Int × sj_VV} :
    ∀ (a0 : Nat) (x2 : Int) (V : sj_VV), OK9 g a0 → g_X9_needs_86 N a0 x2 V = some q → sj_T X m_X9_needs s0 (some (sj_i q.1), (g, q.2)) 86 [some (sj_r (some a0)), none, some (sj_i x2), none] [] (g, V) := by
  intro a0 x2 V ha0 h
  unfold g_X9_needs_86 at h
  refine r_aload_n (pc := 86) dX9_needs_86 rfl rfl ?_
  refine r_callVs (pc := 87) (fun _ => none) (As := []) (rest := []) (b := a0) (ok9 ha0) h dX9_needs_87 mw_X9_304 vw_X9_comesBack (fun _ _ hc => cg_X9_comesBack ha0 hc) rfl ⟨(Nat.le_of_ble_eq_true rfl), (Nat.le_of_ble_eq_true rfl)⟩ (Nat.le_of_ble_eq_true rfl) rfl (fun _u V1 h => ?_)
  refine r_iload_n (pc := 90) dX9_needs_90 rfl rfl ?_
  refine r_sipush (pc := 91) dX9_needs_91 ⟨by decide, by decide⟩ ?_
  refine r_icmp_le (pc := 94) (tgt := 101) h dX9_needs_94 (by decide) (fun h => ?_) (fun h => ?_)
  · refine r_iload_n (pc := 101) dX9_needs_101 rfl rfl ?_
    exact r_irets (pc := 102) h rfl dX9_needs_102
  · refine r_iconst (pc := 97) dX9_needs_97 ?_
    refine r_goto (pc := 98) (tgt := 102) dX9_needs_98 (by decide) ?_
    exact r_irets (pc := 102) h rfl dX9_needs_102
set_option maxHeartbeats 4000000 in
theorem st_X9_needs_22_b {X : sj_X} {g : sj_G} {s0 : sj_Mem} {N : Nat} {q : Int × sj_VV} {k22 : Nat → Int → Int → sj_VV → Option (Int × sj_VV)} (hk22 : ∀ (a0 : Nat) (x1 : Int) (x2 : Int) (V : sj_VV), OK9 g a0 → k22 a0 x1 x2 V = some q → sj_T X m_X9_needs s0 (some (sj_i q.1), (g, q.2)) 22 [some (sj_r (some a0)), some (sj_i x1), some (sj_i x2), none] [] (g, V)) :
    ∀ (a0 : Nat) (x1 : Int) (x2 : Int) (V : sj_VV), OK9 g a0 → g_X9_needs_22_b N k22 a0 x1 x2 V = some q → sj_T X m_X9_needs s0 (some (sj_i q.1), (g, q.2)) 22 [some (sj_r (some a0)), some (sj_i x1), some (sj_i x2), none] [] (g, V) := by
  intro a0 x1 x2 V ha0 h
  unfold g_X9_needs_22_b at h
  refine r_iload_n (pc := 22) dX9_needs_22 rfl rfl ?_
  refine r_sipush (pc := 23) dX9_needs_23 ⟨by decide, by decide⟩ ?_
  refine r_icmp_gt (pc := 26) (tgt := 86) h dX9_needs_26 (by decide) (fun h => ?_) (fun h => ?_)
  · exact sj_weak (l2 := [some (sj_r (some a0)), none, some (sj_i x2), none]) (⟨rfl, ⟨rfl, trivial⟩⟩) (st_X9_needs_86 a0 x2 V ha0 h)
  · refine r_aload_n (pc := 29) dX9_needs_29 rfl rfl ?_
    refine r_iload_n (pc := 30) dX9_needs_30 rfl rfl ?_
    refine r_callVs (pc := 31) (fun v => some (sj_i v)) (As := [sj_i x1]) (rest := []) (b := a0) (ok9 ha0) h dX9_needs_31 mw_X9_183 vw_X9_isStanding (fun _ _ hc => cg_X9_isStanding ha0 hc) rfl ⟨(Nat.le_of_ble_eq_true rfl), (Nat.le_of_ble_eq_true rfl)⟩ (Nat.le_of_ble_eq_true rfl) rfl (fun v2 V1 h => ?_)
    refine r_if_ne (pc := 34) (tgt := 86) h dX9_needs_34 (by decide) (fun h => ?_) (fun h => ?_)
    · refine r_iinc (ln := fun w => [some (sj_r (some a0)), some (sj_i x1), some (sj_i w), none]) (pc := 37) h dX9_needs_37 rfl (Nat.le_of_ble_eq_true rfl) (fun _ => rfl) (fun v3 h => ?_)
      refine r_iconst (pc := 40) dX9_needs_40 ?_
      refine r_istore_n (ln := [some (sj_r (some a0)), some (sj_i x1), some (sj_i v3), some (sj_i 0)]) (pc := 41) dX9_needs_41 rfl (Nat.le_of_ble_eq_true rfl) rfl ?_
      exact sj_weak (l2 := [some (sj_r (some a0)), some (sj_i x1), some (sj_i v3), some (sj_i 0)]) (⟨rfl, ⟨rfl, ⟨rfl, ⟨rfl, trivial⟩⟩⟩⟩) (st_X9_needs_42 hk22 N a0 x1 v3 0 V1 ha0 h)
    · exact sj_weak (l2 := [some (sj_r (some a0)), none, some (sj_i x2), none]) (⟨rfl, ⟨rfl, trivial⟩⟩) (st_X9_needs_86 a0 x2 V1 ha0 h)
set_option maxHeartbeats 4000000 in
theorem st_X9_needs_22 {X : sj_X} {g : sj_G} {s0 : sj_Mem} {N : Nat} {q : Int × sj_VV} :
    ∀ (n : Nat) (a0 : Nat) (x1 : Int) (x2 : Int) (V : sj_VV), OK9 g a0 → g_X9_needs_22 N n a0 x1 x2 V = some q → sj_T X m_X9_needs s0 (some (sj_i q.1), (g, q.2)) 22 [some (sj_r (some a0)), some (sj_i x1), some (sj_i x2), none] [] (g, V) := by
  intro n
  induction n with
  | zero => intro a0 x1 x2 V ha0 h; exact nomatch h
  | succ n ih => intro a0 x1 x2 V ha0 h; exact st_X9_needs_22_b (N := N) ih a0 x1 x2 V ha0 h
set_option maxHeartbeats 4000000 in
theorem st_X9_needs_0 {X : sj_X} {g : sj_G} {s0 : sj_Mem} {N : Nat} {q : Int × sj_VV} :
    ∀ (a0 : Nat) (x1 : Int) (V : sj_VV), OK9 g a0 → g_X9_needs N a0 x1 V = some q → sj_T X m_X9_needs s0 (some (sj_i q.1), (g, q.2)) 0 [some (sj_r (some a0)), some (sj_i x1), none, none] [] (g, V) := by
  intro a0 x1 V ha0 h
  unfold g_X9_needs at h
  refine r_iload_n (pc := 0) dX9_needs_0 rfl rfl ?_
  refine r_callSs (pc := 1) (fun v => some (sj_i v)) (As := [sj_i x1]) (rest := []) h dX9_needs_1 mw_X9_287 kw_1446 (fun _ _ hc => cg_X9_isK  hc) rfl ⟨(Nat.le_of_ble_eq_true rfl), (Nat.le_of_ble_eq_true rfl)⟩ (Nat.le_of_ble_eq_true rfl) rfl (fun v2 V1 h => ?_)
  refine r_if_eq (pc := 4) (tgt := 14) h dX9_needs_4 (by decide) (fun h => ?_) (fun h => ?_)
  · refine r_iconst (pc := 14) dX9_needs_14 ?_
    exact r_irets (pc := 15) h rfl dX9_needs_15
  · refine r_aload_n (pc := 7) dX9_needs_7 rfl rfl ?_
    refine r_callVs (pc := 8) (fun v => some (sj_i v)) (As := []) (rest := []) (b := a0) (ok9 ha0) h dX9_needs_8 mw_X9_277 vw_X9_takesSlip (fun _ _ hc => cg_X9_takesSlip ha0 hc) rfl ⟨(Nat.le_of_ble_eq_true rfl), (Nat.le_of_ble_eq_true rfl)⟩ (Nat.le_of_ble_eq_true rfl) rfl (fun v4 V3 h => ?_)
    refine r_if_ne (pc := 11) (tgt := 16) h dX9_needs_11 (by decide) (fun h => ?_) (fun h => ?_)
    · refine r_iconst (pc := 14) dX9_needs_14 ?_
      exact r_irets (pc := 15) h rfl dX9_needs_15
    · refine r_aload_n (pc := 16) dX9_needs_16 rfl rfl ?_
      refine r_callVs (pc := 17) (fun _ => none) (As := []) (rest := []) (b := a0) (ok9 ha0) h dX9_needs_17 mw_X9_301 vw_X9_laysAside (fun _ _ hc => cg_X9_laysAside ha0 hc) rfl ⟨(Nat.le_of_ble_eq_true rfl), (Nat.le_of_ble_eq_true rfl)⟩ (Nat.le_of_ble_eq_true rfl) rfl (fun _u V5 h => ?_)
      refine r_iconst (pc := 20) dX9_needs_20 ?_
      refine r_istore_n (ln := [some (sj_r (some a0)), some (sj_i x1), some (sj_i 0), none]) (pc := 21) dX9_needs_21 rfl (Nat.le_of_ble_eq_true rfl) rfl ?_
      exact sj_weak (l2 := [some (sj_r (some a0)), some (sj_i x1), some (sj_i 0), none]) (⟨rfl, ⟨rfl, ⟨rfl, trivial⟩⟩⟩) (st_X9_needs_22 N a0 x1 0 V5 ha0 h)
set_option maxHeartbeats 4000000 in
theorem cg_X9_needs {X : sj_X} {g : sj_G} {N : Nat} {a0 : Nat} {x1 : Int} {V : sj_VV} {q : Int × sj_VV} (ha0 : OK9 g a0) (h : g_X9_needs N a0 x1 V = some q) : sj_C X m_X9_needs [sj_r (some a0), sj_i x1] (g, V) (some (sj_i q.1), (g, q.2)) :=
  sj_C_of (by decide +kernel) (Nat.le_of_ble_eq_true rfl) (lo := [some (sj_r (some a0)), some (sj_i x1), none, none]) rfl (sj_weak (l2 := [some (sj_r (some a0)), some (sj_i x1), none, none]) (⟨rfl, ⟨rfl, trivial⟩⟩) (st_X9_needs_0 a0 x1 V ha0 h))
set_option maxHeartbeats 4000000 in
theorem c_X9_needs {X : sj_X} {N : Nat} {a0 : Nat} {x1 : Int} {s : sj_Mem} {q : Int × sj_Mem} (h : f_X9_needs N a0 x1 s = some q) : sj_C X m_X9_needs [sj_r (some a0), sj_i x1] s (some (sj_i q.1), q.2) := by
  obtain ⟨g, V⟩ := s
  unfold f_X9_needs at h
  obtain ⟨ho, h1⟩ := e_ok_some h
  obtain ⟨q2, h2, rfl⟩ := sj_map_some h1
  exact cg_X9_needs ho h2
theorem dX9_bears_0 : decode cX9_bears 0 = .ok (.iload_n 1, 1) := by decide +kernel
theorem dX9_bears_1 : decode cX9_bears 1 = .ok (.invokestatic 287, 3) := by decide +kernel
theorem dX9_bears_4 : decode cX9_bears 4 = .ok (.ifCond .eq 10, 3) := by decide +kernel
theorem dX9_bears_7 : decode cX9_bears 7 = .ok (.aload_n 0, 1) := by decide +kernel
theorem dX9_bears_8 : decode cX9_bears 8 = .ok (.invokevirtual 277, 3) := by decide +kernel
theorem dX9_bears_11 : decode cX9_bears 11 = .ok (.ifCond .ne 5, 3) := by decide +kernel
theorem dX9_bears_14 : decode cX9_bears 14 = .ok (.iconst (-1), 1) := by decide +kernel
theorem dX9_bears_15 : decode cX9_bears 15 = .ok (.ireturn, 1) := by decide +kernel
theorem dX9_bears_16 : decode cX9_bears 16 = .ok (.aload_n 0, 1) := by decide +kernel
theorem dX9_bears_17 : decode cX9_bears 17 = .ok (.invokevirtual 301, 3) := by decide +kernel
theorem dX9_bears_20 : decode cX9_bears 20 = .ok (.iconst 0, 1) := by decide +kernel
theorem dX9_bears_21 : decode cX9_bears 21 = .ok (.istore_n 2, 1) := by decide +kernel
theorem dX9_bears_22 : decode cX9_bears 22 = .ok (.iload_n 2, 1) := by decide +kernel
theorem dX9_bears_23 : decode cX9_bears 23 = .ok (.bipush 100, 2) := by decide +kernel
theorem dX9_bears_25 : decode cX9_bears 25 = .ok (.if_icmp .gt 56, 3) := by decide +kernel
theorem dX9_bears_28 : decode cX9_bears 28 = .ok (.aload_n 0, 1) := by decide +kernel
theorem dX9_bears_29 : decode cX9_bears 29 = .ok (.iload_n 1, 1) := by decide +kernel
theorem dX9_bears_30 : decode cX9_bears 30 = .ok (.invokevirtual 183, 3) := by decide +kernel
theorem dX9_bears_33 : decode cX9_bears 33 = .ok (.ifCond .eq 48, 3) := by decide +kernel
theorem dX9_bears_36 : decode cX9_bears 36 = .ok (.iinc 2 1, 3) := by decide +kernel
theorem dX9_bears_39 : decode cX9_bears 39 = .ok (.iconst 0, 1) := by decide +kernel
theorem dX9_bears_40 : decode cX9_bears 40 = .ok (.istore_n 3, 1) := by decide +kernel
theorem dX9_bears_41 : decode cX9_bears 41 = .ok (.iload_n 3, 1) := by decide +kernel
theorem dX9_bears_42 : decode cX9_bears 42 = .ok (.bipush 41, 2) := by decide +kernel
theorem dX9_bears_44 : decode cX9_bears 44 = .ok (.if_icmp .ge 34, 3) := by decide +kernel
theorem dX9_bears_47 : decode cX9_bears 47 = .ok (.aload_n 0, 1) := by decide +kernel
theorem dX9_bears_48 : decode cX9_bears 48 = .ok (.getfield 9, 3) := by decide +kernel
theorem dX9_bears_51 : decode cX9_bears 51 = .ok (.bipush 85, 2) := by decide +kernel
theorem dX9_bears_53 : decode cX9_bears 53 = .ok (.iload_n 3, 1) := by decide +kernel
theorem dX9_bears_54 : decode cX9_bears 54 = .ok (.iadd, 1) := by decide +kernel
theorem dX9_bears_55 : decode cX9_bears 55 = .ok (.bipush 100, 2) := by decide +kernel
theorem dX9_bears_57 : decode cX9_bears 57 = .ok (.aload_n 0, 1) := by decide +kernel
theorem dX9_bears_58 : decode cX9_bears 58 = .ok (.getfield 13, 3) := by decide +kernel
theorem dX9_bears_61 : decode cX9_bears 61 = .ok (.bipush 85, 2) := by decide +kernel
theorem dX9_bears_63 : decode cX9_bears 63 = .ok (.iload_n 3, 1) := by decide +kernel
theorem dX9_bears_64 : decode cX9_bears 64 = .ok (.iadd, 1) := by decide +kernel
theorem dX9_bears_65 : decode cX9_bears 65 = .ok (.iaload, 1) := by decide +kernel
theorem dX9_bears_66 : decode cX9_bears 66 = .ok (.iload_n 2, 1) := by decide +kernel
theorem dX9_bears_67 : decode cX9_bears 67 = .ok (.iadd, 1) := by decide +kernel
theorem dX9_bears_68 : decode cX9_bears 68 = .ok (.invokestatic 104, 3) := by decide +kernel
theorem dX9_bears_71 : decode cX9_bears 71 = .ok (.iastore, 1) := by decide +kernel
theorem dX9_bears_72 : decode cX9_bears 72 = .ok (.iinc 3 1, 3) := by decide +kernel
theorem dX9_bears_75 : decode cX9_bears 75 = .ok (.goto (-34), 3) := by decide +kernel
theorem dX9_bears_78 : decode cX9_bears 78 = .ok (.goto (-56), 3) := by decide +kernel
theorem dX9_bears_81 : decode cX9_bears 81 = .ok (.aload_n 0, 1) := by decide +kernel
theorem dX9_bears_82 : decode cX9_bears 82 = .ok (.invokevirtual 304, 3) := by decide +kernel
theorem dX9_bears_85 : decode cX9_bears 85 = .ok (.iload_n 2, 1) := by decide +kernel
theorem dX9_bears_86 : decode cX9_bears 86 = .ok (.iconst 1, 1) := by decide +kernel
theorem dX9_bears_87 : decode cX9_bears 87 = .ok (.isub, 1) := by decide +kernel
theorem dX9_bears_88 : decode cX9_bears 88 = .ok (.ireturn, 1) := by decide +kernel
set_option maxHeartbeats 4000000 in
theorem st_X9_bears_41_b {X : sj_X} {g : sj_G} {s0 : sj_Mem} {N : Nat} {q : Int × sj_VV} {k22 : Nat → Int → Int → sj_VV → Option (Int × sj_VV)} {k41 : Nat → Int → Int → Int → sj_VV → Option (Int × sj_VV)} (hk22 : ∀ (a0 : Nat) (x1 : Int) (x2 : Int) (V : sj_VV), OK9 g a0 → k22 a0 x1 x2 V = some q → sj_T X m_X9_bears s0 (some (sj_i q.1), (g, q.2)) 22 [some (sj_r (some a0)), some (sj_i x1), some (sj_i x2), none] [] (g, V)) (hk41 : ∀ (a0 : Nat) (x1 : Int) (x2 : Int) (x3 : Int) (V : sj_VV), OK9 g a0 → k41 a0 x1 x2 x3 V = some q → sj_T X m_X9_bears s0 (some (sj_i q.1), (g, q.2)) 41 [some (sj_r (some a0)), some (sj_i x1), some (sj_i x2), some (sj_i x3)] [] (g, V)) :
    ∀ (a0 : Nat) (x1 : Int) (x2 : Int) (x3 : Int) (V : sj_VV), OK9 g a0 → g_X9_bears_41_b N k22 k41 a0 x1 x2 x3 V = some q → sj_T X m_X9_bears s0 (some (sj_i q.1), (g, q.2)) 41 [some (sj_r (some a0)), some (sj_i x1), some (sj_i x2), some (sj_i x3)] [] (g, V) := by
  intro a0 x1 x2 x3 V ha0 h
  unfold g_X9_bears_41_b at h
  refine r_iload_n (pc := 41) dX9_bears_41 rfl rfl ?_
  refine r_bipush (pc := 42) dX9_bears_42 ⟨by decide, by decide⟩ ?_
  refine r_icmp_ge (pc := 44) (tgt := 78) h dX9_bears_44 (by decide) (fun h => ?_) (fun h => ?_)
  · refine r_goto (pc := 78) (tgt := 22) dX9_bears_78 (by decide) ?_
    exact sj_weak (l2 := [some (sj_r (some a0)), some (sj_i x1), some (sj_i x2), none]) (⟨rfl, ⟨rfl, ⟨rfl, trivial⟩⟩⟩) (hk22 a0 x1 x2 V ha0 h)
  · refine r_aload_n (pc := 47) dX9_bears_47 rfl rfl ?_
    refine r_gRs (b := a0 + 1) (pc := 48) dX9_bears_48 fw_X9_9 rfl (ok9 ha0) (ok9_0 ha0).1 ?_
    refine r_bipush (pc := 51) dX9_bears_51 ⟨by decide, by decide⟩ ?_
    refine r_iload_n (pc := 53) dX9_bears_53 rfl rfl ?_
    refine r_iadd (pc := 54) dX9_bears_54 ?_
    refine r_bipush (pc := 55) dX9_bears_55 ⟨by decide, by decide⟩ ?_
    refine r_aload_n (pc := 57) dX9_bears_57 rfl rfl ?_
    refine r_gRs (b := a0 + 2) (pc := 58) dX9_bears_58 fw_X9_13 rfl (ok9 ha0) (ok9_1 ha0).1 ?_
    refine r_bipush (pc := 61) dX9_bears_61 ⟨by decide, by decide⟩ ?_
    refine r_iload_n (pc := 63) dX9_bears_63 rfl rfl ?_
    refine r_iadd (pc := 64) dX9_bears_64 ?_
    refine r_ialoads (pc := 65) h dX9_bears_65 (ok9_1 ha0).2 (fun h => ?_)
    refine r_iload_n (pc := 66) dX9_bears_66 rfl rfl ?_
    refine r_iadd (pc := 67) dX9_bears_67 ?_
    refine r_callSs (pc := 68) (fun v => some (sj_i v)) (As := [sj_i 100, sj_i ((V (a0 + 2) (85 + x3).toNat) + x2)]) (rest := [(sj_i (85 + x3)), (sj_r (some (a0 + 1)))]) h dX9_bears_68 mw_X9_104 kw_1352 (fun _ _ hc => cg_X9_least  hc) rfl ⟨(Nat.le_of_ble_eq_true rfl), (Nat.le_of_ble_eq_true rfl)⟩ (Nat.le_of_ble_eq_true rfl) rfl (fun v2 V1 h => ?_)
    refine r_iastores (pc := 71) h dX9_bears_71 (ok9_0 ha0).2 (fun V3 h => ?_)
    refine r_iinc (ln := fun w => [some (sj_r (some a0)), some (sj_i x1), some (sj_i x2), some (sj_i w)]) (pc := 72) h dX9_bears_72 rfl (Nat.le_of_ble_eq_true rfl) (fun _ => rfl) (fun v4 h => ?_)
    refine r_goto (pc := 75) (tgt := 41) dX9_bears_75 (by decide) ?_
    exact sj_weak (l2 := [some (sj_r (some a0)), some (sj_i x1), some (sj_i x2), some (sj_i v4)]) (⟨rfl, ⟨rfl, ⟨rfl, ⟨rfl, trivial⟩⟩⟩⟩) (hk41 a0 x1 x2 v4 V3 ha0 h)
set_option maxHeartbeats 4000000 in
theorem st_X9_bears_41 {X : sj_X} {g : sj_G} {s0 : sj_Mem} {N : Nat} {q : Int × sj_VV} {k22 : Nat → Int → Int → sj_VV → Option (Int × sj_VV)} (hk22 : ∀ (a0 : Nat) (x1 : Int) (x2 : Int) (V : sj_VV), OK9 g a0 → k22 a0 x1 x2 V = some q → sj_T X m_X9_bears s0 (some (sj_i q.1), (g, q.2)) 22 [some (sj_r (some a0)), some (sj_i x1), some (sj_i x2), none] [] (g, V)) :
    ∀ (n : Nat) (a0 : Nat) (x1 : Int) (x2 : Int) (x3 : Int) (V : sj_VV), OK9 g a0 → g_X9_bears_41 N k22 n a0 x1 x2 x3 V = some q → sj_T X m_X9_bears s0 (some (sj_i q.1), (g, q.2)) 41 [some (sj_r (some a0)), some (sj_i x1), some (sj_i x2), some (sj_i x3)] [] (g, V) := by
  intro n
  induction n with
  | zero => intro a0 x1 x2 x3 V ha0 h; exact nomatch h
  | succ n ih => intro a0 x1 x2 x3 V ha0 h; exact st_X9_bears_41_b (N := N) hk22 ih a0 x1 x2 x3 V ha0 h
set_option maxHeartbeats 4000000 in
theorem st_X9_bears_81 {X : sj_X} {g : sj_G} {s0 : sj_Mem} {N : Nat} {q : Int × sj_VV} :
    ∀ (a0 : Nat) (x2 : Int) (V : sj_VV), OK9 g a0 → g_X9_bears_81 N a0 x2 V = some q → sj_T X m_X9_bears s0 (some (sj_i q.1), (g, q.2)) 81 [some (sj_r (some a0)), none, some (sj_i x2), none] [] (g, V) := by
  intro a0 x2 V ha0 h
  unfold g_X9_bears_81 at h
  refine r_aload_n (pc := 81) dX9_bears_81 rfl rfl ?_
  refine r_callVs (pc := 82) (fun _ => none) (As := []) (rest := []) (b := a0) (ok9 ha0) h dX9_bears_82 mw_X9_304 vw_X9_comesBack (fun _ _ hc => cg_X9_comesBack ha0 hc) rfl ⟨(Nat.le_of_ble_eq_true rfl), (Nat.le_of_ble_eq_true rfl)⟩ (Nat.le_of_ble_eq_true rfl) rfl (fun _u V1 h => ?_)
  refine r_iload_n (pc := 85) dX9_bears_85 rfl rfl ?_
  refine r_iconst (pc := 86) dX9_bears_86 ?_
  refine r_isub (pc := 87) dX9_bears_87 ?_
  exact r_irets (pc := 88) h rfl dX9_bears_88
set_option maxHeartbeats 4000000 in
theorem st_X9_bears_22_b {X : sj_X} {g : sj_G} {s0 : sj_Mem} {N : Nat} {q : Int × sj_VV} {k22 : Nat → Int → Int → sj_VV → Option (Int × sj_VV)} (hk22 : ∀ (a0 : Nat) (x1 : Int) (x2 : Int) (V : sj_VV), OK9 g a0 → k22 a0 x1 x2 V = some q → sj_T X m_X9_bears s0 (some (sj_i q.1), (g, q.2)) 22 [some (sj_r (some a0)), some (sj_i x1), some (sj_i x2), none] [] (g, V)) :
    ∀ (a0 : Nat) (x1 : Int) (x2 : Int) (V : sj_VV), OK9 g a0 → g_X9_bears_22_b N k22 a0 x1 x2 V = some q → sj_T X m_X9_bears s0 (some (sj_i q.1), (g, q.2)) 22 [some (sj_r (some a0)), some (sj_i x1), some (sj_i x2), none] [] (g, V) := by
  intro a0 x1 x2 V ha0 h
  unfold g_X9_bears_22_b at h
  refine r_iload_n (pc := 22) dX9_bears_22 rfl rfl ?_
  refine r_bipush (pc := 23) dX9_bears_23 ⟨by decide, by decide⟩ ?_
  refine r_icmp_gt (pc := 25) (tgt := 81) h dX9_bears_25 (by decide) (fun h => ?_) (fun h => ?_)
  · exact sj_weak (l2 := [some (sj_r (some a0)), none, some (sj_i x2), none]) (⟨rfl, ⟨rfl, trivial⟩⟩) (st_X9_bears_81 a0 x2 V ha0 h)
  · refine r_aload_n (pc := 28) dX9_bears_28 rfl rfl ?_
    refine r_iload_n (pc := 29) dX9_bears_29 rfl rfl ?_
    refine r_callVs (pc := 30) (fun v => some (sj_i v)) (As := [sj_i x1]) (rest := []) (b := a0) (ok9 ha0) h dX9_bears_30 mw_X9_183 vw_X9_isStanding (fun _ _ hc => cg_X9_isStanding ha0 hc) rfl ⟨(Nat.le_of_ble_eq_true rfl), (Nat.le_of_ble_eq_true rfl)⟩ (Nat.le_of_ble_eq_true rfl) rfl (fun v2 V1 h => ?_)
    refine r_if_eq (pc := 33) (tgt := 81) h dX9_bears_33 (by decide) (fun h => ?_) (fun h => ?_)
    · exact sj_weak (l2 := [some (sj_r (some a0)), none, some (sj_i x2), none]) (⟨rfl, ⟨rfl, trivial⟩⟩) (st_X9_bears_81 a0 x2 V1 ha0 h)
    · refine r_iinc (ln := fun w => [some (sj_r (some a0)), some (sj_i x1), some (sj_i w), none]) (pc := 36) h dX9_bears_36 rfl (Nat.le_of_ble_eq_true rfl) (fun _ => rfl) (fun v3 h => ?_)
      refine r_iconst (pc := 39) dX9_bears_39 ?_
      refine r_istore_n (ln := [some (sj_r (some a0)), some (sj_i x1), some (sj_i v3), some (sj_i 0)]) (pc := 40) dX9_bears_40 rfl (Nat.le_of_ble_eq_true rfl) rfl ?_
      exact sj_weak (l2 := [some (sj_r (some a0)), some (sj_i x1), some (sj_i v3), some (sj_i 0)]) (⟨rfl, ⟨rfl, ⟨rfl, ⟨rfl, trivial⟩⟩⟩⟩) (st_X9_bears_41 hk22 N a0 x1 v3 0 V1 ha0 h)
set_option maxHeartbeats 4000000 in
theorem st_X9_bears_22 {X : sj_X} {g : sj_G} {s0 : sj_Mem} {N : Nat} {q : Int × sj_VV} :
    ∀ (n : Nat) (a0 : Nat) (x1 : Int) (x2 : Int) (V : sj_VV), OK9 g a0 → g_X9_bears_22 N n a0 x1 x2 V = some q → sj_T X m_X9_bears s0 (some (sj_i q.1), (g, q.2)) 22 [some (sj_r (some a0)), some (sj_i x1), some (sj_i x2), none] [] (g, V) := by
  intro n
  induction n with
  | zero => intro a0 x1 x2 V ha0 h; exact nomatch h
  | succ n ih => intro a0 x1 x2 V ha0 h; exact st_X9_bears_22_b (N := N) ih a0 x1 x2 V ha0 h
set_option maxHeartbeats 4000000 in
theorem st_X9_bears_0 {X : sj_X} {g : sj_G} {s0 : sj_Mem} {N : Nat} {q : Int × sj_VV} :
    ∀ (a0 : Nat) (x1 : Int) (V : sj_VV), OK9 g a0 → g_X9_bears N a0 x1 V = some q → sj_T X m_X9_bears s0 (some (sj_i q.1), (g, q.2)) 0 [some (sj_r (some a0)), some (sj_i x1), none, none] [] (g, V) := by
  intro a0 x1 V ha0 h
  unfold g_X9_bears at h
  refine r_iload_n (pc := 0) dX9_bears_0 rfl rfl ?_
  refine r_callSs (pc := 1) (fun v => some (sj_i v)) (As := [sj_i x1]) (rest := []) h dX9_bears_1 mw_X9_287 kw_1446 (fun _ _ hc => cg_X9_isK  hc) rfl ⟨(Nat.le_of_ble_eq_true rfl), (Nat.le_of_ble_eq_true rfl)⟩ (Nat.le_of_ble_eq_true rfl) rfl (fun v2 V1 h => ?_)
  refine r_if_eq (pc := 4) (tgt := 14) h dX9_bears_4 (by decide) (fun h => ?_) (fun h => ?_)
  · refine r_iconst (pc := 14) dX9_bears_14 ?_
    exact r_irets (pc := 15) h rfl dX9_bears_15
  · refine r_aload_n (pc := 7) dX9_bears_7 rfl rfl ?_
    refine r_callVs (pc := 8) (fun v => some (sj_i v)) (As := []) (rest := []) (b := a0) (ok9 ha0) h dX9_bears_8 mw_X9_277 vw_X9_takesSlip (fun _ _ hc => cg_X9_takesSlip ha0 hc) rfl ⟨(Nat.le_of_ble_eq_true rfl), (Nat.le_of_ble_eq_true rfl)⟩ (Nat.le_of_ble_eq_true rfl) rfl (fun v4 V3 h => ?_)
    refine r_if_ne (pc := 11) (tgt := 16) h dX9_bears_11 (by decide) (fun h => ?_) (fun h => ?_)
    · refine r_iconst (pc := 14) dX9_bears_14 ?_
      exact r_irets (pc := 15) h rfl dX9_bears_15
    · refine r_aload_n (pc := 16) dX9_bears_16 rfl rfl ?_
      refine r_callVs (pc := 17) (fun _ => none) (As := []) (rest := []) (b := a0) (ok9 ha0) h dX9_bears_17 mw_X9_301 vw_X9_laysAside (fun _ _ hc => cg_X9_laysAside ha0 hc) rfl ⟨(Nat.le_of_ble_eq_true rfl), (Nat.le_of_ble_eq_true rfl)⟩ (Nat.le_of_ble_eq_true rfl) rfl (fun _u V5 h => ?_)
      refine r_iconst (pc := 20) dX9_bears_20 ?_
      refine r_istore_n (ln := [some (sj_r (some a0)), some (sj_i x1), some (sj_i 0), none]) (pc := 21) dX9_bears_21 rfl (Nat.le_of_ble_eq_true rfl) rfl ?_
      exact sj_weak (l2 := [some (sj_r (some a0)), some (sj_i x1), some (sj_i 0), none]) (⟨rfl, ⟨rfl, ⟨rfl, trivial⟩⟩⟩) (st_X9_bears_22 N a0 x1 0 V5 ha0 h)
set_option maxHeartbeats 4000000 in
theorem cg_X9_bears {X : sj_X} {g : sj_G} {N : Nat} {a0 : Nat} {x1 : Int} {V : sj_VV} {q : Int × sj_VV} (ha0 : OK9 g a0) (h : g_X9_bears N a0 x1 V = some q) : sj_C X m_X9_bears [sj_r (some a0), sj_i x1] (g, V) (some (sj_i q.1), (g, q.2)) :=
  sj_C_of (by decide +kernel) (Nat.le_of_ble_eq_true rfl) (lo := [some (sj_r (some a0)), some (sj_i x1), none, none]) rfl (sj_weak (l2 := [some (sj_r (some a0)), some (sj_i x1), none, none]) (⟨rfl, ⟨rfl, trivial⟩⟩) (st_X9_bears_0 a0 x1 V ha0 h))
set_option maxHeartbeats 4000000 in
theorem c_X9_bears {X : sj_X} {N : Nat} {a0 : Nat} {x1 : Int} {s : sj_Mem} {q : Int × sj_Mem} (h : f_X9_bears N a0 x1 s = some q) : sj_C X m_X9_bears [sj_r (some a0), sj_i x1] s (some (sj_i q.1), q.2) := by
  obtain ⟨g, V⟩ := s
  unfold f_X9_bears at h
  obtain ⟨ho, h1⟩ := e_ok_some h
  obtain ⟨q2, h2, rfl⟩ := sj_map_some h1
  exact cg_X9_bears ho h2
theorem dX9_dry_0 : decode cX9_dry 0 = .ok (.aload_n 0, 1) := by decide +kernel
theorem dX9_dry_1 : decode cX9_dry 1 = .ok (.invokevirtual 277, 3) := by decide +kernel
theorem dX9_dry_4 : decode cX9_dry 4 = .ok (.ifCond .ne 5, 3) := by decide +kernel
theorem dX9_dry_7 : decode cX9_dry 7 = .ok (.iconst (-1), 1) := by decide +kernel
theorem dX9_dry_8 : decode cX9_dry 8 = .ok (.ireturn, 1) := by decide +kernel
theorem dX9_dry_9 : decode cX9_dry 9 = .ok (.aload_n 0, 1) := by decide +kernel
theorem dX9_dry_10 : decode cX9_dry 10 = .ok (.invokevirtual 301, 3) := by decide +kernel
theorem dX9_dry_13 : decode cX9_dry 13 = .ok (.iconst 0, 1) := by decide +kernel
theorem dX9_dry_14 : decode cX9_dry 14 = .ok (.istore_n 1, 1) := by decide +kernel
theorem dX9_dry_15 : decode cX9_dry 15 = .ok (.iload_n 1, 1) := by decide +kernel
theorem dX9_dry_16 : decode cX9_dry 16 = .ok (.bipush 41, 2) := by decide +kernel
theorem dX9_dry_18 : decode cX9_dry 18 = .ok (.if_icmp .ge 19, 3) := by decide +kernel
theorem dX9_dry_21 : decode cX9_dry 21 = .ok (.aload_n 0, 1) := by decide +kernel
theorem dX9_dry_22 : decode cX9_dry 22 = .ok (.getfield 9, 3) := by decide +kernel
theorem dX9_dry_25 : decode cX9_dry 25 = .ok (.bipush 85, 2) := by decide +kernel
theorem dX9_dry_27 : decode cX9_dry 27 = .ok (.iload_n 1, 1) := by decide +kernel
theorem dX9_dry_28 : decode cX9_dry 28 = .ok (.iadd, 1) := by decide +kernel
theorem dX9_dry_29 : decode cX9_dry 29 = .ok (.iconst 0, 1) := by decide +kernel
theorem dX9_dry_30 : decode cX9_dry 30 = .ok (.iastore, 1) := by decide +kernel
theorem dX9_dry_31 : decode cX9_dry 31 = .ok (.iinc 1 1, 3) := by decide +kernel
theorem dX9_dry_34 : decode cX9_dry 34 = .ok (.goto (-19), 3) := by decide +kernel
theorem dX9_dry_37 : decode cX9_dry 37 = .ok (.aload_n 0, 1) := by decide +kernel
theorem dX9_dry_38 : decode cX9_dry 38 = .ok (.invokevirtual 209, 3) := by decide +kernel
theorem dX9_dry_41 : decode cX9_dry 41 = .ok (.istore_n 1, 1) := by decide +kernel
theorem dX9_dry_42 : decode cX9_dry 42 = .ok (.aload_n 0, 1) := by decide +kernel
theorem dX9_dry_43 : decode cX9_dry 43 = .ok (.invokevirtual 304, 3) := by decide +kernel
theorem dX9_dry_46 : decode cX9_dry 46 = .ok (.iload_n 1, 1) := by decide +kernel
theorem dX9_dry_47 : decode cX9_dry 47 = .ok (.ireturn, 1) := by decide +kernel
set_option maxHeartbeats 4000000 in
theorem st_X9_dry_15_b {X : sj_X} {g : sj_G} {s0 : sj_Mem} {N : Nat} {q : Int × sj_VV} {k15 : Nat → Int → sj_VV → Option (Int × sj_VV)} (hk15 : ∀ (a0 : Nat) (x1 : Int) (V : sj_VV), OK9 g a0 → k15 a0 x1 V = some q → sj_T X m_X9_dry s0 (some (sj_i q.1), (g, q.2)) 15 [some (sj_r (some a0)), some (sj_i x1)] [] (g, V)) :
    ∀ (a0 : Nat) (x1 : Int) (V : sj_VV), OK9 g a0 → g_X9_dry_15_b N k15 a0 x1 V = some q → sj_T X m_X9_dry s0 (some (sj_i q.1), (g, q.2)) 15 [some (sj_r (some a0)), some (sj_i x1)] [] (g, V) := by
  intro a0 x1 V ha0 h
  unfold g_X9_dry_15_b at h
  refine r_iload_n (pc := 15) dX9_dry_15 rfl rfl ?_
  refine r_bipush (pc := 16) dX9_dry_16 ⟨by decide, by decide⟩ ?_
  refine r_icmp_ge (pc := 18) (tgt := 37) h dX9_dry_18 (by decide) (fun h => ?_) (fun h => ?_)
  · refine r_aload_n (pc := 37) dX9_dry_37 rfl rfl ?_
    refine r_callVs (pc := 38) (fun v => some (sj_i v)) (As := []) (rest := []) (b := a0) (ok9 ha0) h dX9_dry_38 mw_X9_209 vw_X9_factorOf (fun _ _ hc => cg_X9_factorOf ha0 hc) rfl ⟨(Nat.le_of_ble_eq_true rfl), (Nat.le_of_ble_eq_true rfl)⟩ (Nat.le_of_ble_eq_true rfl) rfl (fun v2 V1 h => ?_)
    refine r_istore_n (ln := [some (sj_r (some a0)), some (sj_i v2)]) (pc := 41) dX9_dry_41 rfl (Nat.le_of_ble_eq_true rfl) rfl ?_
    refine r_aload_n (pc := 42) dX9_dry_42 rfl rfl ?_
    refine r_callVs (pc := 43) (fun _ => none) (As := []) (rest := []) (b := a0) (ok9 ha0) h dX9_dry_43 mw_X9_304 vw_X9_comesBack (fun _ _ hc => cg_X9_comesBack ha0 hc) rfl ⟨(Nat.le_of_ble_eq_true rfl), (Nat.le_of_ble_eq_true rfl)⟩ (Nat.le_of_ble_eq_true rfl) rfl (fun _u V3 h => ?_)
    refine r_iload_n (pc := 46) dX9_dry_46 rfl rfl ?_
    exact r_irets (pc := 47) h rfl dX9_dry_47
  · refine r_aload_n (pc := 21) dX9_dry_21 rfl rfl ?_
    refine r_gRs (b := a0 + 1) (pc := 22) dX9_dry_22 fw_X9_9 rfl (ok9 ha0) (ok9_0 ha0).1 ?_
    refine r_bipush (pc := 25) dX9_dry_25 ⟨by decide, by decide⟩ ?_
    refine r_iload_n (pc := 27) dX9_dry_27 rfl rfl ?_
    refine r_iadd (pc := 28) dX9_dry_28 ?_
    refine r_iconst (pc := 29) dX9_dry_29 ?_
    refine r_iastores (pc := 30) h dX9_dry_30 (ok9_0 ha0).2 (fun V4 h => ?_)
    refine r_iinc (ln := fun w => [some (sj_r (some a0)), some (sj_i w)]) (pc := 31) h dX9_dry_31 rfl (Nat.le_of_ble_eq_true rfl) (fun _ => rfl) (fun v5 h => ?_)
    refine r_goto (pc := 34) (tgt := 15) dX9_dry_34 (by decide) ?_
    exact sj_weak (l2 := [some (sj_r (some a0)), some (sj_i v5)]) (⟨rfl, ⟨rfl, trivial⟩⟩) (hk15 a0 v5 V4 ha0 h)
set_option maxHeartbeats 4000000 in
theorem st_X9_dry_15 {X : sj_X} {g : sj_G} {s0 : sj_Mem} {N : Nat} {q : Int × sj_VV} :
    ∀ (n : Nat) (a0 : Nat) (x1 : Int) (V : sj_VV), OK9 g a0 → g_X9_dry_15 N n a0 x1 V = some q → sj_T X m_X9_dry s0 (some (sj_i q.1), (g, q.2)) 15 [some (sj_r (some a0)), some (sj_i x1)] [] (g, V) := by
  intro n
  induction n with
  | zero => intro a0 x1 V ha0 h; exact nomatch h
  | succ n ih => intro a0 x1 V ha0 h; exact st_X9_dry_15_b (N := N) ih a0 x1 V ha0 h
set_option maxHeartbeats 4000000 in
theorem st_X9_dry_0 {X : sj_X} {g : sj_G} {s0 : sj_Mem} {N : Nat} {q : Int × sj_VV} :
    ∀ (a0 : Nat) (V : sj_VV), OK9 g a0 → g_X9_dry N a0 V = some q → sj_T X m_X9_dry s0 (some (sj_i q.1), (g, q.2)) 0 [some (sj_r (some a0)), none] [] (g, V) := by
  intro a0 V ha0 h
  unfold g_X9_dry at h
  refine r_aload_n (pc := 0) dX9_dry_0 rfl rfl ?_
  refine r_callVs (pc := 1) (fun v => some (sj_i v)) (As := []) (rest := []) (b := a0) (ok9 ha0) h dX9_dry_1 mw_X9_277 vw_X9_takesSlip (fun _ _ hc => cg_X9_takesSlip ha0 hc) rfl ⟨(Nat.le_of_ble_eq_true rfl), (Nat.le_of_ble_eq_true rfl)⟩ (Nat.le_of_ble_eq_true rfl) rfl (fun v2 V1 h => ?_)
  refine r_if_ne (pc := 4) (tgt := 9) h dX9_dry_4 (by decide) (fun h => ?_) (fun h => ?_)
  · refine r_iconst (pc := 7) dX9_dry_7 ?_
    exact r_irets (pc := 8) h rfl dX9_dry_8
  · refine r_aload_n (pc := 9) dX9_dry_9 rfl rfl ?_
    refine r_callVs (pc := 10) (fun _ => none) (As := []) (rest := []) (b := a0) (ok9 ha0) h dX9_dry_10 mw_X9_301 vw_X9_laysAside (fun _ _ hc => cg_X9_laysAside ha0 hc) rfl ⟨(Nat.le_of_ble_eq_true rfl), (Nat.le_of_ble_eq_true rfl)⟩ (Nat.le_of_ble_eq_true rfl) rfl (fun _u V3 h => ?_)
    refine r_iconst (pc := 13) dX9_dry_13 ?_
    refine r_istore_n (ln := [some (sj_r (some a0)), some (sj_i 0)]) (pc := 14) dX9_dry_14 rfl (Nat.le_of_ble_eq_true rfl) rfl ?_
    exact sj_weak (l2 := [some (sj_r (some a0)), some (sj_i 0)]) (⟨rfl, ⟨rfl, trivial⟩⟩) (st_X9_dry_15 N a0 0 V3 ha0 h)
set_option maxHeartbeats 4000000 in
theorem cg_X9_dry {X : sj_X} {g : sj_G} {N : Nat} {a0 : Nat} {V : sj_VV} {q : Int × sj_VV} (ha0 : OK9 g a0) (h : g_X9_dry N a0 V = some q) : sj_C X m_X9_dry [sj_r (some a0)] (g, V) (some (sj_i q.1), (g, q.2)) :=
  sj_C_of (by decide +kernel) (Nat.le_of_ble_eq_true rfl) (lo := [some (sj_r (some a0)), none]) rfl (sj_weak (l2 := [some (sj_r (some a0)), none]) (⟨rfl, trivial⟩) (st_X9_dry_0 a0 V ha0 h))
set_option maxHeartbeats 4000000 in
theorem c_X9_dry {X : sj_X} {N : Nat} {a0 : Nat} {s : sj_Mem} {q : Int × sj_Mem} (h : f_X9_dry N a0 s = some q) : sj_C X m_X9_dry [sj_r (some a0)] s (some (sj_i q.1), q.2) := by
  obtain ⟨g, V⟩ := s
  unfold f_X9_dry at h
  obtain ⟨ho, h1⟩ := e_ok_some h
  obtain ⟨q2, h2, rfl⟩ := sj_map_some h1
  exact cg_X9_dry ho h2
theorem dX9_sum_0 : decode cX9_sum 0 = .ok (.aload_n 0, 1) := by decide +kernel
theorem dX9_sum_1 : decode cX9_sum 1 = .ok (.invokevirtual 277, 3) := by decide +kernel
theorem dX9_sum_4 : decode cX9_sum 4 = .ok (.ifCond .eq 15, 3) := by decide +kernel
theorem dX9_sum_7 : decode cX9_sum 7 = .ok (.iload_n 1, 1) := by decide +kernel
theorem dX9_sum_8 : decode cX9_sum 8 = .ok (.i2l, 1) := by decide +kernel
theorem dX9_sum_9 : decode cX9_sum 9 = .ok (.lconst 0, 1) := by decide +kernel
theorem dX9_sum_10 : decode cX9_sum 10 = .ok (.ldc2_w 64, 3) := by decide +kernel
theorem dX9_sum_13 : decode cX9_sum 13 = .ok (.invokestatic 57, 3) := by decide +kernel
theorem dX9_sum_16 : decode cX9_sum 16 = .ok (.ifCond .ne 7, 3) := by decide +kernel
theorem dX9_sum_19 : decode cX9_sum 19 = .ok (.ldc2_w 283, 3) := by decide +kernel
theorem dX9_sum_22 : decode cX9_sum 22 = .ok (.lreturn, 1) := by decide +kernel
theorem dX9_sum_23 : decode cX9_sum 23 = .ok (.iload_n 1, 1) := by decide +kernel
theorem dX9_sum_24 : decode cX9_sum 24 = .ok (.iconst 1, 1) := by decide +kernel
theorem dX9_sum_25 : decode cX9_sum 25 = .ok (.if_icmp .ne 8, 3) := by decide +kernel
theorem dX9_sum_28 : decode cX9_sum 28 = .ok (.aload_n 0, 1) := by decide +kernel
theorem dX9_sum_29 : decode cX9_sum 29 = .ok (.invokevirtual 164, 3) := by decide +kernel
theorem dX9_sum_32 : decode cX9_sum 32 = .ok (.lreturn, 1) := by decide +kernel
theorem dX9_sum_33 : decode cX9_sum 33 = .ok (.lconst 0, 1) := by decide +kernel
theorem dX9_sum_34 : decode cX9_sum 34 = .ok (.lstore_n 2, 1) := by decide +kernel
theorem dX9_sum_35 : decode cX9_sum 35 = .ok (.aload_n 0, 1) := by decide +kernel
theorem dX9_sum_36 : decode cX9_sum 36 = .ok (.getfield 22, 3) := by decide +kernel
theorem dX9_sum_39 : decode cX9_sum 39 = .ok (.istore 4, 2) := by decide +kernel
theorem dX9_sum_41 : decode cX9_sum 41 = .ok (.iload 4, 2) := by decide +kernel
theorem dX9_sum_43 : decode cX9_sum 43 = .ok (.aload_n 0, 1) := by decide +kernel
theorem dX9_sum_44 : decode cX9_sum 44 = .ok (.getfield 150, 3) := by decide +kernel
theorem dX9_sum_47 : decode cX9_sum 47 = .ok (.if_icmp .ge 57, 3) := by decide +kernel
theorem dX9_sum_50 : decode cX9_sum 50 = .ok (.aload_n 0, 1) := by decide +kernel
theorem dX9_sum_51 : decode cX9_sum 51 = .ok (.iload 4, 2) := by decide +kernel
theorem dX9_sum_53 : decode cX9_sum 53 = .ok (.invokevirtual 168, 3) := by decide +kernel
theorem dX9_sum_56 : decode cX9_sum 56 = .ok (.lload_n 2, 1) := by decide +kernel
theorem dX9_sum_57 : decode cX9_sum 57 = .ok (.iload_n 1, 1) := by decide +kernel
theorem dX9_sum_58 : decode cX9_sum 58 = .ok (.ifCond .ne 10, 3) := by decide +kernel
theorem dX9_sum_61 : decode cX9_sum 61 = .ok (.aload_n 0, 1) := by decide +kernel
theorem dX9_sum_62 : decode cX9_sum 62 = .ok (.getfield 145, 3) := by decide +kernel
theorem dX9_sum_65 : decode cX9_sum 65 = .ok (.goto 31, 3) := by decide +kernel
theorem dX9_sum_68 : decode cX9_sum 68 = .ok (.iload_n 1, 1) := by decide +kernel
theorem dX9_sum_69 : decode cX9_sum 69 = .ok (.iconst 2, 1) := by decide +kernel
theorem dX9_sum_70 : decode cX9_sum 70 = .ok (.if_icmp .ne 10, 3) := by decide +kernel
theorem dX9_sum_73 : decode cX9_sum 73 = .ok (.aload_n 0, 1) := by decide +kernel
theorem dX9_sum_74 : decode cX9_sum 74 = .ok (.getfield 124, 3) := by decide +kernel
theorem dX9_sum_77 : decode cX9_sum 77 = .ok (.goto 19, 3) := by decide +kernel
theorem dX9_sum_80 : decode cX9_sum 80 = .ok (.iload_n 1, 1) := by decide +kernel
theorem dX9_sum_81 : decode cX9_sum 81 = .ok (.iconst 3, 1) := by decide +kernel
theorem dX9_sum_82 : decode cX9_sum 82 = .ok (.if_icmp .ne 10, 3) := by decide +kernel
theorem dX9_sum_85 : decode cX9_sum 85 = .ok (.aload_n 0, 1) := by decide +kernel
theorem dX9_sum_86 : decode cX9_sum 86 = .ok (.getfield 132, 3) := by decide +kernel
theorem dX9_sum_89 : decode cX9_sum 89 = .ok (.goto 7, 3) := by decide +kernel
theorem dX9_sum_92 : decode cX9_sum 92 = .ok (.aload_n 0, 1) := by decide +kernel
theorem dX9_sum_93 : decode cX9_sum 93 = .ok (.getfield 140, 3) := by decide +kernel
theorem dX9_sum_96 : decode cX9_sum 96 = .ok (.ladd, 1) := by decide +kernel
theorem dX9_sum_97 : decode cX9_sum 97 = .ok (.lstore_n 2, 1) := by decide +kernel
theorem dX9_sum_98 : decode cX9_sum 98 = .ok (.iinc 4 1, 3) := by decide +kernel
theorem dX9_sum_101 : decode cX9_sum 101 = .ok (.goto (-60), 3) := by decide +kernel
theorem dX9_sum_104 : decode cX9_sum 104 = .ok (.lload_n 2, 1) := by decide +kernel
theorem dX9_sum_105 : decode cX9_sum 105 = .ok (.lreturn, 1) := by decide +kernel
set_option maxHeartbeats 4000000 in
theorem st_X9_sum_96 {X : sj_X} {g : sj_G} {s0 : sj_Mem} {N : Nat} {q : Int × sj_VV} {k41 : Nat → Int → Int → Int → sj_VV → Option (Int × sj_VV)} (hk41 : ∀ (a0 : Nat) (x1 : Int) (x2 : Int) (x4 : Int) (V : sj_VV), OK9 g a0 → k41 a0 x1 x2 x4 V = some q → sj_T X m_X9_sum s0 (some (sj_j q.1), (g, q.2)) 41 [some (sj_r (some a0)), some (sj_i x1), some (sj_j x2), none, some (sj_i x4)] [] (g, V)) :
    ∀ (a0 : Nat) (x1 : Int) (x4 : Int) (y0 : Int) (y1 : Int) (V : sj_VV), OK9 g a0 → g_X9_sum_96 N k41 a0 x1 x4 y0 y1 V = some q → sj_T X m_X9_sum s0 (some (sj_j q.1), (g, q.2)) 96 [some (sj_r (some a0)), some (sj_i x1), none, none, some (sj_i x4)] [(sj_j y0), (sj_j y1)] (g, V) := by
  intro a0 x1 x4 y0 y1 V ha0 h
  unfold g_X9_sum_96 at h
  refine r_ladd (pc := 96) dX9_sum_96 ?_
  refine r_lstore_nL (ln := fun w => [some (sj_r (some a0)), some (sj_i x1), some (sj_j w), none, some (sj_i x4)]) (pc := 97) h dX9_sum_97 rfl (Nat.le_of_ble_eq_true rfl) (fun _ => rfl) (fun v1 h => ?_)
  refine r_iinc (ln := fun w => [some (sj_r (some a0)), some (sj_i x1), some (sj_j v1), none, some (sj_i w)]) (pc := 98) h dX9_sum_98 rfl (Nat.le_of_ble_eq_true rfl) (fun _ => rfl) (fun v2 h => ?_)
  refine r_goto (pc := 101) (tgt := 41) dX9_sum_101 (by decide) ?_
  exact sj_weak (l2 := [some (sj_r (some a0)), some (sj_i x1), some (sj_j v1), none, some (sj_i v2)]) (⟨rfl, ⟨rfl, ⟨rfl, ⟨rfl, trivial⟩⟩⟩⟩) (hk41 a0 x1 v1 v2 V ha0 h)
set_option maxHeartbeats 4000000 in
theorem st_X9_sum_41_b {X : sj_X} {g : sj_G} {s0 : sj_Mem} {N : Nat} {q : Int × sj_VV} {k41 : Nat → Int → Int → Int → sj_VV → Option (Int × sj_VV)} (hk41 : ∀ (a0 : Nat) (x1 : Int) (x2 : Int) (x4 : Int) (V : sj_VV), OK9 g a0 → k41 a0 x1 x2 x4 V = some q → sj_T X m_X9_sum s0 (some (sj_j q.1), (g, q.2)) 41 [some (sj_r (some a0)), some (sj_i x1), some (sj_j x2), none, some (sj_i x4)] [] (g, V)) :
    ∀ (a0 : Nat) (x1 : Int) (x2 : Int) (x4 : Int) (V : sj_VV), OK9 g a0 → g_X9_sum_41_b N k41 a0 x1 x2 x4 V = some q → sj_T X m_X9_sum s0 (some (sj_j q.1), (g, q.2)) 41 [some (sj_r (some a0)), some (sj_i x1), some (sj_j x2), none, some (sj_i x4)] [] (g, V) := by
  intro a0 x1 x2 x4 V ha0 h
  unfold g_X9_sum_41_b at h
  refine r_iload (pc := 41) dX9_sum_41 rfl ?_
  refine r_aload_n (pc := 43) dX9_sum_43 rfl rfl ?_
  refine r_gIs (pc := 44) dX9_sum_44 fw_X9_150 rfl (ok9 ha0) ?_
  refine r_icmp_ge (pc := 47) (tgt := 104) h dX9_sum_47 (by decide) (fun h => ?_) (fun h => ?_)
  · refine r_lload_n (pc := 104) dX9_sum_104 rfl rfl ?_
    exact r_lrets (pc := 105) h rfl dX9_sum_105
  · refine r_aload_n (pc := 50) dX9_sum_50 rfl rfl ?_
    refine r_iload (pc := 51) dX9_sum_51 rfl ?_
    refine r_callVs (pc := 53) (fun _ => none) (As := [sj_i x4]) (rest := []) (b := a0) (ok9 ha0) h dX9_sum_53 mw_X9_168 vw_X9_laysAt (fun _ _ hc => cg_X9_laysAt ha0 hc) rfl ⟨(Nat.le_of_ble_eq_true rfl), (Nat.le_of_ble_eq_true rfl)⟩ (Nat.le_of_ble_eq_true rfl) rfl (fun _u V1 h => ?_)
    refine r_lload_n (pc := 56) dX9_sum_56 rfl rfl ?_
    refine r_iload_n (pc := 57) dX9_sum_57 rfl rfl ?_
    refine r_if_ne (pc := 58) (tgt := 68) h dX9_sum_58 (by decide) (fun h => ?_) (fun h => ?_)
    · refine r_aload_n (pc := 61) dX9_sum_61 rfl rfl ?_
      refine r_gJs (pc := 62) dX9_sum_62 fw_X9_145 rfl (ok9 ha0) ?_
      refine r_goto (pc := 65) (tgt := 96) dX9_sum_65 (by decide) ?_
      exact sj_weak (l2 := [some (sj_r (some a0)), some (sj_i x1), none, none, some (sj_i x4)]) (⟨rfl, ⟨rfl, ⟨rfl, trivial⟩⟩⟩) (st_X9_sum_96 hk41 a0 x1 x4 (V1 a0 12) x2 V1 ha0 h)
    · refine r_iload_n (pc := 68) dX9_sum_68 rfl rfl ?_
      refine r_iconst (pc := 69) dX9_sum_69 ?_
      refine r_icmp_ne (pc := 70) (tgt := 80) h dX9_sum_70 (by decide) (fun h => ?_) (fun h => ?_)
      · refine r_aload_n (pc := 73) dX9_sum_73 rfl rfl ?_
        refine r_gJs (pc := 74) dX9_sum_74 fw_X9_124 rfl (ok9 ha0) ?_
        refine r_goto (pc := 77) (tgt := 96) dX9_sum_77 (by decide) ?_
        exact sj_weak (l2 := [some (sj_r (some a0)), some (sj_i x1), none, none, some (sj_i x4)]) (⟨rfl, ⟨rfl, ⟨rfl, trivial⟩⟩⟩) (st_X9_sum_96 hk41 a0 x1 x4 (V1 a0 8) x2 V1 ha0 h)
      · refine r_iload_n (pc := 80) dX9_sum_80 rfl rfl ?_
        refine r_iconst (pc := 81) dX9_sum_81 ?_
        refine r_icmp_ne (pc := 82) (tgt := 92) h dX9_sum_82 (by decide) (fun h => ?_) (fun h => ?_)
        · refine r_aload_n (pc := 85) dX9_sum_85 rfl rfl ?_
          refine r_gJs (pc := 86) dX9_sum_86 fw_X9_132 rfl (ok9 ha0) ?_
          refine r_goto (pc := 89) (tgt := 96) dX9_sum_89 (by decide) ?_
          exact sj_weak (l2 := [some (sj_r (some a0)), some (sj_i x1), none, none, some (sj_i x4)]) (⟨rfl, ⟨rfl, ⟨rfl, trivial⟩⟩⟩) (st_X9_sum_96 hk41 a0 x1 x4 (V1 a0 9) x2 V1 ha0 h)
        · refine r_aload_n (pc := 92) dX9_sum_92 rfl rfl ?_
          refine r_gJs (pc := 93) dX9_sum_93 fw_X9_140 rfl (ok9 ha0) ?_
          exact sj_weak (l2 := [some (sj_r (some a0)), some (sj_i x1), none, none, some (sj_i x4)]) (⟨rfl, ⟨rfl, ⟨rfl, trivial⟩⟩⟩) (st_X9_sum_96 hk41 a0 x1 x4 (V1 a0 11) x2 V1 ha0 h)
set_option maxHeartbeats 4000000 in
theorem st_X9_sum_41 {X : sj_X} {g : sj_G} {s0 : sj_Mem} {N : Nat} {q : Int × sj_VV} :
    ∀ (n : Nat) (a0 : Nat) (x1 : Int) (x2 : Int) (x4 : Int) (V : sj_VV), OK9 g a0 → g_X9_sum_41 N n a0 x1 x2 x4 V = some q → sj_T X m_X9_sum s0 (some (sj_j q.1), (g, q.2)) 41 [some (sj_r (some a0)), some (sj_i x1), some (sj_j x2), none, some (sj_i x4)] [] (g, V) := by
  intro n
  induction n with
  | zero => intro a0 x1 x2 x4 V ha0 h; exact nomatch h
  | succ n ih => intro a0 x1 x2 x4 V ha0 h; exact st_X9_sum_41_b (N := N) ih a0 x1 x2 x4 V ha0 h
set_option maxHeartbeats 4000000 in
theorem st_X9_sum_0 {X : sj_X} {g : sj_G} {s0 : sj_Mem} {N : Nat} {q : Int × sj_VV} :
    ∀ (a0 : Nat) (x1 : Int) (V : sj_VV), OK9 g a0 → g_X9_sum N a0 x1 V = some q → sj_T X m_X9_sum s0 (some (sj_j q.1), (g, q.2)) 0 [some (sj_r (some a0)), some (sj_i x1), none, none, none] [] (g, V) := by
  intro a0 x1 V ha0 h
  unfold g_X9_sum at h
  refine r_aload_n (pc := 0) dX9_sum_0 rfl rfl ?_
  refine r_callVs (pc := 1) (fun v => some (sj_i v)) (As := []) (rest := []) (b := a0) (ok9 ha0) h dX9_sum_1 mw_X9_277 vw_X9_takesSlip (fun _ _ hc => cg_X9_takesSlip ha0 hc) rfl ⟨(Nat.le_of_ble_eq_true rfl), (Nat.le_of_ble_eq_true rfl)⟩ (Nat.le_of_ble_eq_true rfl) rfl (fun v2 V1 h => ?_)
  refine r_if_eq (pc := 4) (tgt := 19) h dX9_sum_4 (by decide) (fun h => ?_) (fun h => ?_)
  · refine r_ldc2 (n := -10000000000000) (pc := 19) dX9_sum_19 kc_X9_283 ?_
    exact r_lrets (pc := 22) h rfl dX9_sum_22
  · refine r_iload_n (pc := 7) dX9_sum_7 rfl rfl ?_
    refine r_i2l (pc := 8) h dX9_sum_8 (fun v3 h => ?_)
    refine r_lconst0 (pc := 9) dX9_sum_9 ?_
    refine r_ldc2 (n := 4) (pc := 10) dX9_sum_10 kc_X9_64 ?_
    refine r_callSs (pc := 13) (fun v => some (sj_i v)) (As := [sj_j v3, sj_j 0, sj_j 4]) (rest := []) h dX9_sum_13 mw_X9_57 kw_1225 (fun _ _ hc => cg_X9_isIn  hc) rfl ⟨(Nat.le_of_ble_eq_true rfl), (Nat.le_of_ble_eq_true rfl)⟩ (Nat.le_of_ble_eq_true rfl) rfl (fun v5 V4 h => ?_)
    refine r_if_ne (pc := 16) (tgt := 23) h dX9_sum_16 (by decide) (fun h => ?_) (fun h => ?_)
    · refine r_ldc2 (n := -10000000000000) (pc := 19) dX9_sum_19 kc_X9_283 ?_
      exact r_lrets (pc := 22) h rfl dX9_sum_22
    · refine r_iload_n (pc := 23) dX9_sum_23 rfl rfl ?_
      refine r_iconst (pc := 24) dX9_sum_24 ?_
      refine r_icmp_ne (pc := 25) (tgt := 33) h dX9_sum_25 (by decide) (fun h => ?_) (fun h => ?_)
      · refine r_aload_n (pc := 28) dX9_sum_28 rfl rfl ?_
        refine r_callVs (pc := 29) (fun v => some (sj_j v)) (As := []) (rest := []) (b := a0) (ok9 ha0) h dX9_sum_29 mw_X9_164 vw_X9_pulls (fun _ _ hc => cg_X9_pulls ha0 hc) rfl ⟨(Nat.le_of_ble_eq_true rfl), (Nat.le_of_ble_eq_true rfl)⟩ (Nat.le_of_ble_eq_true rfl) rfl (fun v8 V7 h => ?_)
        exact r_lrets (pc := 32) h rfl dX9_sum_32
      · refine r_lconst0 (pc := 33) dX9_sum_33 ?_
        refine r_lstore_n (ln := [some (sj_r (some a0)), some (sj_i x1), some (sj_j 0), none, none]) (pc := 34) dX9_sum_34 rfl (Nat.le_of_ble_eq_true rfl) rfl ?_
        refine r_aload_n (pc := 35) dX9_sum_35 rfl rfl ?_
        refine r_gIs (pc := 36) dX9_sum_36 fw_X9_22 rfl (ok9 ha0) ?_
        refine r_istoreL (ln := fun w => [some (sj_r (some a0)), some (sj_i x1), some (sj_j 0), none, some (sj_i w)]) (pc := 39) h dX9_sum_39 (Nat.le_of_ble_eq_true rfl) (fun _ => rfl) (fun v6 h => ?_)
        exact sj_weak (l2 := [some (sj_r (some a0)), some (sj_i x1), some (sj_j 0), none, some (sj_i v6)]) (⟨rfl, ⟨rfl, ⟨rfl, ⟨rfl, trivial⟩⟩⟩⟩) (st_X9_sum_41 N a0 x1 0 v6 V4 ha0 h)
set_option maxHeartbeats 4000000 in
theorem cg_X9_sum {X : sj_X} {g : sj_G} {N : Nat} {a0 : Nat} {x1 : Int} {V : sj_VV} {q : Int × sj_VV} (ha0 : OK9 g a0) (h : g_X9_sum N a0 x1 V = some q) : sj_C X m_X9_sum [sj_r (some a0), sj_i x1] (g, V) (some (sj_j q.1), (g, q.2)) :=
  sj_C_of (by decide +kernel) (Nat.le_of_ble_eq_true rfl) (lo := [some (sj_r (some a0)), some (sj_i x1), none, none, none]) rfl (sj_weak (l2 := [some (sj_r (some a0)), some (sj_i x1), none, none, none]) (⟨rfl, ⟨rfl, trivial⟩⟩) (st_X9_sum_0 a0 x1 V ha0 h))
set_option maxHeartbeats 4000000 in
theorem c_X9_sum {X : sj_X} {N : Nat} {a0 : Nat} {x1 : Int} {s : sj_Mem} {q : Int × sj_Mem} (h : f_X9_sum N a0 x1 s = some q) : sj_C X m_X9_sum [sj_r (some a0), sj_i x1] s (some (sj_j q.1), q.2) := by
  obtain ⟨g, V⟩ := s
  unfold f_X9_sum at h
  obtain ⟨ho, h1⟩ := e_ok_some h
  obtain ⟨q2, h2, rfl⟩ := sj_map_some h1
  exact cg_X9_sum ho h2
theorem dX9_stands_0 : decode cX9_stands 0 = .ok (.iload_n 1, 1) := by decide +kernel
theorem dX9_stands_1 : decode cX9_stands 1 = .ok (.invokestatic 287, 3) := by decide +kernel
theorem dX9_stands_4 : decode cX9_stands 4 = .ok (.ifCond .eq 26, 3) := by decide +kernel
theorem dX9_stands_7 : decode cX9_stands 7 = .ok (.aload_n 0, 1) := by decide +kernel
theorem dX9_stands_8 : decode cX9_stands 8 = .ok (.invokevirtual 277, 3) := by decide +kernel
theorem dX9_stands_11 : decode cX9_stands 11 = .ok (.ifCond .eq 19, 3) := by decide +kernel
theorem dX9_stands_14 : decode cX9_stands 14 = .ok (.aload_n 0, 1) := by decide +kernel
theorem dX9_stands_15 : decode cX9_stands 15 = .ok (.iload_n 1, 1) := by decide +kernel
theorem dX9_stands_16 : decode cX9_stands 16 = .ok (.invokevirtual 183, 3) := by decide +kernel
theorem dX9_stands_19 : decode cX9_stands 19 = .ok (.ifCond .eq 7, 3) := by decide +kernel
theorem dX9_stands_22 : decode cX9_stands 22 = .ok (.iconst 1, 1) := by decide +kernel
theorem dX9_stands_23 : decode cX9_stands 23 = .ok (.goto 8, 3) := by decide +kernel
theorem dX9_stands_26 : decode cX9_stands 26 = .ok (.iconst 0, 1) := by decide +kernel
theorem dX9_stands_27 : decode cX9_stands 27 = .ok (.goto 4, 3) := by decide +kernel
theorem dX9_stands_30 : decode cX9_stands 30 = .ok (.iconst (-1), 1) := by decide +kernel
theorem dX9_stands_31 : decode cX9_stands 31 = .ok (.ireturn, 1) := by decide +kernel
set_option maxHeartbeats 4000000 in
theorem st_X9_stands_0 {X : sj_X} {g : sj_G} {s0 : sj_Mem} {N : Nat} {q : Int × sj_VV} :
    ∀ (a0 : Nat) (x1 : Int) (V : sj_VV), OK9 g a0 → g_X9_stands N a0 x1 V = some q → sj_T X m_X9_stands s0 (some (sj_i q.1), (g, q.2)) 0 [some (sj_r (some a0)), some (sj_i x1)] [] (g, V) := by
  intro a0 x1 V ha0 h
  unfold g_X9_stands at h
  refine r_iload_n (pc := 0) dX9_stands_0 rfl rfl ?_
  refine r_callSs (pc := 1) (fun v => some (sj_i v)) (As := [sj_i x1]) (rest := []) h dX9_stands_1 mw_X9_287 kw_1446 (fun _ _ hc => cg_X9_isK  hc) rfl ⟨(Nat.le_of_ble_eq_true rfl), (Nat.le_of_ble_eq_true rfl)⟩ (Nat.le_of_ble_eq_true rfl) rfl (fun v2 V1 h => ?_)
  refine r_if_eq (pc := 4) (tgt := 30) h dX9_stands_4 (by decide) (fun h => ?_) (fun h => ?_)
  · refine r_iconst (pc := 30) dX9_stands_30 ?_
    exact r_irets (pc := 31) h rfl dX9_stands_31
  · refine r_aload_n (pc := 7) dX9_stands_7 rfl rfl ?_
    refine r_callVs (pc := 8) (fun v => some (sj_i v)) (As := []) (rest := []) (b := a0) (ok9 ha0) h dX9_stands_8 mw_X9_277 vw_X9_takesSlip (fun _ _ hc => cg_X9_takesSlip ha0 hc) rfl ⟨(Nat.le_of_ble_eq_true rfl), (Nat.le_of_ble_eq_true rfl)⟩ (Nat.le_of_ble_eq_true rfl) rfl (fun v4 V3 h => ?_)
    refine r_if_eq (pc := 11) (tgt := 30) h dX9_stands_11 (by decide) (fun h => ?_) (fun h => ?_)
    · refine r_iconst (pc := 30) dX9_stands_30 ?_
      exact r_irets (pc := 31) h rfl dX9_stands_31
    · refine r_aload_n (pc := 14) dX9_stands_14 rfl rfl ?_
      refine r_iload_n (pc := 15) dX9_stands_15 rfl rfl ?_
      refine r_callVs (pc := 16) (fun v => some (sj_i v)) (As := [sj_i x1]) (rest := []) (b := a0) (ok9 ha0) h dX9_stands_16 mw_X9_183 vw_X9_isStanding (fun _ _ hc => cg_X9_isStanding ha0 hc) rfl ⟨(Nat.le_of_ble_eq_true rfl), (Nat.le_of_ble_eq_true rfl)⟩ (Nat.le_of_ble_eq_true rfl) rfl (fun v6 V5 h => ?_)
      refine r_if_eq (pc := 19) (tgt := 26) h dX9_stands_19 (by decide) (fun h => ?_) (fun h => ?_)
      · refine r_iconst (pc := 26) dX9_stands_26 ?_
        refine r_goto (pc := 27) (tgt := 31) dX9_stands_27 (by decide) ?_
        exact r_irets (pc := 31) h rfl dX9_stands_31
      · refine r_iconst (pc := 22) dX9_stands_22 ?_
        refine r_goto (pc := 23) (tgt := 31) dX9_stands_23 (by decide) ?_
        exact r_irets (pc := 31) h rfl dX9_stands_31
set_option maxHeartbeats 4000000 in
theorem cg_X9_stands {X : sj_X} {g : sj_G} {N : Nat} {a0 : Nat} {x1 : Int} {V : sj_VV} {q : Int × sj_VV} (ha0 : OK9 g a0) (h : g_X9_stands N a0 x1 V = some q) : sj_C X m_X9_stands [sj_r (some a0), sj_i x1] (g, V) (some (sj_i q.1), (g, q.2)) :=
  sj_C_of (by decide +kernel) (Nat.le_of_ble_eq_true rfl) (lo := [some (sj_r (some a0)), some (sj_i x1)]) rfl (sj_weak (l2 := [some (sj_r (some a0)), some (sj_i x1)]) (⟨rfl, ⟨rfl, trivial⟩⟩) (st_X9_stands_0 a0 x1 V ha0 h))
set_option maxHeartbeats 4000000 in
theorem c_X9_stands {X : sj_X} {N : Nat} {a0 : Nat} {x1 : Int} {s : sj_Mem} {q : Int × sj_Mem} (h : f_X9_stands N a0 x1 s = some q) : sj_C X m_X9_stands [sj_r (some a0), sj_i x1] s (some (sj_i q.1), q.2) := by
  obtain ⟨g, V⟩ := s
  unfold f_X9_stands at h
  obtain ⟨ho, h1⟩ := e_ok_some h
  obtain ⟨q2, h2, rfl⟩ := sj_map_some h1
  exact cg_X9_stands ho h2
theorem dX9_rubs_0 : decode cX9_rubs 0 = .ok (.aload_n 0, 1) := by decide +kernel
theorem dX9_rubs_1 : decode cX9_rubs 1 = .ok (.iload_n 1, 1) := by decide +kernel
theorem dX9_rubs_2 : decode cX9_rubs 2 = .ok (.invokevirtual 280, 3) := by decide +kernel
theorem dX9_rubs_5 : decode cX9_rubs 5 = .ok (.ifCond .eq 10, 3) := by decide +kernel
theorem dX9_rubs_8 : decode cX9_rubs 8 = .ok (.iload_n 2, 1) := by decide +kernel
theorem dX9_rubs_9 : decode cX9_rubs 9 = .ok (.invokestatic 287, 3) := by decide +kernel
theorem dX9_rubs_12 : decode cX9_rubs 12 = .ok (.ifCond .ne 7, 3) := by decide +kernel
theorem dX9_rubs_15 : decode cX9_rubs 15 = .ok (.ldc2_w 290, 3) := by decide +kernel
theorem dX9_rubs_18 : decode cX9_rubs 18 = .ok (.lreturn, 1) := by decide +kernel
theorem dX9_rubs_19 : decode cX9_rubs 19 = .ok (.aload_n 0, 1) := by decide +kernel
theorem dX9_rubs_20 : decode cX9_rubs 20 = .ok (.aload_n 0, 1) := by decide +kernel
theorem dX9_rubs_21 : decode cX9_rubs 21 = .ok (.getfield 22, 3) := by decide +kernel
theorem dX9_rubs_24 : decode cX9_rubs 24 = .ok (.iload_n 1, 1) := by decide +kernel
theorem dX9_rubs_25 : decode cX9_rubs 25 = .ok (.iadd, 1) := by decide +kernel
theorem dX9_rubs_26 : decode cX9_rubs 26 = .ok (.invokevirtual 168, 3) := by decide +kernel
theorem dX9_rubs_29 : decode cX9_rubs 29 = .ok (.aload_n 0, 1) := by decide +kernel
theorem dX9_rubs_30 : decode cX9_rubs 30 = .ok (.iload_n 2, 1) := by decide +kernel
theorem dX9_rubs_31 : decode cX9_rubs 31 = .ok (.invokevirtual 171, 3) := by decide +kernel
theorem dX9_rubs_34 : decode cX9_rubs 34 = .ok (.lreturn, 1) := by decide +kernel
set_option maxHeartbeats 4000000 in
theorem st_X9_rubs_0 {X : sj_X} {g : sj_G} {s0 : sj_Mem} {N : Nat} {q : Int × sj_VV} :
    ∀ (a0 : Nat) (x1 : Int) (x2 : Int) (V : sj_VV), OK9 g a0 → g_X9_rubs N a0 x1 x2 V = some q → sj_T X m_X9_rubs s0 (some (sj_j q.1), (g, q.2)) 0 [some (sj_r (some a0)), some (sj_i x1), some (sj_i x2)] [] (g, V) := by
  intro a0 x1 x2 V ha0 h
  unfold g_X9_rubs at h
  refine r_aload_n (pc := 0) dX9_rubs_0 rfl rfl ?_
  refine r_iload_n (pc := 1) dX9_rubs_1 rfl rfl ?_
  refine r_callVs (pc := 2) (fun v => some (sj_i v)) (As := [sj_i x1]) (rest := []) (b := a0) (ok9 ha0) h dX9_rubs_2 mw_X9_280 vw_X9_isSlice (fun _ _ hc => cg_X9_isSlice ha0 hc) rfl ⟨(Nat.le_of_ble_eq_true rfl), (Nat.le_of_ble_eq_true rfl)⟩ (Nat.le_of_ble_eq_true rfl) rfl (fun v2 V1 h => ?_)
  refine r_if_eq (pc := 5) (tgt := 15) h dX9_rubs_5 (by decide) (fun h => ?_) (fun h => ?_)
  · refine r_ldc2 (n := -10) (pc := 15) dX9_rubs_15 kc_X9_290 ?_
    exact r_lrets (pc := 18) h rfl dX9_rubs_18
  · refine r_iload_n (pc := 8) dX9_rubs_8 rfl rfl ?_
    refine r_callSs (pc := 9) (fun v => some (sj_i v)) (As := [sj_i x2]) (rest := []) h dX9_rubs_9 mw_X9_287 kw_1446 (fun _ _ hc => cg_X9_isK  hc) rfl ⟨(Nat.le_of_ble_eq_true rfl), (Nat.le_of_ble_eq_true rfl)⟩ (Nat.le_of_ble_eq_true rfl) rfl (fun v4 V3 h => ?_)
    refine r_if_ne (pc := 12) (tgt := 19) h dX9_rubs_12 (by decide) (fun h => ?_) (fun h => ?_)
    · refine r_ldc2 (n := -10) (pc := 15) dX9_rubs_15 kc_X9_290 ?_
      exact r_lrets (pc := 18) h rfl dX9_rubs_18
    · refine r_aload_n (pc := 19) dX9_rubs_19 rfl rfl ?_
      refine r_aload_n (pc := 20) dX9_rubs_20 rfl rfl ?_
      refine r_gIs (pc := 21) dX9_rubs_21 fw_X9_22 rfl (ok9 ha0) ?_
      refine r_iload_n (pc := 24) dX9_rubs_24 rfl rfl ?_
      refine r_iadd (pc := 25) dX9_rubs_25 ?_
      refine r_callVs (pc := 26) (fun _ => none) (As := [sj_i ((V3 a0 13) + x1)]) (rest := []) (b := a0) (ok9 ha0) h dX9_rubs_26 mw_X9_168 vw_X9_laysAt (fun _ _ hc => cg_X9_laysAt ha0 hc) rfl ⟨(Nat.le_of_ble_eq_true rfl), (Nat.le_of_ble_eq_true rfl)⟩ (Nat.le_of_ble_eq_true rfl) rfl (fun _u V5 h => ?_)
      refine r_aload_n (pc := 29) dX9_rubs_29 rfl rfl ?_
      refine r_iload_n (pc := 30) dX9_rubs_30 rfl rfl ?_
      refine r_callVs (pc := 31) (fun v => some (sj_j v)) (As := [sj_i x2]) (rest := []) (b := a0) (ok9 ha0) h dX9_rubs_31 mw_X9_171 vw_X9_rubsOf (fun _ _ hc => cg_X9_rubsOf ha0 hc) rfl ⟨(Nat.le_of_ble_eq_true rfl), (Nat.le_of_ble_eq_true rfl)⟩ (Nat.le_of_ble_eq_true rfl) rfl (fun v7 V6 h => ?_)
      exact r_lrets (pc := 34) h rfl dX9_rubs_34
set_option maxHeartbeats 4000000 in
theorem cg_X9_rubs {X : sj_X} {g : sj_G} {N : Nat} {a0 : Nat} {x1 : Int} {x2 : Int} {V : sj_VV} {q : Int × sj_VV} (ha0 : OK9 g a0) (h : g_X9_rubs N a0 x1 x2 V = some q) : sj_C X m_X9_rubs [sj_r (some a0), sj_i x1, sj_i x2] (g, V) (some (sj_j q.1), (g, q.2)) :=
  sj_C_of (by decide +kernel) (Nat.le_of_ble_eq_true rfl) (lo := [some (sj_r (some a0)), some (sj_i x1), some (sj_i x2)]) rfl (sj_weak (l2 := [some (sj_r (some a0)), some (sj_i x1), some (sj_i x2)]) (⟨rfl, ⟨rfl, ⟨rfl, trivial⟩⟩⟩) (st_X9_rubs_0 a0 x1 x2 V ha0 h))
set_option maxHeartbeats 4000000 in
theorem c_X9_rubs {X : sj_X} {N : Nat} {a0 : Nat} {x1 : Int} {x2 : Int} {s : sj_Mem} {q : Int × sj_Mem} (h : f_X9_rubs N a0 x1 x2 s = some q) : sj_C X m_X9_rubs [sj_r (some a0), sj_i x1, sj_i x2] s (some (sj_j q.1), q.2) := by
  obtain ⟨g, V⟩ := s
  unfold f_X9_rubs at h
  obtain ⟨ho, h1⟩ := e_ok_some h
  obtain ⟨q2, h2, rfl⟩ := sj_map_some h1
  exact cg_X9_rubs ho h2
theorem dX9_slice_0 : decode cX9_slice 0 = .ok (.aload_n 0, 1) := by decide +kernel
theorem dX9_slice_1 : decode cX9_slice 1 = .ok (.iload_n 1, 1) := by decide +kernel
theorem dX9_slice_2 : decode cX9_slice 2 = .ok (.invokevirtual 280, 3) := by decide +kernel
theorem dX9_slice_5 : decode cX9_slice 5 = .ok (.ifCond .ne 7, 3) := by decide +kernel
theorem dX9_slice_8 : decode cX9_slice 8 = .ok (.ldc2_w 283, 3) := by decide +kernel
theorem dX9_slice_11 : decode cX9_slice 11 = .ok (.lreturn, 1) := by decide +kernel
theorem dX9_slice_12 : decode cX9_slice 12 = .ok (.aload_n 0, 1) := by decide +kernel
theorem dX9_slice_13 : decode cX9_slice 13 = .ok (.aload_n 0, 1) := by decide +kernel
theorem dX9_slice_14 : decode cX9_slice 14 = .ok (.getfield 22, 3) := by decide +kernel
theorem dX9_slice_17 : decode cX9_slice 17 = .ok (.iload_n 1, 1) := by decide +kernel
theorem dX9_slice_18 : decode cX9_slice 18 = .ok (.iadd, 1) := by decide +kernel
theorem dX9_slice_19 : decode cX9_slice 19 = .ok (.invokevirtual 168, 3) := by decide +kernel
theorem dX9_slice_22 : decode cX9_slice 22 = .ok (.iload_n 2, 1) := by decide +kernel
theorem dX9_slice_23 : decode cX9_slice 23 = .ok (.tableswitch 90 0 7 #[45, 53, 59, 64, 69, 74, 80, 85], 45) := by decide +kernel
theorem dX9_slice_68 : decode cX9_slice 68 = .ok (.aload_n 0, 1) := by decide +kernel
theorem dX9_slice_69 : decode cX9_slice 69 = .ok (.getfield 22, 3) := by decide +kernel
theorem dX9_slice_72 : decode cX9_slice 72 = .ok (.iload_n 1, 1) := by decide +kernel
theorem dX9_slice_73 : decode cX9_slice 73 = .ok (.iadd, 1) := by decide +kernel
theorem dX9_slice_74 : decode cX9_slice 74 = .ok (.i2l, 1) := by decide +kernel
theorem dX9_slice_75 : decode cX9_slice 75 = .ok (.lreturn, 1) := by decide +kernel
theorem dX9_slice_76 : decode cX9_slice 76 = .ok (.aload_n 0, 1) := by decide +kernel
theorem dX9_slice_77 : decode cX9_slice 77 = .ok (.getfield 114, 3) := by decide +kernel
theorem dX9_slice_80 : decode cX9_slice 80 = .ok (.i2l, 1) := by decide +kernel
theorem dX9_slice_81 : decode cX9_slice 81 = .ok (.lreturn, 1) := by decide +kernel
theorem dX9_slice_82 : decode cX9_slice 82 = .ok (.aload_n 0, 1) := by decide +kernel
theorem dX9_slice_83 : decode cX9_slice 83 = .ok (.getfield 124, 3) := by decide +kernel
theorem dX9_slice_86 : decode cX9_slice 86 = .ok (.lreturn, 1) := by decide +kernel
theorem dX9_slice_87 : decode cX9_slice 87 = .ok (.aload_n 0, 1) := by decide +kernel
theorem dX9_slice_88 : decode cX9_slice 88 = .ok (.getfield 132, 3) := by decide +kernel
theorem dX9_slice_91 : decode cX9_slice 91 = .ok (.lreturn, 1) := by decide +kernel
theorem dX9_slice_92 : decode cX9_slice 92 = .ok (.aload_n 0, 1) := by decide +kernel
theorem dX9_slice_93 : decode cX9_slice 93 = .ok (.getfield 135, 3) := by decide +kernel
theorem dX9_slice_96 : decode cX9_slice 96 = .ok (.lreturn, 1) := by decide +kernel
theorem dX9_slice_97 : decode cX9_slice 97 = .ok (.aload_n 0, 1) := by decide +kernel
theorem dX9_slice_98 : decode cX9_slice 98 = .ok (.getfield 117, 3) := by decide +kernel
theorem dX9_slice_101 : decode cX9_slice 101 = .ok (.i2l, 1) := by decide +kernel
theorem dX9_slice_102 : decode cX9_slice 102 = .ok (.lreturn, 1) := by decide +kernel
theorem dX9_slice_103 : decode cX9_slice 103 = .ok (.aload_n 0, 1) := by decide +kernel
theorem dX9_slice_104 : decode cX9_slice 104 = .ok (.getfield 140, 3) := by decide +kernel
theorem dX9_slice_107 : decode cX9_slice 107 = .ok (.lreturn, 1) := by decide +kernel
theorem dX9_slice_108 : decode cX9_slice 108 = .ok (.aload_n 0, 1) := by decide +kernel
theorem dX9_slice_109 : decode cX9_slice 109 = .ok (.getfield 145, 3) := by decide +kernel
theorem dX9_slice_112 : decode cX9_slice 112 = .ok (.lreturn, 1) := by decide +kernel
theorem dX9_slice_113 : decode cX9_slice 113 = .ok (.ldc2_w 283, 3) := by decide +kernel
theorem dX9_slice_116 : decode cX9_slice 116 = .ok (.lreturn, 1) := by decide +kernel
set_option maxHeartbeats 4000000 in
theorem st_X9_slice_0 {X : sj_X} {g : sj_G} {s0 : sj_Mem} {N : Nat} {q : Int × sj_VV} :
    ∀ (a0 : Nat) (x1 : Int) (x2 : Int) (V : sj_VV), OK9 g a0 → g_X9_slice N a0 x1 x2 V = some q → sj_T X m_X9_slice s0 (some (sj_j q.1), (g, q.2)) 0 [some (sj_r (some a0)), some (sj_i x1), some (sj_i x2)] [] (g, V) := by
  intro a0 x1 x2 V ha0 h
  unfold g_X9_slice at h
  refine r_aload_n (pc := 0) dX9_slice_0 rfl rfl ?_
  refine r_iload_n (pc := 1) dX9_slice_1 rfl rfl ?_
  refine r_callVs (pc := 2) (fun v => some (sj_i v)) (As := [sj_i x1]) (rest := []) (b := a0) (ok9 ha0) h dX9_slice_2 mw_X9_280 vw_X9_isSlice (fun _ _ hc => cg_X9_isSlice ha0 hc) rfl ⟨(Nat.le_of_ble_eq_true rfl), (Nat.le_of_ble_eq_true rfl)⟩ (Nat.le_of_ble_eq_true rfl) rfl (fun v2 V1 h => ?_)
  refine r_if_ne (pc := 5) (tgt := 12) h dX9_slice_5 (by decide) (fun h => ?_) (fun h => ?_)
  · refine r_ldc2 (n := -10000000000000) (pc := 8) dX9_slice_8 kc_X9_283 ?_
    exact r_lrets (pc := 11) h rfl dX9_slice_11
  · refine r_aload_n (pc := 12) dX9_slice_12 rfl rfl ?_
    refine r_aload_n (pc := 13) dX9_slice_13 rfl rfl ?_
    refine r_gIs (pc := 14) dX9_slice_14 fw_X9_22 rfl (ok9 ha0) ?_
    refine r_iload_n (pc := 17) dX9_slice_17 rfl rfl ?_
    refine r_iadd (pc := 18) dX9_slice_18 ?_
    refine r_callVs (pc := 19) (fun _ => none) (As := [sj_i ((V1 a0 13) + x1)]) (rest := []) (b := a0) (ok9 ha0) h dX9_slice_19 mw_X9_168 vw_X9_laysAt (fun _ _ hc => cg_X9_laysAt ha0 hc) rfl ⟨(Nat.le_of_ble_eq_true rfl), (Nat.le_of_ble_eq_true rfl)⟩ (Nat.le_of_ble_eq_true rfl) rfl (fun _u V3 h => ?_)
    refine r_iload_n (pc := 22) dX9_slice_22 rfl rfl ?_
    obtain ⟨hr, h⟩ := e_sw_some h
    refine sj_if h (fun c0 h => ?_) (fun c0 h => ?_)
    · refine r_tcase (pc := 23) (tgt := 68) (j := 0) hr c0 dX9_slice_23 (by decide) (by decide) rfl (by decide) ?_
      refine r_aload_n (pc := 68) dX9_slice_68 rfl rfl ?_
      refine r_gIs (pc := 69) dX9_slice_69 fw_X9_22 rfl (ok9 ha0) ?_
      refine r_iload_n (pc := 72) dX9_slice_72 rfl rfl ?_
      refine r_iadd (pc := 73) dX9_slice_73 ?_
      refine r_i2l (pc := 74) h dX9_slice_74 (fun v4 h => ?_)
      exact r_lrets (pc := 75) h rfl dX9_slice_75
    refine sj_if h (fun c1 h => ?_) (fun c1 h => ?_)
    · refine r_tcase (pc := 23) (tgt := 76) (j := 1) hr c1 dX9_slice_23 (by decide) (by decide) rfl (by decide) ?_
      refine r_aload_n (pc := 76) dX9_slice_76 rfl rfl ?_
      refine r_gIs (pc := 77) dX9_slice_77 fw_X9_114 rfl (ok9 ha0) ?_
      refine r_i2l (pc := 80) h dX9_slice_80 (fun v5 h => ?_)
      exact r_lrets (pc := 81) h rfl dX9_slice_81
    refine sj_if h (fun c2 h => ?_) (fun c2 h => ?_)
    · refine r_tcase (pc := 23) (tgt := 82) (j := 2) hr c2 dX9_slice_23 (by decide) (by decide) rfl (by decide) ?_
      refine r_aload_n (pc := 82) dX9_slice_82 rfl rfl ?_
      refine r_gJs (pc := 83) dX9_slice_83 fw_X9_124 rfl (ok9 ha0) ?_
      exact r_lrets (pc := 86) h rfl dX9_slice_86
    refine sj_if h (fun c3 h => ?_) (fun c3 h => ?_)
    · refine r_tcase (pc := 23) (tgt := 87) (j := 3) hr c3 dX9_slice_23 (by decide) (by decide) rfl (by decide) ?_
      refine r_aload_n (pc := 87) dX9_slice_87 rfl rfl ?_
      refine r_gJs (pc := 88) dX9_slice_88 fw_X9_132 rfl (ok9 ha0) ?_
      exact r_lrets (pc := 91) h rfl dX9_slice_91
    refine sj_if h (fun c4 h => ?_) (fun c4 h => ?_)
    · refine r_tcase (pc := 23) (tgt := 92) (j := 4) hr c4 dX9_slice_23 (by decide) (by decide) rfl (by decide) ?_
      refine r_aload_n (pc := 92) dX9_slice_92 rfl rfl ?_
      refine r_gJs (pc := 93) dX9_slice_93 fw_X9_135 rfl (ok9 ha0) ?_
      exact r_lrets (pc := 96) h rfl dX9_slice_96
    refine sj_if h (fun c5 h => ?_) (fun c5 h => ?_)
    · refine r_tcase (pc := 23) (tgt := 97) (j := 5) hr c5 dX9_slice_23 (by decide) (by decide) rfl (by decide) ?_
      refine r_aload_n (pc := 97) dX9_slice_97 rfl rfl ?_
      refine r_gIs (pc := 98) dX9_slice_98 fw_X9_117 rfl (ok9 ha0) ?_
      refine r_i2l (pc := 101) h dX9_slice_101 (fun v6 h => ?_)
      exact r_lrets (pc := 102) h rfl dX9_slice_102
    refine sj_if h (fun c6 h => ?_) (fun c6 h => ?_)
    · refine r_tcase (pc := 23) (tgt := 103) (j := 6) hr c6 dX9_slice_23 (by decide) (by decide) rfl (by decide) ?_
      refine r_aload_n (pc := 103) dX9_slice_103 rfl rfl ?_
      refine r_gJs (pc := 104) dX9_slice_104 fw_X9_140 rfl (ok9 ha0) ?_
      exact r_lrets (pc := 107) h rfl dX9_slice_107
    refine sj_if h (fun c7 h => ?_) (fun c7 h => ?_)
    · refine r_tcase (pc := 23) (tgt := 108) (j := 7) hr c7 dX9_slice_23 (by decide) (by decide) rfl (by decide) ?_
      refine r_aload_n (pc := 108) dX9_slice_108 rfl rfl ?_
      refine r_gJs (pc := 109) dX9_slice_109 fw_X9_145 rfl (ok9 ha0) ?_
      exact r_lrets (pc := 112) h rfl dX9_slice_112
    refine r_tdflt (pc := 23) (tgt := 113) hr dX9_slice_23 (by omega) (by decide) ?_
    refine r_ldc2 (n := -10000000000000) (pc := 113) dX9_slice_113 kc_X9_283 ?_
    exact r_lrets (pc := 116) h rfl dX9_slice_116
set_option maxHeartbeats 4000000 in
theorem cg_X9_slice {X : sj_X} {g : sj_G} {N : Nat} {a0 : Nat} {x1 : Int} {x2 : Int} {V : sj_VV} {q : Int × sj_VV} (ha0 : OK9 g a0) (h : g_X9_slice N a0 x1 x2 V = some q) : sj_C X m_X9_slice [sj_r (some a0), sj_i x1, sj_i x2] (g, V) (some (sj_j q.1), (g, q.2)) :=
  sj_C_of (by decide +kernel) (Nat.le_of_ble_eq_true rfl) (lo := [some (sj_r (some a0)), some (sj_i x1), some (sj_i x2)]) rfl (sj_weak (l2 := [some (sj_r (some a0)), some (sj_i x1), some (sj_i x2)]) (⟨rfl, ⟨rfl, ⟨rfl, trivial⟩⟩⟩) (st_X9_slice_0 a0 x1 x2 V ha0 h))
set_option maxHeartbeats 4000000 in
theorem c_X9_slice {X : sj_X} {N : Nat} {a0 : Nat} {x1 : Int} {x2 : Int} {s : sj_Mem} {q : Int × sj_Mem} (h : f_X9_slice N a0 x1 x2 s = some q) : sj_C X m_X9_slice [sj_r (some a0), sj_i x1, sj_i x2] s (some (sj_j q.1), q.2) := by
  obtain ⟨g, V⟩ := s
  unfold f_X9_slice at h
  obtain ⟨ho, h1⟩ := e_ok_some h
  obtain ⟨q2, h2, rfl⟩ := sj_map_some h1
  exact cg_X9_slice ho h2
theorem dX9_anchored_0 : decode cX9_anchored 0 = .ok (.aload_n 0, 1) := by decide +kernel
theorem dX9_anchored_1 : decode cX9_anchored 1 = .ok (.iload_n 1, 1) := by decide +kernel
theorem dX9_anchored_2 : decode cX9_anchored 2 = .ok (.invokevirtual 410, 3) := by decide +kernel
theorem dX9_anchored_5 : decode cX9_anchored 5 = .ok (.ifCond .eq 15, 3) := by decide +kernel
theorem dX9_anchored_8 : decode cX9_anchored 8 = .ok (.iload_n 2, 1) := by decide +kernel
theorem dX9_anchored_9 : decode cX9_anchored 9 = .ok (.i2l, 1) := by decide +kernel
theorem dX9_anchored_10 : decode cX9_anchored 10 = .ok (.lconst 0, 1) := by decide +kernel
theorem dX9_anchored_11 : decode cX9_anchored 11 = .ok (.ldc2_w 96, 3) := by decide +kernel
theorem dX9_anchored_14 : decode cX9_anchored 14 = .ok (.invokestatic 57, 3) := by decide +kernel
theorem dX9_anchored_17 : decode cX9_anchored 17 = .ok (.ifCond .ne 5, 3) := by decide +kernel
theorem dX9_anchored_20 : decode cX9_anchored 20 = .ok (.iconst (-1), 1) := by decide +kernel
theorem dX9_anchored_21 : decode cX9_anchored 21 = .ok (.ireturn, 1) := by decide +kernel
theorem dX9_anchored_22 : decode cX9_anchored 22 = .ok (.iload_n 2, 1) := by decide +kernel
theorem dX9_anchored_23 : decode cX9_anchored 23 = .ok (.iconst 3, 1) := by decide +kernel
theorem dX9_anchored_24 : decode cX9_anchored 24 = .ok (.if_icmp .ge 18, 3) := by decide +kernel
theorem dX9_anchored_27 : decode cX9_anchored 27 = .ok (.aload_n 0, 1) := by decide +kernel
theorem dX9_anchored_28 : decode cX9_anchored 28 = .ok (.getfield 9, 3) := by decide +kernel
theorem dX9_anchored_31 : decode cX9_anchored 31 = .ok (.sipush 302, 3) := by decide +kernel
theorem dX9_anchored_34 : decode cX9_anchored 34 = .ok (.iconst 3, 1) := by decide +kernel
theorem dX9_anchored_35 : decode cX9_anchored 35 = .ok (.iload_n 1, 1) := by decide +kernel
theorem dX9_anchored_36 : decode cX9_anchored 36 = .ok (.imul, 1) := by decide +kernel
theorem dX9_anchored_37 : decode cX9_anchored 37 = .ok (.iadd, 1) := by decide +kernel
theorem dX9_anchored_38 : decode cX9_anchored 38 = .ok (.iload_n 2, 1) := by decide +kernel
theorem dX9_anchored_39 : decode cX9_anchored 39 = .ok (.iadd, 1) := by decide +kernel
theorem dX9_anchored_40 : decode cX9_anchored 40 = .ok (.iaload, 1) := by decide +kernel
theorem dX9_anchored_41 : decode cX9_anchored 41 = .ok (.ireturn, 1) := by decide +kernel
theorem dX9_anchored_42 : decode cX9_anchored 42 = .ok (.aload_n 0, 1) := by decide +kernel
theorem dX9_anchored_43 : decode cX9_anchored 43 = .ok (.invokevirtual 277, 3) := by decide +kernel
theorem dX9_anchored_46 : decode cX9_anchored 46 = .ok (.ifCond .eq 15, 3) := by decide +kernel
theorem dX9_anchored_49 : decode cX9_anchored 49 = .ok (.aload_n 0, 1) := by decide +kernel
theorem dX9_anchored_50 : decode cX9_anchored 50 = .ok (.iload_n 1, 1) := by decide +kernel
theorem dX9_anchored_51 : decode cX9_anchored 51 = .ok (.invokevirtual 161, 3) := by decide +kernel
theorem dX9_anchored_54 : decode cX9_anchored 54 = .ok (.ifCond .eq 7, 3) := by decide +kernel
theorem dX9_anchored_57 : decode cX9_anchored 57 = .ok (.iconst 1, 1) := by decide +kernel
theorem dX9_anchored_58 : decode cX9_anchored 58 = .ok (.goto 4, 3) := by decide +kernel
theorem dX9_anchored_61 : decode cX9_anchored 61 = .ok (.iconst 0, 1) := by decide +kernel
theorem dX9_anchored_62 : decode cX9_anchored 62 = .ok (.ireturn, 1) := by decide +kernel
set_option maxHeartbeats 4000000 in
theorem st_X9_anchored_0 {X : sj_X} {g : sj_G} {s0 : sj_Mem} {N : Nat} {q : Int × sj_VV} :
    ∀ (a0 : Nat) (x1 : Int) (x2 : Int) (V : sj_VV), OK9 g a0 → g_X9_anchored N a0 x1 x2 V = some q → sj_T X m_X9_anchored s0 (some (sj_i q.1), (g, q.2)) 0 [some (sj_r (some a0)), some (sj_i x1), some (sj_i x2)] [] (g, V) := by
  intro a0 x1 x2 V ha0 h
  unfold g_X9_anchored at h
  refine r_aload_n (pc := 0) dX9_anchored_0 rfl rfl ?_
  refine r_iload_n (pc := 1) dX9_anchored_1 rfl rfl ?_
  refine r_callVs (pc := 2) (fun v => some (sj_i v)) (As := [sj_i x1]) (rest := []) (b := a0) (ok9 ha0) h dX9_anchored_2 mw_X9_410 vw_X9_isAnchor (fun _ _ hc => cg_X9_isAnchor ha0 hc) rfl ⟨(Nat.le_of_ble_eq_true rfl), (Nat.le_of_ble_eq_true rfl)⟩ (Nat.le_of_ble_eq_true rfl) rfl (fun v2 V1 h => ?_)
  refine r_if_eq (pc := 5) (tgt := 20) h dX9_anchored_5 (by decide) (fun h => ?_) (fun h => ?_)
  · refine r_iconst (pc := 20) dX9_anchored_20 ?_
    exact r_irets (pc := 21) h rfl dX9_anchored_21
  · refine r_iload_n (pc := 8) dX9_anchored_8 rfl rfl ?_
    refine r_i2l (pc := 9) h dX9_anchored_9 (fun v3 h => ?_)
    refine r_lconst0 (pc := 10) dX9_anchored_10 ?_
    refine r_ldc2 (n := 3) (pc := 11) dX9_anchored_11 kc_X9_96 ?_
    refine r_callSs (pc := 14) (fun v => some (sj_i v)) (As := [sj_j v3, sj_j 0, sj_j 3]) (rest := []) h dX9_anchored_14 mw_X9_57 kw_1225 (fun _ _ hc => cg_X9_isIn  hc) rfl ⟨(Nat.le_of_ble_eq_true rfl), (Nat.le_of_ble_eq_true rfl)⟩ (Nat.le_of_ble_eq_true rfl) rfl (fun v5 V4 h => ?_)
    refine r_if_ne (pc := 17) (tgt := 22) h dX9_anchored_17 (by decide) (fun h => ?_) (fun h => ?_)
    · refine r_iconst (pc := 20) dX9_anchored_20 ?_
      exact r_irets (pc := 21) h rfl dX9_anchored_21
    · refine r_iload_n (pc := 22) dX9_anchored_22 rfl rfl ?_
      refine r_iconst (pc := 23) dX9_anchored_23 ?_
      refine r_icmp_ge (pc := 24) (tgt := 42) h dX9_anchored_24 (by decide) (fun h => ?_) (fun h => ?_)
      · refine r_aload_n (pc := 42) dX9_anchored_42 rfl rfl ?_
        refine r_callVs (pc := 43) (fun v => some (sj_i v)) (As := []) (rest := []) (b := a0) (ok9 ha0) h dX9_anchored_43 mw_X9_277 vw_X9_takesSlip (fun _ _ hc => cg_X9_takesSlip ha0 hc) rfl ⟨(Nat.le_of_ble_eq_true rfl), (Nat.le_of_ble_eq_true rfl)⟩ (Nat.le_of_ble_eq_true rfl) rfl (fun v7 V6 h => ?_)
        refine r_if_eq (pc := 46) (tgt := 61) h dX9_anchored_46 (by decide) (fun h => ?_) (fun h => ?_)
        · refine r_iconst (pc := 61) dX9_anchored_61 ?_
          exact r_irets (pc := 62) h rfl dX9_anchored_62
        · refine r_aload_n (pc := 49) dX9_anchored_49 rfl rfl ?_
          refine r_iload_n (pc := 50) dX9_anchored_50 rfl rfl ?_
          refine r_callVs (pc := 51) (fun v => some (sj_i v)) (As := [sj_i x1]) (rest := []) (b := a0) (ok9 ha0) h dX9_anchored_51 mw_X9_161 vw_X9_isCounting (fun _ _ hc => cg_X9_isCounting ha0 hc) rfl ⟨(Nat.le_of_ble_eq_true rfl), (Nat.le_of_ble_eq_true rfl)⟩ (Nat.le_of_ble_eq_true rfl) rfl (fun v9 V8 h => ?_)
          refine r_if_eq (pc := 54) (tgt := 61) h dX9_anchored_54 (by decide) (fun h => ?_) (fun h => ?_)
          · refine r_iconst (pc := 61) dX9_anchored_61 ?_
            exact r_irets (pc := 62) h rfl dX9_anchored_62
          · refine r_iconst (pc := 57) dX9_anchored_57 ?_
            refine r_goto (pc := 58) (tgt := 62) dX9_anchored_58 (by decide) ?_
            exact r_irets (pc := 62) h rfl dX9_anchored_62
      · refine r_aload_n (pc := 27) dX9_anchored_27 rfl rfl ?_
        refine r_gRs (b := a0 + 1) (pc := 28) dX9_anchored_28 fw_X9_9 rfl (ok9 ha0) (ok9_0 ha0).1 ?_
        refine r_sipush (pc := 31) dX9_anchored_31 ⟨by decide, by decide⟩ ?_
        refine r_iconst (pc := 34) dX9_anchored_34 ?_
        refine r_iload_n (pc := 35) dX9_anchored_35 rfl rfl ?_
        refine r_imul (pc := 36) dX9_anchored_36 ?_
        refine r_iadd (pc := 37) dX9_anchored_37 ?_
        refine r_iload_n (pc := 38) dX9_anchored_38 rfl rfl ?_
        refine r_iadd (pc := 39) dX9_anchored_39 ?_
        refine r_ialoads (pc := 40) h dX9_anchored_40 (ok9_0 ha0).2 (fun h => ?_)
        exact r_irets (pc := 41) h rfl dX9_anchored_41
set_option maxHeartbeats 4000000 in
theorem cg_X9_anchored {X : sj_X} {g : sj_G} {N : Nat} {a0 : Nat} {x1 : Int} {x2 : Int} {V : sj_VV} {q : Int × sj_VV} (ha0 : OK9 g a0) (h : g_X9_anchored N a0 x1 x2 V = some q) : sj_C X m_X9_anchored [sj_r (some a0), sj_i x1, sj_i x2] (g, V) (some (sj_i q.1), (g, q.2)) :=
  sj_C_of (by decide +kernel) (Nat.le_of_ble_eq_true rfl) (lo := [some (sj_r (some a0)), some (sj_i x1), some (sj_i x2)]) rfl (sj_weak (l2 := [some (sj_r (some a0)), some (sj_i x1), some (sj_i x2)]) (⟨rfl, ⟨rfl, ⟨rfl, trivial⟩⟩⟩) (st_X9_anchored_0 a0 x1 x2 V ha0 h))
set_option maxHeartbeats 4000000 in
theorem c_X9_anchored {X : sj_X} {N : Nat} {a0 : Nat} {x1 : Int} {x2 : Int} {s : sj_Mem} {q : Int × sj_Mem} (h : f_X9_anchored N a0 x1 x2 s = some q) : sj_C X m_X9_anchored [sj_r (some a0), sj_i x1, sj_i x2] s (some (sj_i q.1), q.2) := by
  obtain ⟨g, V⟩ := s
  unfold f_X9_anchored at h
  obtain ⟨ho, h1⟩ := e_ok_some h
  obtain ⟨q2, h2, rfl⟩ := sj_map_some h1
  exact cg_X9_anchored ho h2
theorem dX9_layer_0 : decode cX9_layer 0 = .ok (.iload_n 1, 1) := by decide +kernel
theorem dX9_layer_1 : decode cX9_layer 1 = .ok (.i2l, 1) := by decide +kernel
theorem dX9_layer_2 : decode cX9_layer 2 = .ok (.lconst 0, 1) := by decide +kernel
theorem dX9_layer_3 : decode cX9_layer 3 = .ok (.ldc2_w 96, 3) := by decide +kernel
theorem dX9_layer_6 : decode cX9_layer 6 = .ok (.invokestatic 57, 3) := by decide +kernel
theorem dX9_layer_9 : decode cX9_layer 9 = .ok (.ifCond .eq 32, 3) := by decide +kernel
theorem dX9_layer_12 : decode cX9_layer 12 = .ok (.iload_n 2, 1) := by decide +kernel
theorem dX9_layer_13 : decode cX9_layer 13 = .ok (.i2l, 1) := by decide +kernel
theorem dX9_layer_14 : decode cX9_layer 14 = .ok (.lconst 0, 1) := by decide +kernel
theorem dX9_layer_15 : decode cX9_layer 15 = .ok (.ldc2_w 265, 3) := by decide +kernel
theorem dX9_layer_18 : decode cX9_layer 18 = .ok (.invokestatic 57, 3) := by decide +kernel
theorem dX9_layer_21 : decode cX9_layer 21 = .ok (.ifCond .eq 20, 3) := by decide +kernel
theorem dX9_layer_24 : decode cX9_layer 24 = .ok (.aload_n 0, 1) := by decide +kernel
theorem dX9_layer_25 : decode cX9_layer 25 = .ok (.getfield 9, 3) := by decide +kernel
theorem dX9_layer_28 : decode cX9_layer 28 = .ok (.sipush 290, 3) := by decide +kernel
theorem dX9_layer_31 : decode cX9_layer 31 = .ok (.iconst 3, 1) := by decide +kernel
theorem dX9_layer_32 : decode cX9_layer 32 = .ok (.iload_n 1, 1) := by decide +kernel
theorem dX9_layer_33 : decode cX9_layer 33 = .ok (.imul, 1) := by decide +kernel
theorem dX9_layer_34 : decode cX9_layer 34 = .ok (.iadd, 1) := by decide +kernel
theorem dX9_layer_35 : decode cX9_layer 35 = .ok (.iload_n 2, 1) := by decide +kernel
theorem dX9_layer_36 : decode cX9_layer 36 = .ok (.iadd, 1) := by decide +kernel
theorem dX9_layer_37 : decode cX9_layer 37 = .ok (.iaload, 1) := by decide +kernel
theorem dX9_layer_38 : decode cX9_layer 38 = .ok (.goto 4, 3) := by decide +kernel
theorem dX9_layer_41 : decode cX9_layer 41 = .ok (.iconst (-1), 1) := by decide +kernel
theorem dX9_layer_42 : decode cX9_layer 42 = .ok (.ireturn, 1) := by decide +kernel
set_option maxHeartbeats 4000000 in
theorem st_X9_layer_0 {X : sj_X} {g : sj_G} {s0 : sj_Mem} {N : Nat} {q : Int × sj_VV} :
    ∀ (a0 : Nat) (x1 : Int) (x2 : Int) (V : sj_VV), OK9 g a0 → g_X9_layer N a0 x1 x2 V = some q → sj_T X m_X9_layer s0 (some (sj_i q.1), (g, q.2)) 0 [some (sj_r (some a0)), some (sj_i x1), some (sj_i x2)] [] (g, V) := by
  intro a0 x1 x2 V ha0 h
  unfold g_X9_layer at h
  refine r_iload_n (pc := 0) dX9_layer_0 rfl rfl ?_
  refine r_i2l (pc := 1) h dX9_layer_1 (fun v1 h => ?_)
  refine r_lconst0 (pc := 2) dX9_layer_2 ?_
  refine r_ldc2 (n := 3) (pc := 3) dX9_layer_3 kc_X9_96 ?_
  refine r_callSs (pc := 6) (fun v => some (sj_i v)) (As := [sj_j v1, sj_j 0, sj_j 3]) (rest := []) h dX9_layer_6 mw_X9_57 kw_1225 (fun _ _ hc => cg_X9_isIn  hc) rfl ⟨(Nat.le_of_ble_eq_true rfl), (Nat.le_of_ble_eq_true rfl)⟩ (Nat.le_of_ble_eq_true rfl) rfl (fun v3 V2 h => ?_)
  refine r_if_eq (pc := 9) (tgt := 41) h dX9_layer_9 (by decide) (fun h => ?_) (fun h => ?_)
  · refine r_iconst (pc := 41) dX9_layer_41 ?_
    exact r_irets (pc := 42) h rfl dX9_layer_42
  · refine r_iload_n (pc := 12) dX9_layer_12 rfl rfl ?_
    refine r_i2l (pc := 13) h dX9_layer_13 (fun v4 h => ?_)
    refine r_lconst0 (pc := 14) dX9_layer_14 ?_
    refine r_ldc2 (n := 2) (pc := 15) dX9_layer_15 kc_X9_265 ?_
    refine r_callSs (pc := 18) (fun v => some (sj_i v)) (As := [sj_j v4, sj_j 0, sj_j 2]) (rest := []) h dX9_layer_18 mw_X9_57 kw_1225 (fun _ _ hc => cg_X9_isIn  hc) rfl ⟨(Nat.le_of_ble_eq_true rfl), (Nat.le_of_ble_eq_true rfl)⟩ (Nat.le_of_ble_eq_true rfl) rfl (fun v6 V5 h => ?_)
    refine r_if_eq (pc := 21) (tgt := 41) h dX9_layer_21 (by decide) (fun h => ?_) (fun h => ?_)
    · refine r_iconst (pc := 41) dX9_layer_41 ?_
      exact r_irets (pc := 42) h rfl dX9_layer_42
    · refine r_aload_n (pc := 24) dX9_layer_24 rfl rfl ?_
      refine r_gRs (b := a0 + 1) (pc := 25) dX9_layer_25 fw_X9_9 rfl (ok9 ha0) (ok9_0 ha0).1 ?_
      refine r_sipush (pc := 28) dX9_layer_28 ⟨by decide, by decide⟩ ?_
      refine r_iconst (pc := 31) dX9_layer_31 ?_
      refine r_iload_n (pc := 32) dX9_layer_32 rfl rfl ?_
      refine r_imul (pc := 33) dX9_layer_33 ?_
      refine r_iadd (pc := 34) dX9_layer_34 ?_
      refine r_iload_n (pc := 35) dX9_layer_35 rfl rfl ?_
      refine r_iadd (pc := 36) dX9_layer_36 ?_
      refine r_ialoads (pc := 37) h dX9_layer_37 (ok9_0 ha0).2 (fun h => ?_)
      refine r_goto (pc := 38) (tgt := 42) dX9_layer_38 (by decide) ?_
      exact r_irets (pc := 42) h rfl dX9_layer_42
set_option maxHeartbeats 4000000 in
theorem cg_X9_layer {X : sj_X} {g : sj_G} {N : Nat} {a0 : Nat} {x1 : Int} {x2 : Int} {V : sj_VV} {q : Int × sj_VV} (ha0 : OK9 g a0) (h : g_X9_layer N a0 x1 x2 V = some q) : sj_C X m_X9_layer [sj_r (some a0), sj_i x1, sj_i x2] (g, V) (some (sj_i q.1), (g, q.2)) :=
  sj_C_of (by decide +kernel) (Nat.le_of_ble_eq_true rfl) (lo := [some (sj_r (some a0)), some (sj_i x1), some (sj_i x2)]) rfl (sj_weak (l2 := [some (sj_r (some a0)), some (sj_i x1), some (sj_i x2)]) (⟨rfl, ⟨rfl, ⟨rfl, trivial⟩⟩⟩) (st_X9_layer_0 a0 x1 x2 V ha0 h))
set_option maxHeartbeats 4000000 in
theorem c_X9_layer {X : sj_X} {N : Nat} {a0 : Nat} {x1 : Int} {x2 : Int} {s : sj_Mem} {q : Int × sj_Mem} (h : f_X9_layer N a0 x1 x2 s = some q) : sj_C X m_X9_layer [sj_r (some a0), sj_i x1, sj_i x2] s (some (sj_i q.1), q.2) := by
  obtain ⟨g, V⟩ := s
  unfold f_X9_layer at h
  obtain ⟨ho, h1⟩ := e_ok_some h
  obtain ⟨q2, h2, rfl⟩ := sj_map_some h1
  exact cg_X9_layer ho h2
