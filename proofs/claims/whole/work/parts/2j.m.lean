theorem dX9_line_0 : decode cX9_line 0 = .ok (.aload_n 0, 1) := by decide +kernel
theorem dX9_line_1 : decode cX9_line 1 = .ok (.getfield 349, 3) := by decide +kernel
theorem dX9_line_4 : decode cX9_line 4 = .ok (.istore_n 1, 1) := by decide +kernel
theorem dX9_line_5 : decode cX9_line 5 = .ok (.aload_n 0, 1) := by decide +kernel
theorem dX9_line_6 : decode cX9_line 6 = .ok (.invokevirtual 389, 3) := by decide +kernel
theorem dX9_line_9 : decode cX9_line 9 = .ok (.istore_n 2, 1) := by decide +kernel
theorem dX9_line_10 : decode cX9_line 10 = .ok (.iload_n 2, 1) := by decide +kernel
theorem dX9_line_11 : decode cX9_line 11 = .ok (.iconst (-1), 1) := by decide +kernel
theorem dX9_line_12 : decode cX9_line 12 = .ok (.if_icmp .ne 9, 3) := by decide +kernel
theorem dX9_line_15 : decode cX9_line 15 = .ok (.aload_n 0, 1) := by decide +kernel
theorem dX9_line_16 : decode cX9_line 16 = .ok (.iconst 1, 1) := by decide +kernel
theorem dX9_line_17 : decode cX9_line 17 = .ok (.iload_n 1, 1) := by decide +kernel
theorem dX9_line_18 : decode cX9_line 18 = .ok (.invokevirtual 362, 3) := by decide +kernel
theorem dX9_line_21 : decode cX9_line 21 = .ok (.iload_n 2, 1) := by decide +kernel
theorem dX9_line_22 : decode cX9_line 22 = .ok (.i2l, 1) := by decide +kernel
theorem dX9_line_23 : decode cX9_line 23 = .ok (.lconst 0, 1) := by decide +kernel
theorem dX9_line_24 : decode cX9_line 24 = .ok (.ldc2_w 64, 3) := by decide +kernel
theorem dX9_line_27 : decode cX9_line 27 = .ok (.invokestatic 57, 3) := by decide +kernel
theorem dX9_line_30 : decode cX9_line 30 = .ok (.ifCond .eq 9, 3) := by decide +kernel
theorem dX9_line_33 : decode cX9_line 33 = .ok (.aload_n 0, 1) := by decide +kernel
theorem dX9_line_34 : decode cX9_line 34 = .ok (.iload_n 2, 1) := by decide +kernel
theorem dX9_line_35 : decode cX9_line 35 = .ok (.iload_n 1, 1) := by decide +kernel
theorem dX9_line_36 : decode cX9_line 36 = .ok (.invokevirtual 386, 3) := by decide +kernel
theorem dX9_line_39 : decode cX9_line 39 = .ok (.aload_n 0, 1) := by decide +kernel
theorem dX9_line_40 : decode cX9_line 40 = .ok (.aload_n 0, 1) := by decide +kernel
theorem dX9_line_41 : decode cX9_line 41 = .ok (.invokevirtual 376, 3) := by decide +kernel
theorem dX9_line_44 : decode cX9_line 44 = .ok (.putfield 349, 3) := by decide +kernel
theorem dX9_line_47 : decode cX9_line 47 = .ok (.aload_n 0, 1) := by decide +kernel
theorem dX9_line_48 : decode cX9_line 48 = .ok (.getfield 346, 3) := by decide +kernel
theorem dX9_line_51 : decode cX9_line 51 = .ok (.ifCond .eq 4, 3) := by decide +kernel
theorem dX9_line_54 : decode cX9_line 54 = .ok (.return_, 1) := by decide +kernel
theorem dX9_line_55 : decode cX9_line 55 = .ok (.iload_n 2, 1) := by decide +kernel
theorem dX9_line_56 : decode cX9_line 56 = .ok (.tableswitch 156 0 6 #[44, 54, 65, 76, 88, 105, 149], 44) := by decide +kernel
theorem dX9_line_100 : decode cX9_line 100 = .ok (.aload_n 0, 1) := by decide +kernel
theorem dX9_line_101 : decode cX9_line 101 = .ok (.iconst 3, 1) := by decide +kernel
theorem dX9_line_102 : decode cX9_line 102 = .ok (.bipush 100, 2) := by decide +kernel
theorem dX9_line_104 : decode cX9_line 104 = .ok (.invokevirtual 392, 3) := by decide +kernel
theorem dX9_line_107 : decode cX9_line 107 = .ok (.goto 109, 3) := by decide +kernel
theorem dX9_line_110 : decode cX9_line 110 = .ok (.aload_n 0, 1) := by decide +kernel
theorem dX9_line_111 : decode cX9_line 111 = .ok (.bipush 44, 2) := by decide +kernel
theorem dX9_line_113 : decode cX9_line 113 = .ok (.bipush 100, 2) := by decide +kernel
theorem dX9_line_115 : decode cX9_line 115 = .ok (.invokevirtual 392, 3) := by decide +kernel
theorem dX9_line_118 : decode cX9_line 118 = .ok (.goto 98, 3) := by decide +kernel
theorem dX9_line_121 : decode cX9_line 121 = .ok (.aload_n 0, 1) := by decide +kernel
theorem dX9_line_122 : decode cX9_line 122 = .ok (.bipush 85, 2) := by decide +kernel
theorem dX9_line_124 : decode cX9_line 124 = .ok (.bipush 100, 2) := by decide +kernel
theorem dX9_line_126 : decode cX9_line 126 = .ok (.invokevirtual 392, 3) := by decide +kernel
theorem dX9_line_129 : decode cX9_line 129 = .ok (.goto 87, 3) := by decide +kernel
theorem dX9_line_132 : decode cX9_line 132 = .ok (.aload_n 0, 1) := by decide +kernel
theorem dX9_line_133 : decode cX9_line 133 = .ok (.bipush 126, 2) := by decide +kernel
theorem dX9_line_135 : decode cX9_line 135 = .ok (.sipush 500, 3) := by decide +kernel
theorem dX9_line_138 : decode cX9_line 138 = .ok (.invokevirtual 392, 3) := by decide +kernel
theorem dX9_line_141 : decode cX9_line 141 = .ok (.goto 75, 3) := by decide +kernel
theorem dX9_line_144 : decode cX9_line 144 = .ok (.aload_n 0, 1) := by decide +kernel
theorem dX9_line_145 : decode cX9_line 145 = .ok (.getfield 9, 3) := by decide +kernel
theorem dX9_line_148 : decode cX9_line 148 = .ok (.iconst 2, 1) := by decide +kernel
theorem dX9_line_149 : decode cX9_line 149 = .ok (.aload_n 0, 1) := by decide +kernel
theorem dX9_line_150 : decode cX9_line 150 = .ok (.iconst 0, 1) := by decide +kernel
theorem dX9_line_151 : decode cX9_line 151 = .ok (.sipush 500, 3) := by decide +kernel
theorem dX9_line_154 : decode cX9_line 154 = .ok (.invokevirtual 383, 3) := by decide +kernel
theorem dX9_line_157 : decode cX9_line 157 = .ok (.iastore, 1) := by decide +kernel
theorem dX9_line_158 : decode cX9_line 158 = .ok (.goto 58, 3) := by decide +kernel
theorem dX9_line_161 : decode cX9_line 161 = .ok (.aload_n 0, 1) := by decide +kernel
theorem dX9_line_162 : decode cX9_line 162 = .ok (.iconst 1, 1) := by decide +kernel
theorem dX9_line_163 : decode cX9_line 163 = .ok (.iconst 3, 1) := by decide +kernel
theorem dX9_line_164 : decode cX9_line 164 = .ok (.invokevirtual 383, 3) := by decide +kernel
theorem dX9_line_167 : decode cX9_line 167 = .ok (.istore_n 3, 1) := by decide +kernel
theorem dX9_line_168 : decode cX9_line 168 = .ok (.aload_n 0, 1) := by decide +kernel
theorem dX9_line_169 : decode cX9_line 169 = .ok (.iconst 4, 1) := by decide +kernel
theorem dX9_line_170 : decode cX9_line 170 = .ok (.iload_n 3, 1) := by decide +kernel
theorem dX9_line_171 : decode cX9_line 171 = .ok (.iadd, 1) := by decide +kernel
theorem dX9_line_172 : decode cX9_line 172 = .ok (.aload_n 0, 1) := by decide +kernel
theorem dX9_line_173 : decode cX9_line 173 = .ok (.getfield 368, 3) := by decide +kernel
theorem dX9_line_176 : decode cX9_line 176 = .ok (.invokevirtual 386, 3) := by decide +kernel
theorem dX9_line_179 : decode cX9_line 179 = .ok (.aload_n 0, 1) := by decide +kernel
theorem dX9_line_180 : decode cX9_line 180 = .ok (.getfield 346, 3) := by decide +kernel
theorem dX9_line_183 : decode cX9_line 183 = .ok (.ifCond .ne 33, 3) := by decide +kernel
theorem dX9_line_186 : decode cX9_line 186 = .ok (.aload_n 0, 1) := by decide +kernel
theorem dX9_line_187 : decode cX9_line 187 = .ok (.sipush 167, 3) := by decide +kernel
theorem dX9_line_190 : decode cX9_line 190 = .ok (.bipush 41, 2) := by decide +kernel
theorem dX9_line_192 : decode cX9_line 192 = .ok (.iload_n 3, 1) := by decide +kernel
theorem dX9_line_193 : decode cX9_line 193 = .ok (.iconst 1, 1) := by decide +kernel
theorem dX9_line_194 : decode cX9_line 194 = .ok (.isub, 1) := by decide +kernel
theorem dX9_line_195 : decode cX9_line 195 = .ok (.imul, 1) := by decide +kernel
theorem dX9_line_196 : decode cX9_line 196 = .ok (.iadd, 1) := by decide +kernel
theorem dX9_line_197 : decode cX9_line 197 = .ok (.bipush 100, 2) := by decide +kernel
theorem dX9_line_199 : decode cX9_line 199 = .ok (.invokevirtual 392, 3) := by decide +kernel
theorem dX9_line_202 : decode cX9_line 202 = .ok (.goto 14, 3) := by decide +kernel
theorem dX9_line_205 : decode cX9_line 205 = .ok (.aload_n 0, 1) := by decide +kernel
theorem dX9_line_206 : decode cX9_line 206 = .ok (.invokevirtual 395, 3) := by decide +kernel
theorem dX9_line_209 : decode cX9_line 209 = .ok (.goto 7, 3) := by decide +kernel
theorem dX9_line_212 : decode cX9_line 212 = .ok (.aload_n 0, 1) := by decide +kernel
theorem dX9_line_213 : decode cX9_line 213 = .ok (.invokevirtual 398, 3) := by decide +kernel
theorem dX9_line_216 : decode cX9_line 216 = .ok (.aload_n 0, 1) := by decide +kernel
theorem dX9_line_217 : decode cX9_line 217 = .ok (.bipush 59, 2) := by decide +kernel
theorem dX9_line_219 : decode cX9_line 219 = .ok (.invokevirtual 401, 3) := by decide +kernel
theorem dX9_line_222 : decode cX9_line 222 = .ok (.return_, 1) := by decide +kernel
set_option maxHeartbeats 4000000 in
theorem st_X9_line_216 {X : sj_X} {g : sj_G} {s0 : sj_Mem} {N : Nat} {q : Unit × sj_VV} :
    ∀ (a0 : Nat) (V : sj_VV), OK9 g a0 → g_X9_line_216 N a0 V = some q → sj_T X m_X9_line s0 (none, (g, q.2)) 216 [some (sj_r (some a0)), none, none, none] [] (g, V) := by
  intro a0 V ha0 h
  unfold g_X9_line_216 at h
  refine r_aload_n (pc := 216) dX9_line_216 rfl rfl ?_
  refine r_bipush (pc := 217) dX9_line_217 ⟨by decide, by decide⟩ ?_
  refine r_callVs (pc := 219) (fun _ => none) (As := [sj_i 59]) (rest := []) (b := a0) (ok9 ha0) h dX9_line_219 mw_X9_401 vw_X9_must (fun _ _ hc => cg_X9_must ha0 hc) rfl ⟨(Nat.le_of_ble_eq_true rfl), (Nat.le_of_ble_eq_true rfl)⟩ (Nat.le_of_ble_eq_true rfl) rfl (fun _u V1 h => ?_)
  exact r_vrets (pc := 222) h rfl dX9_line_222
set_option maxHeartbeats 4000000 in
theorem st_X9_line_39 {X : sj_X} {g : sj_G} {s0 : sj_Mem} {N : Nat} {q : Unit × sj_VV} :
    ∀ (a0 : Nat) (x2 : Int) (V : sj_VV), OK9 g a0 → g_X9_line_39 N a0 x2 V = some q → sj_T X m_X9_line s0 (none, (g, q.2)) 39 [some (sj_r (some a0)), none, some (sj_i x2), none] [] (g, V) := by
  intro a0 x2 V ha0 h
  unfold g_X9_line_39 at h
  refine r_aload_n (pc := 39) dX9_line_39 rfl rfl ?_
  refine r_aload_n (pc := 40) dX9_line_40 rfl rfl ?_
  refine r_callVs (pc := 41) (fun v => some (sj_i v)) (As := []) (rest := [(sj_r (some a0))]) (b := a0) (ok9 ha0) h dX9_line_41 mw_X9_376 vw_X9_wordEnd (fun _ _ hc => cg_X9_wordEnd ha0 hc) rfl ⟨(Nat.le_of_ble_eq_true rfl), (Nat.le_of_ble_eq_true rfl)⟩ (Nat.le_of_ble_eq_true rfl) rfl (fun v2 V1 h => ?_)
  refine r_pIs (pc := 44) h dX9_line_44 fw_X9_349 rfl rfl (nf9_29) (ok9 ha0) (fun V3 h => ?_)
  refine r_aload_n (pc := 47) dX9_line_47 rfl rfl ?_
  refine r_gIs (pc := 48) dX9_line_48 fw_X9_346 rfl (ok9 ha0) ?_
  refine r_if_eq (pc := 51) (tgt := 55) h dX9_line_51 (by decide) (fun h => ?_) (fun h => ?_)
  · refine r_iload_n (pc := 55) dX9_line_55 rfl rfl ?_
    obtain ⟨hr, h⟩ := e_sw_some h
    refine sj_if h (fun c0 h => ?_) (fun c0 h => ?_)
    · refine r_tcase (pc := 56) (tgt := 100) (j := 0) hr c0 dX9_line_56 (by decide) (by decide) rfl (by decide) ?_
      refine r_aload_n (pc := 100) dX9_line_100 rfl rfl ?_
      refine r_iconst (pc := 101) dX9_line_101 ?_
      refine r_bipush (pc := 102) dX9_line_102 ⟨by decide, by decide⟩ ?_
      refine r_callVs (pc := 104) (fun _ => none) (As := [sj_i 3, sj_i 100]) (rest := []) (b := a0) (ok9 ha0) h dX9_line_104 mw_X9_392 vw_X9_runs (fun _ _ hc => cg_X9_runs ha0 hc) rfl ⟨(Nat.le_of_ble_eq_true rfl), (Nat.le_of_ble_eq_true rfl)⟩ (Nat.le_of_ble_eq_true rfl) rfl (fun _u V4 h => ?_)
      refine r_goto (pc := 107) (tgt := 216) dX9_line_107 (by decide) ?_
      exact sj_weak (l2 := [some (sj_r (some a0)), none, none, none]) (⟨rfl, trivial⟩) (st_X9_line_216 a0 V4 ha0 h)
    refine sj_if h (fun c1 h => ?_) (fun c1 h => ?_)
    · refine r_tcase (pc := 56) (tgt := 110) (j := 1) hr c1 dX9_line_56 (by decide) (by decide) rfl (by decide) ?_
      refine r_aload_n (pc := 110) dX9_line_110 rfl rfl ?_
      refine r_bipush (pc := 111) dX9_line_111 ⟨by decide, by decide⟩ ?_
      refine r_bipush (pc := 113) dX9_line_113 ⟨by decide, by decide⟩ ?_
      refine r_callVs (pc := 115) (fun _ => none) (As := [sj_i 44, sj_i 100]) (rest := []) (b := a0) (ok9 ha0) h dX9_line_115 mw_X9_392 vw_X9_runs (fun _ _ hc => cg_X9_runs ha0 hc) rfl ⟨(Nat.le_of_ble_eq_true rfl), (Nat.le_of_ble_eq_true rfl)⟩ (Nat.le_of_ble_eq_true rfl) rfl (fun _u V5 h => ?_)
      refine r_goto (pc := 118) (tgt := 216) dX9_line_118 (by decide) ?_
      exact sj_weak (l2 := [some (sj_r (some a0)), none, none, none]) (⟨rfl, trivial⟩) (st_X9_line_216 a0 V5 ha0 h)
    refine sj_if h (fun c2 h => ?_) (fun c2 h => ?_)
    · refine r_tcase (pc := 56) (tgt := 121) (j := 2) hr c2 dX9_line_56 (by decide) (by decide) rfl (by decide) ?_
      refine r_aload_n (pc := 121) dX9_line_121 rfl rfl ?_
      refine r_bipush (pc := 122) dX9_line_122 ⟨by decide, by decide⟩ ?_
      refine r_bipush (pc := 124) dX9_line_124 ⟨by decide, by decide⟩ ?_
      refine r_callVs (pc := 126) (fun _ => none) (As := [sj_i 85, sj_i 100]) (rest := []) (b := a0) (ok9 ha0) h dX9_line_126 mw_X9_392 vw_X9_runs (fun _ _ hc => cg_X9_runs ha0 hc) rfl ⟨(Nat.le_of_ble_eq_true rfl), (Nat.le_of_ble_eq_true rfl)⟩ (Nat.le_of_ble_eq_true rfl) rfl (fun _u V6 h => ?_)
      refine r_goto (pc := 129) (tgt := 216) dX9_line_129 (by decide) ?_
      exact sj_weak (l2 := [some (sj_r (some a0)), none, none, none]) (⟨rfl, trivial⟩) (st_X9_line_216 a0 V6 ha0 h)
    refine sj_if h (fun c3 h => ?_) (fun c3 h => ?_)
    · refine r_tcase (pc := 56) (tgt := 132) (j := 3) hr c3 dX9_line_56 (by decide) (by decide) rfl (by decide) ?_
      refine r_aload_n (pc := 132) dX9_line_132 rfl rfl ?_
      refine r_bipush (pc := 133) dX9_line_133 ⟨by decide, by decide⟩ ?_
      refine r_sipush (pc := 135) dX9_line_135 ⟨by decide, by decide⟩ ?_
      refine r_callVs (pc := 138) (fun _ => none) (As := [sj_i 126, sj_i 500]) (rest := []) (b := a0) (ok9 ha0) h dX9_line_138 mw_X9_392 vw_X9_runs (fun _ _ hc => cg_X9_runs ha0 hc) rfl ⟨(Nat.le_of_ble_eq_true rfl), (Nat.le_of_ble_eq_true rfl)⟩ (Nat.le_of_ble_eq_true rfl) rfl (fun _u V7 h => ?_)
      refine r_goto (pc := 141) (tgt := 216) dX9_line_141 (by decide) ?_
      exact sj_weak (l2 := [some (sj_r (some a0)), none, none, none]) (⟨rfl, trivial⟩) (st_X9_line_216 a0 V7 ha0 h)
    refine sj_if h (fun c4 h => ?_) (fun c4 h => ?_)
    · refine r_tcase (pc := 56) (tgt := 144) (j := 4) hr c4 dX9_line_56 (by decide) (by decide) rfl (by decide) ?_
      refine r_aload_n (pc := 144) dX9_line_144 rfl rfl ?_
      refine r_gRs (b := a0 + 1) (pc := 145) dX9_line_145 fw_X9_9 rfl (ok9 ha0) (ok9_0 ha0).1 ?_
      refine r_iconst (pc := 148) dX9_line_148 ?_
      refine r_aload_n (pc := 149) dX9_line_149 rfl rfl ?_
      refine r_iconst (pc := 150) dX9_line_150 ?_
      refine r_sipush (pc := 151) dX9_line_151 ⟨by decide, by decide⟩ ?_
      refine r_callVs (pc := 154) (fun v => some (sj_i v)) (As := [sj_i 0, sj_i 500]) (rest := [(sj_i 2), (sj_r (some (a0 + 1)))]) (b := a0) (ok9 ha0) h dX9_line_154 mw_X9_383 vw_X9_number (fun _ _ hc => cg_X9_number ha0 hc) rfl ⟨(Nat.le_of_ble_eq_true rfl), (Nat.le_of_ble_eq_true rfl)⟩ (Nat.le_of_ble_eq_true rfl) rfl (fun v9 V8 h => ?_)
      refine r_iastores (pc := 157) h dX9_line_157 (ok9_0 ha0).2 (fun V10 h => ?_)
      refine r_goto (pc := 158) (tgt := 216) dX9_line_158 (by decide) ?_
      exact sj_weak (l2 := [some (sj_r (some a0)), none, none, none]) (⟨rfl, trivial⟩) (st_X9_line_216 a0 V10 ha0 h)
    refine sj_if h (fun c5 h => ?_) (fun c5 h => ?_)
    · refine r_tcase (pc := 56) (tgt := 161) (j := 5) hr c5 dX9_line_56 (by decide) (by decide) rfl (by decide) ?_
      refine r_aload_n (pc := 161) dX9_line_161 rfl rfl ?_
      refine r_iconst (pc := 162) dX9_line_162 ?_
      refine r_iconst (pc := 163) dX9_line_163 ?_
      refine r_callVs (pc := 164) (fun v => some (sj_i v)) (As := [sj_i 1, sj_i 3]) (rest := []) (b := a0) (ok9 ha0) h dX9_line_164 mw_X9_383 vw_X9_number (fun _ _ hc => cg_X9_number ha0 hc) rfl ⟨(Nat.le_of_ble_eq_true rfl), (Nat.le_of_ble_eq_true rfl)⟩ (Nat.le_of_ble_eq_true rfl) rfl (fun v12 V11 h => ?_)
      refine r_istore_n (ln := [some (sj_r (some a0)), none, some (sj_i x2), some (sj_i v12)]) (pc := 167) dX9_line_167 rfl (Nat.le_of_ble_eq_true rfl) rfl ?_
      refine r_aload_n (pc := 168) dX9_line_168 rfl rfl ?_
      refine r_iconst (pc := 169) dX9_line_169 ?_
      refine r_iload_n (pc := 170) dX9_line_170 rfl rfl ?_
      refine r_iadd (pc := 171) dX9_line_171 ?_
      refine r_aload_n (pc := 172) dX9_line_172 rfl rfl ?_
      refine r_gIs (pc := 173) dX9_line_173 fw_X9_368 rfl (ok9 ha0) ?_
      refine r_callVs (pc := 176) (fun _ => none) (As := [sj_i (4 + v12), sj_i (V11 a0 33)]) (rest := []) (b := a0) (ok9 ha0) h dX9_line_176 mw_X9_386 vw_X9_tells (fun _ _ hc => cg_X9_tells ha0 hc) rfl ⟨(Nat.le_of_ble_eq_true rfl), (Nat.le_of_ble_eq_true rfl)⟩ (Nat.le_of_ble_eq_true rfl) rfl (fun _u V13 h => ?_)
      refine r_aload_n (pc := 179) dX9_line_179 rfl rfl ?_
      refine r_gIs (pc := 180) dX9_line_180 fw_X9_346 rfl (ok9 ha0) ?_
      refine r_if_ne (pc := 183) (tgt := 216) h dX9_line_183 (by decide) (fun h => ?_) (fun h => ?_)
      · refine r_aload_n (pc := 186) dX9_line_186 rfl rfl ?_
        refine r_sipush (pc := 187) dX9_line_187 ⟨by decide, by decide⟩ ?_
        refine r_bipush (pc := 190) dX9_line_190 ⟨by decide, by decide⟩ ?_
        refine r_iload_n (pc := 192) dX9_line_192 rfl rfl ?_
        refine r_iconst (pc := 193) dX9_line_193 ?_
        refine r_isub (pc := 194) dX9_line_194 ?_
        refine r_imul (pc := 195) dX9_line_195 ?_
        refine r_iadd (pc := 196) dX9_line_196 ?_
        refine r_bipush (pc := 197) dX9_line_197 ⟨by decide, by decide⟩ ?_
        refine r_callVs (pc := 199) (fun _ => none) (As := [sj_i (167 + (41 * (v12 - 1))), sj_i 100]) (rest := []) (b := a0) (ok9 ha0) h dX9_line_199 mw_X9_392 vw_X9_runs (fun _ _ hc => cg_X9_runs ha0 hc) rfl ⟨(Nat.le_of_ble_eq_true rfl), (Nat.le_of_ble_eq_true rfl)⟩ (Nat.le_of_ble_eq_true rfl) rfl (fun _u V14 h => ?_)
        refine r_goto (pc := 202) (tgt := 216) dX9_line_202 (by decide) ?_
        exact sj_weak (l2 := [some (sj_r (some a0)), none, none, none]) (⟨rfl, trivial⟩) (st_X9_line_216 a0 V14 ha0 h)
      · exact sj_weak (l2 := [some (sj_r (some a0)), none, none, none]) (⟨rfl, trivial⟩) (st_X9_line_216 a0 V13 ha0 h)
    refine sj_if h (fun c6 h => ?_) (fun c6 h => ?_)
    · refine r_tcase (pc := 56) (tgt := 205) (j := 6) hr c6 dX9_line_56 (by decide) (by decide) rfl (by decide) ?_
      refine r_aload_n (pc := 205) dX9_line_205 rfl rfl ?_
      refine r_callVs (pc := 206) (fun _ => none) (As := []) (rest := []) (b := a0) (ok9 ha0) h dX9_line_206 mw_X9_395 vw_X9_soilLine (fun _ _ hc => cg_X9_soilLine ha0 hc) rfl ⟨(Nat.le_of_ble_eq_true rfl), (Nat.le_of_ble_eq_true rfl)⟩ (Nat.le_of_ble_eq_true rfl) rfl (fun _u V15 h => ?_)
      refine r_goto (pc := 209) (tgt := 216) dX9_line_209 (by decide) ?_
      exact sj_weak (l2 := [some (sj_r (some a0)), none, none, none]) (⟨rfl, trivial⟩) (st_X9_line_216 a0 V15 ha0 h)
    refine r_tdflt (pc := 56) (tgt := 212) hr dX9_line_56 (by omega) (by decide) ?_
    refine r_aload_n (pc := 212) dX9_line_212 rfl rfl ?_
    refine r_callVs (pc := 213) (fun _ => none) (As := []) (rest := []) (b := a0) (ok9 ha0) h dX9_line_213 mw_X9_398 vw_X9_anchorLine (fun _ _ hc => cg_X9_anchorLine ha0 hc) rfl ⟨(Nat.le_of_ble_eq_true rfl), (Nat.le_of_ble_eq_true rfl)⟩ (Nat.le_of_ble_eq_true rfl) rfl (fun _u V16 h => ?_)
    exact sj_weak (l2 := [some (sj_r (some a0)), none, none, none]) (⟨rfl, trivial⟩) (st_X9_line_216 a0 V16 ha0 h)
  · exact r_vrets (pc := 54) h rfl dX9_line_54
set_option maxHeartbeats 4000000 in
theorem st_X9_line_21 {X : sj_X} {g : sj_G} {s0 : sj_Mem} {N : Nat} {q : Unit × sj_VV} :
    ∀ (a0 : Nat) (x1 : Int) (x2 : Int) (V : sj_VV), OK9 g a0 → g_X9_line_21 N a0 x1 x2 V = some q → sj_T X m_X9_line s0 (none, (g, q.2)) 21 [some (sj_r (some a0)), some (sj_i x1), some (sj_i x2), none] [] (g, V) := by
  intro a0 x1 x2 V ha0 h
  unfold g_X9_line_21 at h
  refine r_iload_n (pc := 21) dX9_line_21 rfl rfl ?_
  refine r_i2l (pc := 22) h dX9_line_22 (fun v1 h => ?_)
  refine r_lconst0 (pc := 23) dX9_line_23 ?_
  refine r_ldc2 (n := 4) (pc := 24) dX9_line_24 kc_X9_64 ?_
  refine r_callSs (pc := 27) (fun v => some (sj_i v)) (As := [sj_j v1, sj_j 0, sj_j 4]) (rest := []) h dX9_line_27 mw_X9_57 kw_1225 (fun _ _ hc => cg_X9_isIn  hc) rfl ⟨(Nat.le_of_ble_eq_true rfl), (Nat.le_of_ble_eq_true rfl)⟩ (Nat.le_of_ble_eq_true rfl) rfl (fun v3 V2 h => ?_)
  refine r_if_eq (pc := 30) (tgt := 39) h dX9_line_30 (by decide) (fun h => ?_) (fun h => ?_)
  · exact sj_weak (l2 := [some (sj_r (some a0)), none, some (sj_i x2), none]) (⟨rfl, ⟨rfl, trivial⟩⟩) (st_X9_line_39 a0 x2 V2 ha0 h)
  · refine r_aload_n (pc := 33) dX9_line_33 rfl rfl ?_
    refine r_iload_n (pc := 34) dX9_line_34 rfl rfl ?_
    refine r_iload_n (pc := 35) dX9_line_35 rfl rfl ?_
    refine r_callVs (pc := 36) (fun _ => none) (As := [sj_i x2, sj_i x1]) (rest := []) (b := a0) (ok9 ha0) h dX9_line_36 mw_X9_386 vw_X9_tells (fun _ _ hc => cg_X9_tells ha0 hc) rfl ⟨(Nat.le_of_ble_eq_true rfl), (Nat.le_of_ble_eq_true rfl)⟩ (Nat.le_of_ble_eq_true rfl) rfl (fun _u V4 h => ?_)
    exact sj_weak (l2 := [some (sj_r (some a0)), none, some (sj_i x2), none]) (⟨rfl, ⟨rfl, trivial⟩⟩) (st_X9_line_39 a0 x2 V4 ha0 h)
set_option maxHeartbeats 4000000 in
theorem st_X9_line_0 {X : sj_X} {g : sj_G} {s0 : sj_Mem} {N : Nat} {q : Unit × sj_VV} :
    ∀ (a0 : Nat) (V : sj_VV), OK9 g a0 → g_X9_line N a0 V = some q → sj_T X m_X9_line s0 (none, (g, q.2)) 0 [some (sj_r (some a0)), none, none, none] [] (g, V) := by
  intro a0 V ha0 h
  unfold g_X9_line at h
  refine r_aload_n (pc := 0) dX9_line_0 rfl rfl ?_
  refine r_gIs (pc := 1) dX9_line_1 fw_X9_349 rfl (ok9 ha0) ?_
  refine r_istore_nL (ln := fun w => [some (sj_r (some a0)), some (sj_i w), none, none]) (pc := 4) h dX9_line_4 rfl (Nat.le_of_ble_eq_true rfl) (fun _ => rfl) (fun v1 h => ?_)
  refine r_aload_n (pc := 5) dX9_line_5 rfl rfl ?_
  refine r_callVs (pc := 6) (fun v => some (sj_i v)) (As := []) (rest := []) (b := a0) (ok9 ha0) h dX9_line_6 mw_X9_389 vw_X9_word (fun _ _ hc => cg_X9_word ha0 hc) rfl ⟨(Nat.le_of_ble_eq_true rfl), (Nat.le_of_ble_eq_true rfl)⟩ (Nat.le_of_ble_eq_true rfl) rfl (fun v3 V2 h => ?_)
  refine r_istore_n (ln := [some (sj_r (some a0)), some (sj_i v1), some (sj_i v3), none]) (pc := 9) dX9_line_9 rfl (Nat.le_of_ble_eq_true rfl) rfl ?_
  refine r_iload_n (pc := 10) dX9_line_10 rfl rfl ?_
  refine r_iconst (pc := 11) dX9_line_11 ?_
  refine r_icmp_ne (pc := 12) (tgt := 21) h dX9_line_12 (by decide) (fun h => ?_) (fun h => ?_)
  · refine r_aload_n (pc := 15) dX9_line_15 rfl rfl ?_
    refine r_iconst (pc := 16) dX9_line_16 ?_
    refine r_iload_n (pc := 17) dX9_line_17 rfl rfl ?_
    refine r_callVs (pc := 18) (fun _ => none) (As := [sj_i 1, sj_i v1]) (rest := []) (b := a0) (ok9 ha0) h dX9_line_18 mw_X9_362 vw_X9_wrong (fun _ _ hc => cg_X9_wrong ha0 hc) rfl ⟨(Nat.le_of_ble_eq_true rfl), (Nat.le_of_ble_eq_true rfl)⟩ (Nat.le_of_ble_eq_true rfl) rfl (fun _u V4 h => ?_)
    exact sj_weak (l2 := [some (sj_r (some a0)), some (sj_i v1), some (sj_i v3), none]) (⟨rfl, ⟨rfl, ⟨rfl, trivial⟩⟩⟩) (st_X9_line_21 a0 v1 v3 V4 ha0 h)
  · exact sj_weak (l2 := [some (sj_r (some a0)), some (sj_i v1), some (sj_i v3), none]) (⟨rfl, ⟨rfl, ⟨rfl, trivial⟩⟩⟩) (st_X9_line_21 a0 v1 v3 V2 ha0 h)
set_option maxHeartbeats 4000000 in
theorem cg_X9_line {X : sj_X} {g : sj_G} {N : Nat} {a0 : Nat} {V : sj_VV} {q : Unit × sj_VV} (ha0 : OK9 g a0) (h : g_X9_line N a0 V = some q) : sj_C X m_X9_line [sj_r (some a0)] (g, V) (none, (g, q.2)) :=
  sj_C_of (by decide +kernel) (Nat.le_of_ble_eq_true rfl) (lo := [some (sj_r (some a0)), none, none, none]) rfl (sj_weak (l2 := [some (sj_r (some a0)), none, none, none]) (⟨rfl, trivial⟩) (st_X9_line_0 a0 V ha0 h))
set_option maxHeartbeats 4000000 in
theorem c_X9_line {X : sj_X} {N : Nat} {a0 : Nat} {s : sj_Mem} {q : Unit × sj_Mem} (h : f_X9_line N a0 s = some q) : sj_C X m_X9_line [sj_r (some a0)] s (none, q.2) := by
  obtain ⟨g, V⟩ := s
  unfold f_X9_line at h
  obtain ⟨ho, h1⟩ := e_ok_some h
  obtain ⟨q2, h2, rfl⟩ := sj_map_some h1
  exact cg_X9_line ho h2
theorem dX9_reads_0 : decode cX9_reads 0 = .ok (.aload_n 0, 1) := by decide +kernel
theorem dX9_reads_1 : decode cX9_reads 1 = .ok (.invokevirtual 352, 3) := by decide +kernel
theorem dX9_reads_4 : decode cX9_reads 4 = .ok (.aload_n 0, 1) := by decide +kernel
theorem dX9_reads_5 : decode cX9_reads 5 = .ok (.bipush 7, 2) := by decide +kernel
theorem dX9_reads_7 : decode cX9_reads 7 = .ok (.bipush 99, 2) := by decide +kernel
theorem dX9_reads_9 : decode cX9_reads 9 = .ok (.bipush 111, 2) := by decide +kernel
theorem dX9_reads_11 : decode cX9_reads 11 = .ok (.bipush 108, 2) := by decide +kernel
theorem dX9_reads_13 : decode cX9_reads 13 = .ok (.bipush 117, 2) := by decide +kernel
theorem dX9_reads_15 : decode cX9_reads 15 = .ok (.bipush 109, 2) := by decide +kernel
theorem dX9_reads_17 : decode cX9_reads 17 = .ok (.bipush 110, 2) := by decide +kernel
theorem dX9_reads_19 : decode cX9_reads 19 = .ok (.bipush 115, 2) := by decide +kernel
theorem dX9_reads_21 : decode cX9_reads 21 = .ok (.invokevirtual 379, 3) := by decide +kernel
theorem dX9_reads_24 : decode cX9_reads 24 = .ok (.ifCond .eq 17, 3) := by decide +kernel
theorem dX9_reads_27 : decode cX9_reads 27 = .ok (.aload_n 0, 1) := by decide +kernel
theorem dX9_reads_28 : decode cX9_reads 28 = .ok (.dup, 1) := by decide +kernel
theorem dX9_reads_29 : decode cX9_reads 29 = .ok (.getfield 349, 3) := by decide +kernel
theorem dX9_reads_32 : decode cX9_reads 32 = .ok (.bipush 7, 2) := by decide +kernel
theorem dX9_reads_34 : decode cX9_reads 34 = .ok (.iadd, 1) := by decide +kernel
theorem dX9_reads_35 : decode cX9_reads 35 = .ok (.putfield 349, 3) := by decide +kernel
theorem dX9_reads_38 : decode cX9_reads 38 = .ok (.goto 12, 3) := by decide +kernel
theorem dX9_reads_41 : decode cX9_reads 41 = .ok (.aload_n 0, 1) := by decide +kernel
theorem dX9_reads_42 : decode cX9_reads 42 = .ok (.iconst 1, 1) := by decide +kernel
theorem dX9_reads_43 : decode cX9_reads 43 = .ok (.aload_n 0, 1) := by decide +kernel
theorem dX9_reads_44 : decode cX9_reads 44 = .ok (.getfield 349, 3) := by decide +kernel
theorem dX9_reads_47 : decode cX9_reads 47 = .ok (.invokevirtual 362, 3) := by decide +kernel
theorem dX9_reads_50 : decode cX9_reads 50 = .ok (.aload_n 0, 1) := by decide +kernel
theorem dX9_reads_51 : decode cX9_reads 51 = .ok (.iconst 4, 1) := by decide +kernel
theorem dX9_reads_52 : decode cX9_reads 52 = .ok (.bipush 40, 2) := by decide +kernel
theorem dX9_reads_54 : decode cX9_reads 54 = .ok (.invokevirtual 383, 3) := by decide +kernel
theorem dX9_reads_57 : decode cX9_reads 57 = .ok (.istore_n 1, 1) := by decide +kernel
theorem dX9_reads_58 : decode cX9_reads 58 = .ok (.aload_n 0, 1) := by decide +kernel
theorem dX9_reads_59 : decode cX9_reads 59 = .ok (.iconst 1, 1) := by decide +kernel
theorem dX9_reads_60 : decode cX9_reads 60 = .ok (.bipush 10, 2) := by decide +kernel
theorem dX9_reads_62 : decode cX9_reads 62 = .ok (.invokevirtual 383, 3) := by decide +kernel
theorem dX9_reads_65 : decode cX9_reads 65 = .ok (.istore_n 2, 1) := by decide +kernel
theorem dX9_reads_66 : decode cX9_reads 66 = .ok (.aload_n 0, 1) := by decide +kernel
theorem dX9_reads_67 : decode cX9_reads 67 = .ok (.bipush 59, 2) := by decide +kernel
theorem dX9_reads_69 : decode cX9_reads 69 = .ok (.invokevirtual 401, 3) := by decide +kernel
theorem dX9_reads_72 : decode cX9_reads 72 = .ok (.aload_n 0, 1) := by decide +kernel
theorem dX9_reads_73 : decode cX9_reads 73 = .ok (.getfield 346, 3) := by decide +kernel
theorem dX9_reads_76 : decode cX9_reads 76 = .ok (.ifCond .eq 5, 3) := by decide +kernel
theorem dX9_reads_79 : decode cX9_reads 79 = .ok (.iconst 0, 1) := by decide +kernel
theorem dX9_reads_80 : decode cX9_reads 80 = .ok (.ireturn, 1) := by decide +kernel
theorem dX9_reads_81 : decode cX9_reads 81 = .ok (.aload_n 0, 1) := by decide +kernel
theorem dX9_reads_82 : decode cX9_reads 82 = .ok (.iload_n 1, 1) := by decide +kernel
theorem dX9_reads_83 : decode cX9_reads 83 = .ok (.iload_n 2, 1) := by decide +kernel
theorem dX9_reads_84 : decode cX9_reads 84 = .ok (.invokevirtual 53, 3) := by decide +kernel
theorem dX9_reads_87 : decode cX9_reads 87 = .ok (.iconst 1, 1) := by decide +kernel
theorem dX9_reads_88 : decode cX9_reads 88 = .ok (.istore_n 3, 1) := by decide +kernel
theorem dX9_reads_89 : decode cX9_reads 89 = .ok (.aload_n 0, 1) := by decide +kernel
theorem dX9_reads_90 : decode cX9_reads 90 = .ok (.invokevirtual 352, 3) := by decide +kernel
theorem dX9_reads_93 : decode cX9_reads 93 = .ok (.aload_n 0, 1) := by decide +kernel
theorem dX9_reads_94 : decode cX9_reads 94 = .ok (.getfield 349, 3) := by decide +kernel
theorem dX9_reads_97 : decode cX9_reads 97 = .ok (.aload_n 0, 1) := by decide +kernel
theorem dX9_reads_98 : decode cX9_reads 98 = .ok (.getfield 337, 3) := by decide +kernel
theorem dX9_reads_101 : decode cX9_reads 101 = .ok (.if_icmp .ge 24, 3) := by decide +kernel
theorem dX9_reads_104 : decode cX9_reads 104 = .ok (.aload_n 0, 1) := by decide +kernel
theorem dX9_reads_105 : decode cX9_reads 105 = .ok (.getfield 346, 3) := by decide +kernel
theorem dX9_reads_108 : decode cX9_reads 108 = .ok (.ifCond .ne 17, 3) := by decide +kernel
theorem dX9_reads_111 : decode cX9_reads 111 = .ok (.aload_n 0, 1) := by decide +kernel
theorem dX9_reads_112 : decode cX9_reads 112 = .ok (.invokevirtual 404, 3) := by decide +kernel
theorem dX9_reads_115 : decode cX9_reads 115 = .ok (.iinc 3 1, 3) := by decide +kernel
theorem dX9_reads_118 : decode cX9_reads 118 = .ok (.aload_n 0, 1) := by decide +kernel
theorem dX9_reads_119 : decode cX9_reads 119 = .ok (.invokevirtual 352, 3) := by decide +kernel
theorem dX9_reads_122 : decode cX9_reads 122 = .ok (.goto (-29), 3) := by decide +kernel
theorem dX9_reads_125 : decode cX9_reads 125 = .ok (.iconst 0, 1) := by decide +kernel
theorem dX9_reads_126 : decode cX9_reads 126 = .ok (.istore 4, 2) := by decide +kernel
theorem dX9_reads_128 : decode cX9_reads 128 = .ok (.iload 4, 2) := by decide +kernel
theorem dX9_reads_130 : decode cX9_reads 130 = .ok (.aload_n 0, 1) := by decide +kernel
theorem dX9_reads_131 : decode cX9_reads 131 = .ok (.getfield 9, 3) := by decide +kernel
theorem dX9_reads_134 : decode cX9_reads 134 = .ok (.iconst 0, 1) := by decide +kernel
theorem dX9_reads_135 : decode cX9_reads 135 = .ok (.iaload, 1) := by decide +kernel
theorem dX9_reads_136 : decode cX9_reads 136 = .ok (.if_icmp .gt 47, 3) := by decide +kernel
theorem dX9_reads_139 : decode cX9_reads 139 = .ok (.aload_n 0, 1) := by decide +kernel
theorem dX9_reads_140 : decode cX9_reads 140 = .ok (.getfield 346, 3) := by decide +kernel
theorem dX9_reads_143 : decode cX9_reads 143 = .ok (.ifCond .ne 40, 3) := by decide +kernel
theorem dX9_reads_146 : decode cX9_reads 146 = .ok (.aload_n 0, 1) := by decide +kernel
theorem dX9_reads_147 : decode cX9_reads 147 = .ok (.getfield 9, 3) := by decide +kernel
theorem dX9_reads_150 : decode cX9_reads 150 = .ok (.bipush 44, 2) := by decide +kernel
theorem dX9_reads_152 : decode cX9_reads 152 = .ok (.iload 4, 2) := by decide +kernel
theorem dX9_reads_154 : decode cX9_reads 154 = .ok (.iadd, 1) := by decide +kernel
theorem dX9_reads_155 : decode cX9_reads 155 = .ok (.iaload, 1) := by decide +kernel
theorem dX9_reads_156 : decode cX9_reads 156 = .ok (.aload_n 0, 1) := by decide +kernel
theorem dX9_reads_157 : decode cX9_reads 157 = .ok (.getfield 9, 3) := by decide +kernel
theorem dX9_reads_160 : decode cX9_reads 160 = .ok (.iconst 3, 1) := by decide +kernel
theorem dX9_reads_161 : decode cX9_reads 161 = .ok (.iload 4, 2) := by decide +kernel
theorem dX9_reads_163 : decode cX9_reads 163 = .ok (.iadd, 1) := by decide +kernel
theorem dX9_reads_164 : decode cX9_reads 164 = .ok (.iaload, 1) := by decide +kernel
theorem dX9_reads_165 : decode cX9_reads 165 = .ok (.if_icmp .le 12, 3) := by decide +kernel
theorem dX9_reads_168 : decode cX9_reads 168 = .ok (.aload_n 0, 1) := by decide +kernel
theorem dX9_reads_169 : decode cX9_reads 169 = .ok (.iconst 4, 1) := by decide +kernel
theorem dX9_reads_170 : decode cX9_reads 170 = .ok (.aload_n 0, 1) := by decide +kernel
theorem dX9_reads_171 : decode cX9_reads 171 = .ok (.getfield 337, 3) := by decide +kernel
theorem dX9_reads_174 : decode cX9_reads 174 = .ok (.invokevirtual 362, 3) := by decide +kernel
theorem dX9_reads_177 : decode cX9_reads 177 = .ok (.iinc 4 1, 3) := by decide +kernel
theorem dX9_reads_180 : decode cX9_reads 180 = .ok (.goto (-52), 3) := by decide +kernel
theorem dX9_reads_183 : decode cX9_reads 183 = .ok (.iload_n 3, 1) := by decide +kernel
theorem dX9_reads_184 : decode cX9_reads 184 = .ok (.ireturn, 1) := by decide +kernel
set_option maxHeartbeats 4000000 in
theorem st_X9_reads_177 {X : sj_X} {g : sj_G} {s0 : sj_Mem} {N : Nat} {q : Int × sj_VV} {k128 : Nat → Int → Int → sj_VV → Option (Int × sj_VV)} (hk128 : ∀ (a0 : Nat) (x3 : Int) (x4 : Int) (V : sj_VV), OK9 g a0 → k128 a0 x3 x4 V = some q → sj_T X m_X9_reads s0 (some (sj_i q.1), (g, q.2)) 128 [some (sj_r (some a0)), none, none, some (sj_i x3), some (sj_i x4)] [] (g, V)) :
    ∀ (a0 : Nat) (x3 : Int) (x4 : Int) (V : sj_VV), OK9 g a0 → g_X9_reads_177 N k128 a0 x3 x4 V = some q → sj_T X m_X9_reads s0 (some (sj_i q.1), (g, q.2)) 177 [some (sj_r (some a0)), none, none, some (sj_i x3), some (sj_i x4)] [] (g, V) := by
  intro a0 x3 x4 V ha0 h
  unfold g_X9_reads_177 at h
  refine r_iinc (ln := fun w => [some (sj_r (some a0)), none, none, some (sj_i x3), some (sj_i w)]) (pc := 177) h dX9_reads_177 rfl (Nat.le_of_ble_eq_true rfl) (fun _ => rfl) (fun v1 h => ?_)
  refine r_goto (pc := 180) (tgt := 128) dX9_reads_180 (by decide) ?_
  exact sj_weak (l2 := [some (sj_r (some a0)), none, none, some (sj_i x3), some (sj_i v1)]) (⟨rfl, ⟨rfl, ⟨rfl, trivial⟩⟩⟩) (hk128 a0 x3 v1 V ha0 h)
set_option maxHeartbeats 4000000 in
theorem st_X9_reads_128_b {X : sj_X} {g : sj_G} {s0 : sj_Mem} {N : Nat} {q : Int × sj_VV} {k128 : Nat → Int → Int → sj_VV → Option (Int × sj_VV)} (hk128 : ∀ (a0 : Nat) (x3 : Int) (x4 : Int) (V : sj_VV), OK9 g a0 → k128 a0 x3 x4 V = some q → sj_T X m_X9_reads s0 (some (sj_i q.1), (g, q.2)) 128 [some (sj_r (some a0)), none, none, some (sj_i x3), some (sj_i x4)] [] (g, V)) :
    ∀ (a0 : Nat) (x3 : Int) (x4 : Int) (V : sj_VV), OK9 g a0 → g_X9_reads_128_b N k128 a0 x3 x4 V = some q → sj_T X m_X9_reads s0 (some (sj_i q.1), (g, q.2)) 128 [some (sj_r (some a0)), none, none, some (sj_i x3), some (sj_i x4)] [] (g, V) := by
  intro a0 x3 x4 V ha0 h
  unfold g_X9_reads_128_b at h
  refine r_iload (pc := 128) dX9_reads_128 rfl ?_
  refine r_aload_n (pc := 130) dX9_reads_130 rfl rfl ?_
  refine r_gRs (b := a0 + 1) (pc := 131) dX9_reads_131 fw_X9_9 rfl (ok9 ha0) (ok9_0 ha0).1 ?_
  refine r_iconst (pc := 134) dX9_reads_134 ?_
  refine r_ialoads (pc := 135) h dX9_reads_135 (ok9_0 ha0).2 (fun h => ?_)
  refine r_icmp_gt (pc := 136) (tgt := 183) h dX9_reads_136 (by decide) (fun h => ?_) (fun h => ?_)
  · refine r_iload_n (pc := 183) dX9_reads_183 rfl rfl ?_
    exact r_irets (pc := 184) h rfl dX9_reads_184
  · refine r_aload_n (pc := 139) dX9_reads_139 rfl rfl ?_
    refine r_gIs (pc := 140) dX9_reads_140 fw_X9_346 rfl (ok9 ha0) ?_
    refine r_if_ne (pc := 143) (tgt := 183) h dX9_reads_143 (by decide) (fun h => ?_) (fun h => ?_)
    · refine r_aload_n (pc := 146) dX9_reads_146 rfl rfl ?_
      refine r_gRs (b := a0 + 1) (pc := 147) dX9_reads_147 fw_X9_9 rfl (ok9 ha0) (ok9_0 ha0).1 ?_
      refine r_bipush (pc := 150) dX9_reads_150 ⟨by decide, by decide⟩ ?_
      refine r_iload (pc := 152) dX9_reads_152 rfl ?_
      refine r_iadd (pc := 154) dX9_reads_154 ?_
      refine r_ialoads (pc := 155) h dX9_reads_155 (ok9_0 ha0).2 (fun h => ?_)
      refine r_aload_n (pc := 156) dX9_reads_156 rfl rfl ?_
      refine r_gRs (b := a0 + 1) (pc := 157) dX9_reads_157 fw_X9_9 rfl (ok9 ha0) (ok9_0 ha0).1 ?_
      refine r_iconst (pc := 160) dX9_reads_160 ?_
      refine r_iload (pc := 161) dX9_reads_161 rfl ?_
      refine r_iadd (pc := 163) dX9_reads_163 ?_
      refine r_ialoads (pc := 164) h dX9_reads_164 (ok9_0 ha0).2 (fun h => ?_)
      refine r_icmp_le (pc := 165) (tgt := 177) h dX9_reads_165 (by decide) (fun h => ?_) (fun h => ?_)
      · exact sj_weak (l2 := [some (sj_r (some a0)), none, none, some (sj_i x3), some (sj_i x4)]) (⟨rfl, ⟨rfl, ⟨rfl, trivial⟩⟩⟩) (st_X9_reads_177 hk128 a0 x3 x4 V ha0 h)
      · refine r_aload_n (pc := 168) dX9_reads_168 rfl rfl ?_
        refine r_iconst (pc := 169) dX9_reads_169 ?_
        refine r_aload_n (pc := 170) dX9_reads_170 rfl rfl ?_
        refine r_gIs (pc := 171) dX9_reads_171 fw_X9_337 rfl (ok9 ha0) ?_
        refine r_callVs (pc := 174) (fun _ => none) (As := [sj_i 4, sj_i (V a0 28)]) (rest := []) (b := a0) (ok9 ha0) h dX9_reads_174 mw_X9_362 vw_X9_wrong (fun _ _ hc => cg_X9_wrong ha0 hc) rfl ⟨(Nat.le_of_ble_eq_true rfl), (Nat.le_of_ble_eq_true rfl)⟩ (Nat.le_of_ble_eq_true rfl) rfl (fun _u V1 h => ?_)
        exact sj_weak (l2 := [some (sj_r (some a0)), none, none, some (sj_i x3), some (sj_i x4)]) (⟨rfl, ⟨rfl, ⟨rfl, trivial⟩⟩⟩) (st_X9_reads_177 hk128 a0 x3 x4 V1 ha0 h)
    · refine r_iload_n (pc := 183) dX9_reads_183 rfl rfl ?_
      exact r_irets (pc := 184) h rfl dX9_reads_184
set_option maxHeartbeats 4000000 in
theorem st_X9_reads_128 {X : sj_X} {g : sj_G} {s0 : sj_Mem} {N : Nat} {q : Int × sj_VV} :
    ∀ (n : Nat) (a0 : Nat) (x3 : Int) (x4 : Int) (V : sj_VV), OK9 g a0 → g_X9_reads_128 N n a0 x3 x4 V = some q → sj_T X m_X9_reads s0 (some (sj_i q.1), (g, q.2)) 128 [some (sj_r (some a0)), none, none, some (sj_i x3), some (sj_i x4)] [] (g, V) := by
  intro n
  induction n with
  | zero => intro a0 x3 x4 V ha0 h; exact nomatch h
  | succ n ih => intro a0 x3 x4 V ha0 h; exact st_X9_reads_128_b (N := N) ih a0 x3 x4 V ha0 h
set_option maxHeartbeats 4000000 in
theorem st_X9_reads_125 {X : sj_X} {g : sj_G} {s0 : sj_Mem} {N : Nat} {q : Int × sj_VV} :
    ∀ (a0 : Nat) (x3 : Int) (V : sj_VV), OK9 g a0 → g_X9_reads_125 N a0 x3 V = some q → sj_T X m_X9_reads s0 (some (sj_i q.1), (g, q.2)) 125 [some (sj_r (some a0)), none, none, some (sj_i x3), none] [] (g, V) := by
  intro a0 x3 V ha0 h
  unfold g_X9_reads_125 at h
  refine r_iconst (pc := 125) dX9_reads_125 ?_
  refine r_istore (ln := [some (sj_r (some a0)), none, none, some (sj_i x3), some (sj_i 0)]) (pc := 126) dX9_reads_126 (Nat.le_of_ble_eq_true rfl) rfl ?_
  exact sj_weak (l2 := [some (sj_r (some a0)), none, none, some (sj_i x3), some (sj_i 0)]) (⟨rfl, ⟨rfl, ⟨rfl, trivial⟩⟩⟩) (st_X9_reads_128 N a0 x3 0 V ha0 h)
set_option maxHeartbeats 4000000 in
theorem st_X9_reads_93_b {X : sj_X} {g : sj_G} {s0 : sj_Mem} {N : Nat} {q : Int × sj_VV} {k93 : Nat → Int → sj_VV → Option (Int × sj_VV)} (hk93 : ∀ (a0 : Nat) (x3 : Int) (V : sj_VV), OK9 g a0 → k93 a0 x3 V = some q → sj_T X m_X9_reads s0 (some (sj_i q.1), (g, q.2)) 93 [some (sj_r (some a0)), none, none, some (sj_i x3), none] [] (g, V)) :
    ∀ (a0 : Nat) (x3 : Int) (V : sj_VV), OK9 g a0 → g_X9_reads_93_b N k93 a0 x3 V = some q → sj_T X m_X9_reads s0 (some (sj_i q.1), (g, q.2)) 93 [some (sj_r (some a0)), none, none, some (sj_i x3), none] [] (g, V) := by
  intro a0 x3 V ha0 h
  unfold g_X9_reads_93_b at h
  refine r_aload_n (pc := 93) dX9_reads_93 rfl rfl ?_
  refine r_gIs (pc := 94) dX9_reads_94 fw_X9_349 rfl (ok9 ha0) ?_
  refine r_aload_n (pc := 97) dX9_reads_97 rfl rfl ?_
  refine r_gIs (pc := 98) dX9_reads_98 fw_X9_337 rfl (ok9 ha0) ?_
  refine r_icmp_ge (pc := 101) (tgt := 125) h dX9_reads_101 (by decide) (fun h => ?_) (fun h => ?_)
  · exact sj_weak (l2 := [some (sj_r (some a0)), none, none, some (sj_i x3), none]) (⟨rfl, ⟨rfl, trivial⟩⟩) (st_X9_reads_125 a0 x3 V ha0 h)
  · refine r_aload_n (pc := 104) dX9_reads_104 rfl rfl ?_
    refine r_gIs (pc := 105) dX9_reads_105 fw_X9_346 rfl (ok9 ha0) ?_
    refine r_if_ne (pc := 108) (tgt := 125) h dX9_reads_108 (by decide) (fun h => ?_) (fun h => ?_)
    · refine r_aload_n (pc := 111) dX9_reads_111 rfl rfl ?_
      refine r_callVs (pc := 112) (fun _ => none) (As := []) (rest := []) (b := a0) (ok9 ha0) h dX9_reads_112 mw_X9_404 vw_X9_line (fun _ _ hc => cg_X9_line ha0 hc) rfl ⟨(Nat.le_of_ble_eq_true rfl), (Nat.le_of_ble_eq_true rfl)⟩ (Nat.le_of_ble_eq_true rfl) rfl (fun _u V1 h => ?_)
      refine r_iinc (ln := fun w => [some (sj_r (some a0)), none, none, some (sj_i w), none]) (pc := 115) h dX9_reads_115 rfl (Nat.le_of_ble_eq_true rfl) (fun _ => rfl) (fun v2 h => ?_)
      refine r_aload_n (pc := 118) dX9_reads_118 rfl rfl ?_
      refine r_callVs (pc := 119) (fun _ => none) (As := []) (rest := []) (b := a0) (ok9 ha0) h dX9_reads_119 mw_X9_352 vw_X9_blanks (fun _ _ hc => cg_X9_blanks ha0 hc) rfl ⟨(Nat.le_of_ble_eq_true rfl), (Nat.le_of_ble_eq_true rfl)⟩ (Nat.le_of_ble_eq_true rfl) rfl (fun _u V3 h => ?_)
      refine r_goto (pc := 122) (tgt := 93) dX9_reads_122 (by decide) ?_
      exact sj_weak (l2 := [some (sj_r (some a0)), none, none, some (sj_i v2), none]) (⟨rfl, ⟨rfl, trivial⟩⟩) (hk93 a0 v2 V3 ha0 h)
    · exact sj_weak (l2 := [some (sj_r (some a0)), none, none, some (sj_i x3), none]) (⟨rfl, ⟨rfl, trivial⟩⟩) (st_X9_reads_125 a0 x3 V ha0 h)
set_option maxHeartbeats 4000000 in
theorem st_X9_reads_93 {X : sj_X} {g : sj_G} {s0 : sj_Mem} {N : Nat} {q : Int × sj_VV} :
    ∀ (n : Nat) (a0 : Nat) (x3 : Int) (V : sj_VV), OK9 g a0 → g_X9_reads_93 N n a0 x3 V = some q → sj_T X m_X9_reads s0 (some (sj_i q.1), (g, q.2)) 93 [some (sj_r (some a0)), none, none, some (sj_i x3), none] [] (g, V) := by
  intro n
  induction n with
  | zero => intro a0 x3 V ha0 h; exact nomatch h
  | succ n ih => intro a0 x3 V ha0 h; exact st_X9_reads_93_b (N := N) ih a0 x3 V ha0 h
set_option maxHeartbeats 4000000 in
theorem st_X9_reads_50 {X : sj_X} {g : sj_G} {s0 : sj_Mem} {N : Nat} {q : Int × sj_VV} :
    ∀ (a0 : Nat) (V : sj_VV), OK9 g a0 → g_X9_reads_50 N a0 V = some q → sj_T X m_X9_reads s0 (some (sj_i q.1), (g, q.2)) 50 [some (sj_r (some a0)), none, none, none, none] [] (g, V) := by
  intro a0 V ha0 h
  unfold g_X9_reads_50 at h
  refine r_aload_n (pc := 50) dX9_reads_50 rfl rfl ?_
  refine r_iconst (pc := 51) dX9_reads_51 ?_
  refine r_bipush (pc := 52) dX9_reads_52 ⟨by decide, by decide⟩ ?_
  refine r_callVs (pc := 54) (fun v => some (sj_i v)) (As := [sj_i 4, sj_i 40]) (rest := []) (b := a0) (ok9 ha0) h dX9_reads_54 mw_X9_383 vw_X9_number (fun _ _ hc => cg_X9_number ha0 hc) rfl ⟨(Nat.le_of_ble_eq_true rfl), (Nat.le_of_ble_eq_true rfl)⟩ (Nat.le_of_ble_eq_true rfl) rfl (fun v2 V1 h => ?_)
  refine r_istore_n (ln := [some (sj_r (some a0)), some (sj_i v2), none, none, none]) (pc := 57) dX9_reads_57 rfl (Nat.le_of_ble_eq_true rfl) rfl ?_
  refine r_aload_n (pc := 58) dX9_reads_58 rfl rfl ?_
  refine r_iconst (pc := 59) dX9_reads_59 ?_
  refine r_bipush (pc := 60) dX9_reads_60 ⟨by decide, by decide⟩ ?_
  refine r_callVs (pc := 62) (fun v => some (sj_i v)) (As := [sj_i 1, sj_i 10]) (rest := []) (b := a0) (ok9 ha0) h dX9_reads_62 mw_X9_383 vw_X9_number (fun _ _ hc => cg_X9_number ha0 hc) rfl ⟨(Nat.le_of_ble_eq_true rfl), (Nat.le_of_ble_eq_true rfl)⟩ (Nat.le_of_ble_eq_true rfl) rfl (fun v4 V3 h => ?_)
  refine r_istore_n (ln := [some (sj_r (some a0)), some (sj_i v2), some (sj_i v4), none, none]) (pc := 65) dX9_reads_65 rfl (Nat.le_of_ble_eq_true rfl) rfl ?_
  refine r_aload_n (pc := 66) dX9_reads_66 rfl rfl ?_
  refine r_bipush (pc := 67) dX9_reads_67 ⟨by decide, by decide⟩ ?_
  refine r_callVs (pc := 69) (fun _ => none) (As := [sj_i 59]) (rest := []) (b := a0) (ok9 ha0) h dX9_reads_69 mw_X9_401 vw_X9_must (fun _ _ hc => cg_X9_must ha0 hc) rfl ⟨(Nat.le_of_ble_eq_true rfl), (Nat.le_of_ble_eq_true rfl)⟩ (Nat.le_of_ble_eq_true rfl) rfl (fun _u V5 h => ?_)
  refine r_aload_n (pc := 72) dX9_reads_72 rfl rfl ?_
  refine r_gIs (pc := 73) dX9_reads_73 fw_X9_346 rfl (ok9 ha0) ?_
  refine r_if_eq (pc := 76) (tgt := 81) h dX9_reads_76 (by decide) (fun h => ?_) (fun h => ?_)
  · refine r_aload_n (pc := 81) dX9_reads_81 rfl rfl ?_
    refine r_iload_n (pc := 82) dX9_reads_82 rfl rfl ?_
    refine r_iload_n (pc := 83) dX9_reads_83 rfl rfl ?_
    refine r_callVs (pc := 84) (fun _ => none) (As := [sj_i v2, sj_i v4]) (rest := []) (b := a0) (ok9 ha0) h dX9_reads_84 mw_X9_53 vw_X9_begins (fun _ _ hc => cg_X9_begins ha0 hc) rfl ⟨(Nat.le_of_ble_eq_true rfl), (Nat.le_of_ble_eq_true rfl)⟩ (Nat.le_of_ble_eq_true rfl) rfl (fun _u V6 h => ?_)
    refine r_iconst (pc := 87) dX9_reads_87 ?_
    refine r_istore_n (ln := [some (sj_r (some a0)), some (sj_i v2), some (sj_i v4), some (sj_i 1), none]) (pc := 88) dX9_reads_88 rfl (Nat.le_of_ble_eq_true rfl) rfl ?_
    refine r_aload_n (pc := 89) dX9_reads_89 rfl rfl ?_
    refine r_callVs (pc := 90) (fun _ => none) (As := []) (rest := []) (b := a0) (ok9 ha0) h dX9_reads_90 mw_X9_352 vw_X9_blanks (fun _ _ hc => cg_X9_blanks ha0 hc) rfl ⟨(Nat.le_of_ble_eq_true rfl), (Nat.le_of_ble_eq_true rfl)⟩ (Nat.le_of_ble_eq_true rfl) rfl (fun _u V7 h => ?_)
    exact sj_weak (l2 := [some (sj_r (some a0)), none, none, some (sj_i 1), none]) (⟨rfl, ⟨rfl, trivial⟩⟩) (st_X9_reads_93 N a0 1 V7 ha0 h)
  · refine r_iconst (pc := 79) dX9_reads_79 ?_
    exact r_irets (pc := 80) h rfl dX9_reads_80
set_option maxHeartbeats 4000000 in
theorem st_X9_reads_0 {X : sj_X} {g : sj_G} {s0 : sj_Mem} {N : Nat} {q : Int × sj_VV} :
    ∀ (a0 : Nat) (V : sj_VV), OK9 g a0 → g_X9_reads N a0 V = some q → sj_T X m_X9_reads s0 (some (sj_i q.1), (g, q.2)) 0 [some (sj_r (some a0)), none, none, none, none] [] (g, V) := by
  intro a0 V ha0 h
  unfold g_X9_reads at h
  refine r_aload_n (pc := 0) dX9_reads_0 rfl rfl ?_
  refine r_callVs (pc := 1) (fun _ => none) (As := []) (rest := []) (b := a0) (ok9 ha0) h dX9_reads_1 mw_X9_352 vw_X9_blanks (fun _ _ hc => cg_X9_blanks ha0 hc) rfl ⟨(Nat.le_of_ble_eq_true rfl), (Nat.le_of_ble_eq_true rfl)⟩ (Nat.le_of_ble_eq_true rfl) rfl (fun _u V1 h => ?_)
  refine r_aload_n (pc := 4) dX9_reads_4 rfl rfl ?_
  refine r_bipush (pc := 5) dX9_reads_5 ⟨by decide, by decide⟩ ?_
  refine r_bipush (pc := 7) dX9_reads_7 ⟨by decide, by decide⟩ ?_
  refine r_bipush (pc := 9) dX9_reads_9 ⟨by decide, by decide⟩ ?_
  refine r_bipush (pc := 11) dX9_reads_11 ⟨by decide, by decide⟩ ?_
  refine r_bipush (pc := 13) dX9_reads_13 ⟨by decide, by decide⟩ ?_
  refine r_bipush (pc := 15) dX9_reads_15 ⟨by decide, by decide⟩ ?_
  refine r_bipush (pc := 17) dX9_reads_17 ⟨by decide, by decide⟩ ?_
  refine r_bipush (pc := 19) dX9_reads_19 ⟨by decide, by decide⟩ ?_
  refine r_callVs (pc := 21) (fun v => some (sj_i v)) (As := [sj_i 7, sj_i 99, sj_i 111, sj_i 108, sj_i 117, sj_i 109, sj_i 110, sj_i 115]) (rest := []) (b := a0) (ok9 ha0) h dX9_reads_21 mw_X9_379 vw_X9_spells (fun _ _ hc => cg_X9_spells ha0 hc) rfl ⟨(Nat.le_of_ble_eq_true rfl), (Nat.le_of_ble_eq_true rfl)⟩ (Nat.le_of_ble_eq_true rfl) rfl (fun v3 V2 h => ?_)
  refine r_if_eq (pc := 24) (tgt := 41) h dX9_reads_24 (by decide) (fun h => ?_) (fun h => ?_)
  · refine r_aload_n (pc := 41) dX9_reads_41 rfl rfl ?_
    refine r_iconst (pc := 42) dX9_reads_42 ?_
    refine r_aload_n (pc := 43) dX9_reads_43 rfl rfl ?_
    refine r_gIs (pc := 44) dX9_reads_44 fw_X9_349 rfl (ok9 ha0) ?_
    refine r_callVs (pc := 47) (fun _ => none) (As := [sj_i 1, sj_i (V2 a0 29)]) (rest := []) (b := a0) (ok9 ha0) h dX9_reads_47 mw_X9_362 vw_X9_wrong (fun _ _ hc => cg_X9_wrong ha0 hc) rfl ⟨(Nat.le_of_ble_eq_true rfl), (Nat.le_of_ble_eq_true rfl)⟩ (Nat.le_of_ble_eq_true rfl) rfl (fun _u V4 h => ?_)
    exact sj_weak (l2 := [some (sj_r (some a0)), none, none, none, none]) (⟨rfl, trivial⟩) (st_X9_reads_50 a0 V4 ha0 h)
  · refine r_aload_n (pc := 27) dX9_reads_27 rfl rfl ?_
    refine r_dup (pc := 28) dX9_reads_28 rfl ?_
    refine r_gIs (pc := 29) dX9_reads_29 fw_X9_349 rfl (ok9 ha0) ?_
    refine r_bipush (pc := 32) dX9_reads_32 ⟨by decide, by decide⟩ ?_
    refine r_iadd (pc := 34) dX9_reads_34 ?_
    refine r_pIs (pc := 35) h dX9_reads_35 fw_X9_349 rfl rfl (nf9_29) (ok9 ha0) (fun V5 h => ?_)
    refine r_goto (pc := 38) (tgt := 50) dX9_reads_38 (by decide) ?_
    exact sj_weak (l2 := [some (sj_r (some a0)), none, none, none, none]) (⟨rfl, trivial⟩) (st_X9_reads_50 a0 V5 ha0 h)
set_option maxHeartbeats 4000000 in
theorem cg_X9_reads {X : sj_X} {g : sj_G} {N : Nat} {a0 : Nat} {V : sj_VV} {q : Int × sj_VV} (ha0 : OK9 g a0) (h : g_X9_reads N a0 V = some q) : sj_C X m_X9_reads [sj_r (some a0)] (g, V) (some (sj_i q.1), (g, q.2)) :=
  sj_C_of (by decide +kernel) (Nat.le_of_ble_eq_true rfl) (lo := [some (sj_r (some a0)), none, none, none, none]) rfl (sj_weak (l2 := [some (sj_r (some a0)), none, none, none, none]) (⟨rfl, trivial⟩) (st_X9_reads_0 a0 V ha0 h))
set_option maxHeartbeats 4000000 in
theorem c_X9_reads {X : sj_X} {N : Nat} {a0 : Nat} {s : sj_Mem} {q : Int × sj_Mem} (h : f_X9_reads N a0 s = some q) : sj_C X m_X9_reads [sj_r (some a0)] s (some (sj_i q.1), q.2) := by
  obtain ⟨g, V⟩ := s
  unfold f_X9_reads at h
  obtain ⟨ho, h1⟩ := e_ok_some h
  obtain ⟨q2, h2, rfl⟩ := sj_map_some h1
  exact cg_X9_reads ho h2
theorem dX9_text_0 : decode cX9_text 0 = .ok (.aload_n 0, 1) := by decide +kernel
theorem dX9_text_1 : decode cX9_text 1 = .ok (.invokevirtual 301, 3) := by decide +kernel
theorem dX9_text_4 : decode cX9_text 4 = .ok (.iconst 0, 1) := by decide +kernel
theorem dX9_text_5 : decode cX9_text 5 = .ok (.istore_n 1, 1) := by decide +kernel
theorem dX9_text_6 : decode cX9_text 6 = .ok (.iload_n 1, 1) := by decide +kernel
theorem dX9_text_7 : decode cX9_text 7 = .ok (.bipush 20, 2) := by decide +kernel
theorem dX9_text_9 : decode cX9_text 9 = .ok (.if_icmp .ge 16, 3) := by decide +kernel
theorem dX9_text_12 : decode cX9_text 12 = .ok (.aload_n 0, 1) := by decide +kernel
theorem dX9_text_13 : decode cX9_text 13 = .ok (.getfield 49, 3) := by decide +kernel
theorem dX9_text_16 : decode cX9_text 16 = .ok (.iload_n 1, 1) := by decide +kernel
theorem dX9_text_17 : decode cX9_text 17 = .ok (.iconst 0, 1) := by decide +kernel
theorem dX9_text_18 : decode cX9_text 18 = .ok (.bastore, 1) := by decide +kernel
theorem dX9_text_19 : decode cX9_text 19 = .ok (.iinc 1 1, 3) := by decide +kernel
theorem dX9_text_22 : decode cX9_text 22 = .ok (.goto (-16), 3) := by decide +kernel
theorem dX9_text_25 : decode cX9_text 25 = .ok (.aload_n 0, 1) := by decide +kernel
theorem dX9_text_26 : decode cX9_text 26 = .ok (.iconst 0, 1) := by decide +kernel
theorem dX9_text_27 : decode cX9_text 27 = .ok (.putfield 346, 3) := by decide +kernel
theorem dX9_text_30 : decode cX9_text 30 = .ok (.aload_n 0, 1) := by decide +kernel
theorem dX9_text_31 : decode cX9_text 31 = .ok (.iconst 0, 1) := by decide +kernel
theorem dX9_text_32 : decode cX9_text 32 = .ok (.putfield 343, 3) := by decide +kernel
theorem dX9_text_35 : decode cX9_text 35 = .ok (.aload_n 0, 1) := by decide +kernel
theorem dX9_text_36 : decode cX9_text 36 = .ok (.iconst (-1), 1) := by decide +kernel
theorem dX9_text_37 : decode cX9_text 37 = .ok (.putfield 46, 3) := by decide +kernel
theorem dX9_text_40 : decode cX9_text 40 = .ok (.aload_n 0, 1) := by decide +kernel
theorem dX9_text_41 : decode cX9_text 41 = .ok (.iconst 0, 1) := by decide +kernel
theorem dX9_text_42 : decode cX9_text 42 = .ok (.putfield 349, 3) := by decide +kernel
theorem dX9_text_45 : decode cX9_text 45 = .ok (.aload_n 0, 1) := by decide +kernel
theorem dX9_text_46 : decode cX9_text 46 = .ok (.invokevirtual 407, 3) := by decide +kernel
theorem dX9_text_49 : decode cX9_text 49 = .ok (.istore_n 1, 1) := by decide +kernel
theorem dX9_text_50 : decode cX9_text 50 = .ok (.aload_n 0, 1) := by decide +kernel
theorem dX9_text_51 : decode cX9_text 51 = .ok (.iconst 0, 1) := by decide +kernel
theorem dX9_text_52 : decode cX9_text 52 = .ok (.putfield 337, 3) := by decide +kernel
theorem dX9_text_55 : decode cX9_text 55 = .ok (.aload_n 0, 1) := by decide +kernel
theorem dX9_text_56 : decode cX9_text 56 = .ok (.getfield 346, 3) := by decide +kernel
theorem dX9_text_59 : decode cX9_text 59 = .ok (.ifCond .eq 9, 3) := by decide +kernel
theorem dX9_text_62 : decode cX9_text 62 = .ok (.aload_n 0, 1) := by decide +kernel
theorem dX9_text_63 : decode cX9_text 63 = .ok (.invokevirtual 304, 3) := by decide +kernel
theorem dX9_text_66 : decode cX9_text 66 = .ok (.iconst (-1), 1) := by decide +kernel
theorem dX9_text_67 : decode cX9_text 67 = .ok (.ireturn, 1) := by decide +kernel
theorem dX9_text_68 : decode cX9_text 68 = .ok (.aload_n 0, 1) := by decide +kernel
theorem dX9_text_69 : decode cX9_text 69 = .ok (.aload_n 0, 1) := by decide +kernel
theorem dX9_text_70 : decode cX9_text 70 = .ok (.getfield 13, 3) := by decide +kernel
theorem dX9_text_73 : decode cX9_text 73 = .ok (.invokevirtual 70, 3) := by decide +kernel
theorem dX9_text_76 : decode cX9_text 76 = .ok (.iload_n 1, 1) := by decide +kernel
theorem dX9_text_77 : decode cX9_text 77 = .ok (.ireturn, 1) := by decide +kernel
set_option maxHeartbeats 4000000 in
theorem st_X9_text_6_b {X : sj_X} {g : sj_G} {s0 : sj_Mem} {N : Nat} {q : Int × sj_VV} {k6 : Nat → Int → sj_VV → Option (Int × sj_VV)} (hk6 : ∀ (a0 : Nat) (x1 : Int) (V : sj_VV), OK9 g a0 → k6 a0 x1 V = some q → sj_T X m_X9_text s0 (some (sj_i q.1), (g, q.2)) 6 [some (sj_r (some a0)), some (sj_i x1)] [] (g, V)) :
    ∀ (a0 : Nat) (x1 : Int) (V : sj_VV), OK9 g a0 → g_X9_text_6_b N k6 a0 x1 V = some q → sj_T X m_X9_text s0 (some (sj_i q.1), (g, q.2)) 6 [some (sj_r (some a0)), some (sj_i x1)] [] (g, V) := by
  intro a0 x1 V ha0 h
  unfold g_X9_text_6_b at h
  refine r_iload_n (pc := 6) dX9_text_6 rfl rfl ?_
  refine r_bipush (pc := 7) dX9_text_7 ⟨by decide, by decide⟩ ?_
  refine r_icmp_ge (pc := 9) (tgt := 25) h dX9_text_9 (by decide) (fun h => ?_) (fun h => ?_)
  · refine r_aload_n (pc := 25) dX9_text_25 rfl rfl ?_
    refine r_iconst (pc := 26) dX9_text_26 ?_
    refine r_pZs (pc := 27) h dX9_text_27 fw_X9_346 rfl rfl (nf9_32) (ok9 ha0) (fun V1 h => ?_)
    refine r_aload_n (pc := 30) dX9_text_30 rfl rfl ?_
    refine r_iconst (pc := 31) dX9_text_31 ?_
    refine r_pIs (pc := 32) h dX9_text_32 fw_X9_343 rfl rfl (nf9_30) (ok9 ha0) (fun V2 h => ?_)
    refine r_aload_n (pc := 35) dX9_text_35 rfl rfl ?_
    refine r_iconst (pc := 36) dX9_text_36 ?_
    refine r_pIs (pc := 37) h dX9_text_37 fw_X9_46 rfl rfl (nf9_31) (ok9 ha0) (fun V3 h => ?_)
    refine r_aload_n (pc := 40) dX9_text_40 rfl rfl ?_
    refine r_iconst (pc := 41) dX9_text_41 ?_
    refine r_pIs (pc := 42) h dX9_text_42 fw_X9_349 rfl rfl (nf9_29) (ok9 ha0) (fun V4 h => ?_)
    refine r_aload_n (pc := 45) dX9_text_45 rfl rfl ?_
    refine r_callVs (pc := 46) (fun v => some (sj_i v)) (As := []) (rest := []) (b := a0) (ok9 ha0) h dX9_text_46 mw_X9_407 vw_X9_reads (fun _ _ hc => cg_X9_reads ha0 hc) rfl ⟨(Nat.le_of_ble_eq_true rfl), (Nat.le_of_ble_eq_true rfl)⟩ (Nat.le_of_ble_eq_true rfl) rfl (fun v6 V5 h => ?_)
    refine r_istore_n (ln := [some (sj_r (some a0)), some (sj_i v6)]) (pc := 49) dX9_text_49 rfl (Nat.le_of_ble_eq_true rfl) rfl ?_
    refine r_aload_n (pc := 50) dX9_text_50 rfl rfl ?_
    refine r_iconst (pc := 51) dX9_text_51 ?_
    refine r_pIs (pc := 52) h dX9_text_52 fw_X9_337 rfl rfl (nf9_28) (ok9 ha0) (fun V7 h => ?_)
    refine r_aload_n (pc := 55) dX9_text_55 rfl rfl ?_
    refine r_gIs (pc := 56) dX9_text_56 fw_X9_346 rfl (ok9 ha0) ?_
    refine r_if_eq (pc := 59) (tgt := 68) h dX9_text_59 (by decide) (fun h => ?_) (fun h => ?_)
    · refine r_aload_n (pc := 68) dX9_text_68 rfl rfl ?_
      refine r_aload_n (pc := 69) dX9_text_69 rfl rfl ?_
      refine r_gRs (b := a0 + 2) (pc := 70) dX9_text_70 fw_X9_13 rfl (ok9 ha0) (ok9_1 ha0).1 ?_
      refine r_callVs (pc := 73) (fun _ => none) (As := [sj_r (some (a0 + 2))]) (rest := []) (b := a0) (ok9 ha0) h dX9_text_73 mw_X9_70 vw_X9_remembers (fun _ _ hc => cg_X9_remembers ha0 (ok9_1 ha0).2 hc) rfl ⟨(Nat.le_of_ble_eq_true rfl), (Nat.le_of_ble_eq_true rfl)⟩ (Nat.le_of_ble_eq_true rfl) rfl (fun _u V8 h => ?_)
      refine r_iload_n (pc := 76) dX9_text_76 rfl rfl ?_
      exact r_irets (pc := 77) h rfl dX9_text_77
    · refine r_aload_n (pc := 62) dX9_text_62 rfl rfl ?_
      refine r_callVs (pc := 63) (fun _ => none) (As := []) (rest := []) (b := a0) (ok9 ha0) h dX9_text_63 mw_X9_304 vw_X9_comesBack (fun _ _ hc => cg_X9_comesBack ha0 hc) rfl ⟨(Nat.le_of_ble_eq_true rfl), (Nat.le_of_ble_eq_true rfl)⟩ (Nat.le_of_ble_eq_true rfl) rfl (fun _u V9 h => ?_)
      refine r_iconst (pc := 66) dX9_text_66 ?_
      exact r_irets (pc := 67) h rfl dX9_text_67
  · refine r_aload_n (pc := 12) dX9_text_12 rfl rfl ?_
    refine r_gRs (b := a0 + 11) (pc := 13) dX9_text_13 fw_X9_49 rfl (ok9 ha0) (ok9_34 ha0).1 ?_
    refine r_iload_n (pc := 16) dX9_text_16 rfl rfl ?_
    refine r_iconst (pc := 17) dX9_text_17 ?_
    refine r_zastores (pc := 18) h dX9_text_18 (ok9_34 ha0).2 (fun V10 h => ?_)
    refine r_iinc (ln := fun w => [some (sj_r (some a0)), some (sj_i w)]) (pc := 19) h dX9_text_19 rfl (Nat.le_of_ble_eq_true rfl) (fun _ => rfl) (fun v11 h => ?_)
    refine r_goto (pc := 22) (tgt := 6) dX9_text_22 (by decide) ?_
    exact sj_weak (l2 := [some (sj_r (some a0)), some (sj_i v11)]) (⟨rfl, ⟨rfl, trivial⟩⟩) (hk6 a0 v11 V10 ha0 h)
set_option maxHeartbeats 4000000 in
theorem st_X9_text_6 {X : sj_X} {g : sj_G} {s0 : sj_Mem} {N : Nat} {q : Int × sj_VV} :
    ∀ (n : Nat) (a0 : Nat) (x1 : Int) (V : sj_VV), OK9 g a0 → g_X9_text_6 N n a0 x1 V = some q → sj_T X m_X9_text s0 (some (sj_i q.1), (g, q.2)) 6 [some (sj_r (some a0)), some (sj_i x1)] [] (g, V) := by
  intro n
  induction n with
  | zero => intro a0 x1 V ha0 h; exact nomatch h
  | succ n ih => intro a0 x1 V ha0 h; exact st_X9_text_6_b (N := N) ih a0 x1 V ha0 h
set_option maxHeartbeats 4000000 in
theorem st_X9_text_0 {X : sj_X} {g : sj_G} {s0 : sj_Mem} {N : Nat} {q : Int × sj_VV} :
    ∀ (a0 : Nat) (V : sj_VV), OK9 g a0 → g_X9_text N a0 V = some q → sj_T X m_X9_text s0 (some (sj_i q.1), (g, q.2)) 0 [some (sj_r (some a0)), none] [] (g, V) := by
  intro a0 V ha0 h
  unfold g_X9_text at h
  refine r_aload_n (pc := 0) dX9_text_0 rfl rfl ?_
  refine r_callVs (pc := 1) (fun _ => none) (As := []) (rest := []) (b := a0) (ok9 ha0) h dX9_text_1 mw_X9_301 vw_X9_laysAside (fun _ _ hc => cg_X9_laysAside ha0 hc) rfl ⟨(Nat.le_of_ble_eq_true rfl), (Nat.le_of_ble_eq_true rfl)⟩ (Nat.le_of_ble_eq_true rfl) rfl (fun _u V1 h => ?_)
  refine r_iconst (pc := 4) dX9_text_4 ?_
  refine r_istore_n (ln := [some (sj_r (some a0)), some (sj_i 0)]) (pc := 5) dX9_text_5 rfl (Nat.le_of_ble_eq_true rfl) rfl ?_
  exact sj_weak (l2 := [some (sj_r (some a0)), some (sj_i 0)]) (⟨rfl, ⟨rfl, trivial⟩⟩) (st_X9_text_6 N a0 0 V1 ha0 h)
set_option maxHeartbeats 4000000 in
theorem cg_X9_text {X : sj_X} {g : sj_G} {N : Nat} {a0 : Nat} {V : sj_VV} {q : Int × sj_VV} (ha0 : OK9 g a0) (h : g_X9_text N a0 V = some q) : sj_C X m_X9_text [sj_r (some a0)] (g, V) (some (sj_i q.1), (g, q.2)) :=
  sj_C_of (by decide +kernel) (Nat.le_of_ble_eq_true rfl) (lo := [some (sj_r (some a0)), none]) rfl (sj_weak (l2 := [some (sj_r (some a0)), none]) (⟨rfl, trivial⟩) (st_X9_text_0 a0 V ha0 h))
set_option maxHeartbeats 4000000 in
theorem c_X9_text {X : sj_X} {N : Nat} {a0 : Nat} {s : sj_Mem} {q : Int × sj_Mem} (h : f_X9_text N a0 s = some q) : sj_C X m_X9_text [sj_r (some a0)] s (some (sj_i q.1), q.2) := by
  obtain ⟨g, V⟩ := s
  unfold f_X9_text at h
  obtain ⟨ho, h1⟩ := e_ok_some h
  obtain ⟨q2, h2, rfl⟩ := sj_map_some h1
  exact cg_X9_text ho h2
theorem dX9_end_0 : decode cX9_end 0 = .ok (.iload_n 1, 1) := by decide +kernel
theorem dX9_end_1 : decode cX9_end 1 = .ok (.i2l, 1) := by decide +kernel
theorem dX9_end_2 : decode cX9_end 2 = .ok (.lconst 0, 1) := by decide +kernel
theorem dX9_end_3 : decode cX9_end 3 = .ok (.aload_n 0, 1) := by decide +kernel
theorem dX9_end_4 : decode cX9_end 4 = .ok (.getfield 337, 3) := by decide +kernel
theorem dX9_end_7 : decode cX9_end 7 = .ok (.i2l, 1) := by decide +kernel
theorem dX9_end_8 : decode cX9_end 8 = .ok (.invokestatic 57, 3) := by decide +kernel
theorem dX9_end_11 : decode cX9_end 11 = .ok (.ifCond .ne 5, 3) := by decide +kernel
theorem dX9_end_14 : decode cX9_end 14 = .ok (.iconst 0, 1) := by decide +kernel
theorem dX9_end_15 : decode cX9_end 15 = .ok (.ireturn, 1) := by decide +kernel
theorem dX9_end_16 : decode cX9_end 16 = .ok (.aload_n 0, 1) := by decide +kernel
theorem dX9_end_17 : decode cX9_end 17 = .ok (.iload_n 1, 1) := by decide +kernel
theorem dX9_end_18 : decode cX9_end 18 = .ok (.putfield 337, 3) := by decide +kernel
theorem dX9_end_21 : decode cX9_end 21 = .ok (.iconst 1, 1) := by decide +kernel
theorem dX9_end_22 : decode cX9_end 22 = .ok (.ireturn, 1) := by decide +kernel
set_option maxHeartbeats 4000000 in
theorem st_X9_end_0 {X : sj_X} {g : sj_G} {s0 : sj_Mem} {N : Nat} {q : Int × sj_VV} :
    ∀ (a0 : Nat) (x1 : Int) (V : sj_VV), OK9 g a0 → g_X9_end N a0 x1 V = some q → sj_T X m_X9_end s0 (some (sj_i q.1), (g, q.2)) 0 [some (sj_r (some a0)), some (sj_i x1)] [] (g, V) := by
  intro a0 x1 V ha0 h
  unfold g_X9_end at h
  refine r_iload_n (pc := 0) dX9_end_0 rfl rfl ?_
  refine r_i2l (pc := 1) h dX9_end_1 (fun v1 h => ?_)
  refine r_lconst0 (pc := 2) dX9_end_2 ?_
  refine r_aload_n (pc := 3) dX9_end_3 rfl rfl ?_
  refine r_gIs (pc := 4) dX9_end_4 fw_X9_337 rfl (ok9 ha0) ?_
  refine r_i2l (pc := 7) h dX9_end_7 (fun v2 h => ?_)
  refine r_callSs (pc := 8) (fun v => some (sj_i v)) (As := [sj_j v1, sj_j 0, sj_j v2]) (rest := []) h dX9_end_8 mw_X9_57 kw_1225 (fun _ _ hc => cg_X9_isIn  hc) rfl ⟨(Nat.le_of_ble_eq_true rfl), (Nat.le_of_ble_eq_true rfl)⟩ (Nat.le_of_ble_eq_true rfl) rfl (fun v4 V3 h => ?_)
  refine r_if_ne (pc := 11) (tgt := 16) h dX9_end_11 (by decide) (fun h => ?_) (fun h => ?_)
  · refine r_iconst (pc := 14) dX9_end_14 ?_
    exact r_zrets (pc := 15) h rfl dX9_end_15
  · refine r_aload_n (pc := 16) dX9_end_16 rfl rfl ?_
    refine r_iload_n (pc := 17) dX9_end_17 rfl rfl ?_
    refine r_pIs (pc := 18) h dX9_end_18 fw_X9_337 rfl rfl (nf9_28) (ok9 ha0) (fun V5 h => ?_)
    refine r_iconst (pc := 21) dX9_end_21 ?_
    exact r_zrets (pc := 22) h rfl dX9_end_22
set_option maxHeartbeats 4000000 in
theorem cg_X9_end {X : sj_X} {g : sj_G} {N : Nat} {a0 : Nat} {x1 : Int} {V : sj_VV} {q : Int × sj_VV} (ha0 : OK9 g a0) (h : g_X9_end N a0 x1 V = some q) : sj_C X m_X9_end [sj_r (some a0), sj_i x1] (g, V) (some (sj_i q.1), (g, q.2)) :=
  sj_C_of (by decide +kernel) (Nat.le_of_ble_eq_true rfl) (lo := [some (sj_r (some a0)), some (sj_i x1)]) rfl (sj_weak (l2 := [some (sj_r (some a0)), some (sj_i x1)]) (⟨rfl, ⟨rfl, trivial⟩⟩) (st_X9_end_0 a0 x1 V ha0 h))
set_option maxHeartbeats 4000000 in
theorem c_X9_end {X : sj_X} {N : Nat} {a0 : Nat} {x1 : Int} {s : sj_Mem} {q : Int × sj_Mem} (h : f_X9_end N a0 x1 s = some q) : sj_C X m_X9_end [sj_r (some a0), sj_i x1] s (some (sj_i q.1), q.2) := by
  obtain ⟨g, V⟩ := s
  unfold f_X9_end at h
  obtain ⟨ho, h1⟩ := e_ok_some h
  obtain ⟨q2, h2, rfl⟩ := sj_map_some h1
  exact cg_X9_end ho h2
theorem dX9_comesWord_0 : decode cX9_comesWord 0 = .ok (.bipush 24, 2) := by decide +kernel
theorem dX9_comesWord_2 : decode cX9_comesWord 2 = .ok (.istore_n 2, 1) := by decide +kernel
theorem dX9_comesWord_3 : decode cX9_comesWord 3 = .ok (.iload_n 2, 1) := by decide +kernel
theorem dX9_comesWord_4 : decode cX9_comesWord 4 = .ok (.ifCond .lt 32, 3) := by decide +kernel
theorem dX9_comesWord_7 : decode cX9_comesWord 7 = .ok (.aload_n 0, 1) := by decide +kernel
theorem dX9_comesWord_8 : decode cX9_comesWord 8 = .ok (.getfield 42, 3) := by decide +kernel
theorem dX9_comesWord_11 : decode cX9_comesWord 11 = .ok (.aload_n 0, 1) := by decide +kernel
theorem dX9_comesWord_12 : decode cX9_comesWord 12 = .ok (.getfield 337, 3) := by decide +kernel
theorem dX9_comesWord_15 : decode cX9_comesWord 15 = .ok (.iload_n 1, 1) := by decide +kernel
theorem dX9_comesWord_16 : decode cX9_comesWord 16 = .ok (.iload_n 2, 1) := by decide +kernel
theorem dX9_comesWord_17 : decode cX9_comesWord 17 = .ok (.iushr, 1) := by decide +kernel
theorem dX9_comesWord_18 : decode cX9_comesWord 18 = .ok (.i2b, 1) := by decide +kernel
theorem dX9_comesWord_19 : decode cX9_comesWord 19 = .ok (.bastore, 1) := by decide +kernel
theorem dX9_comesWord_20 : decode cX9_comesWord 20 = .ok (.aload_n 0, 1) := by decide +kernel
theorem dX9_comesWord_21 : decode cX9_comesWord 21 = .ok (.dup, 1) := by decide +kernel
theorem dX9_comesWord_22 : decode cX9_comesWord 22 = .ok (.getfield 337, 3) := by decide +kernel
theorem dX9_comesWord_25 : decode cX9_comesWord 25 = .ok (.iconst 1, 1) := by decide +kernel
theorem dX9_comesWord_26 : decode cX9_comesWord 26 = .ok (.iadd, 1) := by decide +kernel
theorem dX9_comesWord_27 : decode cX9_comesWord 27 = .ok (.putfield 337, 3) := by decide +kernel
theorem dX9_comesWord_30 : decode cX9_comesWord 30 = .ok (.iinc 2 (-8), 3) := by decide +kernel
theorem dX9_comesWord_33 : decode cX9_comesWord 33 = .ok (.goto (-30), 3) := by decide +kernel
theorem dX9_comesWord_36 : decode cX9_comesWord 36 = .ok (.return_, 1) := by decide +kernel
set_option maxHeartbeats 4000000 in
theorem st_X9_comesWord_3_b {X : sj_X} {g : sj_G} {s0 : sj_Mem} {N : Nat} {q : Unit × sj_VV} {k3 : Nat → Int → Int → sj_VV → Option (Unit × sj_VV)} (hk3 : ∀ (a0 : Nat) (x1 : Int) (x2 : Int) (V : sj_VV), OK9 g a0 → k3 a0 x1 x2 V = some q → sj_T X m_X9_comesWord s0 (none, (g, q.2)) 3 [some (sj_r (some a0)), some (sj_i x1), some (sj_i x2)] [] (g, V)) :
    ∀ (a0 : Nat) (x1 : Int) (x2 : Int) (V : sj_VV), OK9 g a0 → g_X9_comesWord_3_b N k3 a0 x1 x2 V = some q → sj_T X m_X9_comesWord s0 (none, (g, q.2)) 3 [some (sj_r (some a0)), some (sj_i x1), some (sj_i x2)] [] (g, V) := by
  intro a0 x1 x2 V ha0 h
  unfold g_X9_comesWord_3_b at h
  refine r_iload_n (pc := 3) dX9_comesWord_3 rfl rfl ?_
  refine r_if_lt (pc := 4) (tgt := 36) h dX9_comesWord_4 (by decide) (fun h => ?_) (fun h => ?_)
  · exact r_vrets (pc := 36) h rfl dX9_comesWord_36
  · refine r_aload_n (pc := 7) dX9_comesWord_7 rfl rfl ?_
    refine r_gRs (b := a0 + 10) (pc := 8) dX9_comesWord_8 fw_X9_42 rfl (ok9 ha0) (ok9_27 ha0).1 ?_
    refine r_aload_n (pc := 11) dX9_comesWord_11 rfl rfl ?_
    refine r_gIs (pc := 12) dX9_comesWord_12 fw_X9_337 rfl (ok9 ha0) ?_
    refine r_iload_n (pc := 15) dX9_comesWord_15 rfl rfl ?_
    refine r_iload_n (pc := 16) dX9_comesWord_16 rfl rfl ?_
    refine r_iushr (pc := 17) h dX9_comesWord_17 (fun v1 h => ?_)
    refine r_i2b (pc := 18) dX9_comesWord_18 ?_
    refine r_bastores (pc := 19) h dX9_comesWord_19 (ok9_27 ha0).2 (fun V2 h => ?_)
    refine r_aload_n (pc := 20) dX9_comesWord_20 rfl rfl ?_
    refine r_dup (pc := 21) dX9_comesWord_21 rfl ?_
    refine r_gIs (pc := 22) dX9_comesWord_22 fw_X9_337 rfl (ok9 ha0) ?_
    refine r_iconst (pc := 25) dX9_comesWord_25 ?_
    refine r_iadd (pc := 26) dX9_comesWord_26 ?_
    refine r_pIs (pc := 27) h dX9_comesWord_27 fw_X9_337 rfl rfl (nf9_28) (ok9 ha0) (fun V3 h => ?_)
    refine r_iinc (ln := fun w => [some (sj_r (some a0)), some (sj_i x1), some (sj_i w)]) (pc := 30) h dX9_comesWord_30 rfl (Nat.le_of_ble_eq_true rfl) (fun _ => rfl) (fun v4 h => ?_)
    refine r_goto (pc := 33) (tgt := 3) dX9_comesWord_33 (by decide) ?_
    exact sj_weak (l2 := [some (sj_r (some a0)), some (sj_i x1), some (sj_i v4)]) (⟨rfl, ⟨rfl, ⟨rfl, trivial⟩⟩⟩) (hk3 a0 x1 v4 V3 ha0 h)
set_option maxHeartbeats 4000000 in
theorem st_X9_comesWord_3 {X : sj_X} {g : sj_G} {s0 : sj_Mem} {N : Nat} {q : Unit × sj_VV} :
    ∀ (n : Nat) (a0 : Nat) (x1 : Int) (x2 : Int) (V : sj_VV), OK9 g a0 → g_X9_comesWord_3 N n a0 x1 x2 V = some q → sj_T X m_X9_comesWord s0 (none, (g, q.2)) 3 [some (sj_r (some a0)), some (sj_i x1), some (sj_i x2)] [] (g, V) := by
  intro n
  induction n with
  | zero => intro a0 x1 x2 V ha0 h; exact nomatch h
  | succ n ih => intro a0 x1 x2 V ha0 h; exact st_X9_comesWord_3_b (N := N) ih a0 x1 x2 V ha0 h
set_option maxHeartbeats 4000000 in
theorem st_X9_comesWord_0 {X : sj_X} {g : sj_G} {s0 : sj_Mem} {N : Nat} {q : Unit × sj_VV} :
    ∀ (a0 : Nat) (x1 : Int) (V : sj_VV), OK9 g a0 → g_X9_comesWord N a0 x1 V = some q → sj_T X m_X9_comesWord s0 (none, (g, q.2)) 0 [some (sj_r (some a0)), some (sj_i x1), none] [] (g, V) := by
  intro a0 x1 V ha0 h
  unfold g_X9_comesWord at h
  refine r_bipush (pc := 0) dX9_comesWord_0 ⟨by decide, by decide⟩ ?_
  refine r_istore_n (ln := [some (sj_r (some a0)), some (sj_i x1), some (sj_i 24)]) (pc := 2) dX9_comesWord_2 rfl (Nat.le_of_ble_eq_true rfl) rfl ?_
  exact sj_weak (l2 := [some (sj_r (some a0)), some (sj_i x1), some (sj_i 24)]) (⟨rfl, ⟨rfl, ⟨rfl, trivial⟩⟩⟩) (st_X9_comesWord_3 N a0 x1 24 V ha0 h)
set_option maxHeartbeats 4000000 in
theorem cg_X9_comesWord {X : sj_X} {g : sj_G} {N : Nat} {a0 : Nat} {x1 : Int} {V : sj_VV} {q : Unit × sj_VV} (ha0 : OK9 g a0) (h : g_X9_comesWord N a0 x1 V = some q) : sj_C X m_X9_comesWord [sj_r (some a0), sj_i x1] (g, V) (none, (g, q.2)) :=
  sj_C_of (by decide +kernel) (Nat.le_of_ble_eq_true rfl) (lo := [some (sj_r (some a0)), some (sj_i x1), none]) rfl (sj_weak (l2 := [some (sj_r (some a0)), some (sj_i x1), none]) (⟨rfl, ⟨rfl, trivial⟩⟩) (st_X9_comesWord_0 a0 x1 V ha0 h))
set_option maxHeartbeats 4000000 in
theorem c_X9_comesWord {X : sj_X} {N : Nat} {a0 : Nat} {x1 : Int} {s : sj_Mem} {q : Unit × sj_Mem} (h : f_X9_comesWord N a0 x1 s = some q) : sj_C X m_X9_comesWord [sj_r (some a0), sj_i x1] s (none, q.2) := by
  obtain ⟨g, V⟩ := s
  unfold f_X9_comesWord at h
  obtain ⟨ho, h1⟩ := e_ok_some h
  obtain ⟨q2, h2, rfl⟩ := sj_map_some h1
  exact cg_X9_comesWord ho h2
theorem dX9_feed_0 : decode cX9_feed 0 = .ok (.aload_n 0, 1) := by decide +kernel
theorem dX9_feed_1 : decode cX9_feed 1 = .ok (.getfield 337, 3) := by decide +kernel
theorem dX9_feed_4 : decode cX9_feed 4 = .ok (.bipush 20, 2) := by decide +kernel
theorem dX9_feed_6 : decode cX9_feed 6 = .ok (.iadd, 1) := by decide +kernel
theorem dX9_feed_7 : decode cX9_feed 7 = .ok (.sipush 600, 3) := by decide +kernel
theorem dX9_feed_10 : decode cX9_feed 10 = .ok (.if_icmp .le 5, 3) := by decide +kernel
theorem dX9_feed_13 : decode cX9_feed 13 = .ok (.iconst (-1), 1) := by decide +kernel
theorem dX9_feed_14 : decode cX9_feed 14 = .ok (.ireturn, 1) := by decide +kernel
theorem dX9_feed_15 : decode cX9_feed 15 = .ok (.aload_n 0, 1) := by decide +kernel
theorem dX9_feed_16 : decode cX9_feed 16 = .ok (.iload_n 1, 1) := by decide +kernel
theorem dX9_feed_17 : decode cX9_feed 17 = .ok (.invokevirtual 340, 3) := by decide +kernel
theorem dX9_feed_20 : decode cX9_feed 20 = .ok (.aload_n 0, 1) := by decide +kernel
theorem dX9_feed_21 : decode cX9_feed 21 = .ok (.iload_n 2, 1) := by decide +kernel
theorem dX9_feed_22 : decode cX9_feed 22 = .ok (.invokevirtual 340, 3) := by decide +kernel
theorem dX9_feed_25 : decode cX9_feed 25 = .ok (.aload_n 0, 1) := by decide +kernel
theorem dX9_feed_26 : decode cX9_feed 26 = .ok (.iload_n 3, 1) := by decide +kernel
theorem dX9_feed_27 : decode cX9_feed 27 = .ok (.invokevirtual 340, 3) := by decide +kernel
theorem dX9_feed_30 : decode cX9_feed 30 = .ok (.aload_n 0, 1) := by decide +kernel
theorem dX9_feed_31 : decode cX9_feed 31 = .ok (.iload 4, 2) := by decide +kernel
theorem dX9_feed_33 : decode cX9_feed 33 = .ok (.invokevirtual 340, 3) := by decide +kernel
theorem dX9_feed_36 : decode cX9_feed 36 = .ok (.aload_n 0, 1) := by decide +kernel
theorem dX9_feed_37 : decode cX9_feed 37 = .ok (.iload 5, 2) := by decide +kernel
theorem dX9_feed_39 : decode cX9_feed 39 = .ok (.invokevirtual 340, 3) := by decide +kernel
theorem dX9_feed_42 : decode cX9_feed 42 = .ok (.aload_n 0, 1) := by decide +kernel
theorem dX9_feed_43 : decode cX9_feed 43 = .ok (.getfield 337, 3) := by decide +kernel
theorem dX9_feed_46 : decode cX9_feed 46 = .ok (.ireturn, 1) := by decide +kernel
set_option maxHeartbeats 4000000 in
theorem st_X9_feed_0 {X : sj_X} {g : sj_G} {s0 : sj_Mem} {N : Nat} {q : Int × sj_VV} :
    ∀ (a0 : Nat) (x1 : Int) (x2 : Int) (x3 : Int) (x4 : Int) (x5 : Int) (V : sj_VV), OK9 g a0 → g_X9_feed N a0 x1 x2 x3 x4 x5 V = some q → sj_T X m_X9_feed s0 (some (sj_i q.1), (g, q.2)) 0 [some (sj_r (some a0)), some (sj_i x1), some (sj_i x2), some (sj_i x3), some (sj_i x4), some (sj_i x5)] [] (g, V) := by
  intro a0 x1 x2 x3 x4 x5 V ha0 h
  unfold g_X9_feed at h
  refine r_aload_n (pc := 0) dX9_feed_0 rfl rfl ?_
  refine r_gIs (pc := 1) dX9_feed_1 fw_X9_337 rfl (ok9 ha0) ?_
  refine r_bipush (pc := 4) dX9_feed_4 ⟨by decide, by decide⟩ ?_
  refine r_iadd (pc := 6) dX9_feed_6 ?_
  refine r_sipush (pc := 7) dX9_feed_7 ⟨by decide, by decide⟩ ?_
  refine r_icmp_le (pc := 10) (tgt := 15) h dX9_feed_10 (by decide) (fun h => ?_) (fun h => ?_)
  · refine r_aload_n (pc := 15) dX9_feed_15 rfl rfl ?_
    refine r_iload_n (pc := 16) dX9_feed_16 rfl rfl ?_
    refine r_callVs (pc := 17) (fun _ => none) (As := [sj_i x1]) (rest := []) (b := a0) (ok9 ha0) h dX9_feed_17 mw_X9_340 vw_X9_comesWord (fun _ _ hc => cg_X9_comesWord ha0 hc) rfl ⟨(Nat.le_of_ble_eq_true rfl), (Nat.le_of_ble_eq_true rfl)⟩ (Nat.le_of_ble_eq_true rfl) rfl (fun _u V1 h => ?_)
    refine r_aload_n (pc := 20) dX9_feed_20 rfl rfl ?_
    refine r_iload_n (pc := 21) dX9_feed_21 rfl rfl ?_
    refine r_callVs (pc := 22) (fun _ => none) (As := [sj_i x2]) (rest := []) (b := a0) (ok9 ha0) h dX9_feed_22 mw_X9_340 vw_X9_comesWord (fun _ _ hc => cg_X9_comesWord ha0 hc) rfl ⟨(Nat.le_of_ble_eq_true rfl), (Nat.le_of_ble_eq_true rfl)⟩ (Nat.le_of_ble_eq_true rfl) rfl (fun _u V2 h => ?_)
    refine r_aload_n (pc := 25) dX9_feed_25 rfl rfl ?_
    refine r_iload_n (pc := 26) dX9_feed_26 rfl rfl ?_
    refine r_callVs (pc := 27) (fun _ => none) (As := [sj_i x3]) (rest := []) (b := a0) (ok9 ha0) h dX9_feed_27 mw_X9_340 vw_X9_comesWord (fun _ _ hc => cg_X9_comesWord ha0 hc) rfl ⟨(Nat.le_of_ble_eq_true rfl), (Nat.le_of_ble_eq_true rfl)⟩ (Nat.le_of_ble_eq_true rfl) rfl (fun _u V3 h => ?_)
    refine r_aload_n (pc := 30) dX9_feed_30 rfl rfl ?_
    refine r_iload (pc := 31) dX9_feed_31 rfl ?_
    refine r_callVs (pc := 33) (fun _ => none) (As := [sj_i x4]) (rest := []) (b := a0) (ok9 ha0) h dX9_feed_33 mw_X9_340 vw_X9_comesWord (fun _ _ hc => cg_X9_comesWord ha0 hc) rfl ⟨(Nat.le_of_ble_eq_true rfl), (Nat.le_of_ble_eq_true rfl)⟩ (Nat.le_of_ble_eq_true rfl) rfl (fun _u V4 h => ?_)
    refine r_aload_n (pc := 36) dX9_feed_36 rfl rfl ?_
    refine r_iload (pc := 37) dX9_feed_37 rfl ?_
    refine r_callVs (pc := 39) (fun _ => none) (As := [sj_i x5]) (rest := []) (b := a0) (ok9 ha0) h dX9_feed_39 mw_X9_340 vw_X9_comesWord (fun _ _ hc => cg_X9_comesWord ha0 hc) rfl ⟨(Nat.le_of_ble_eq_true rfl), (Nat.le_of_ble_eq_true rfl)⟩ (Nat.le_of_ble_eq_true rfl) rfl (fun _u V5 h => ?_)
    refine r_aload_n (pc := 42) dX9_feed_42 rfl rfl ?_
    refine r_gIs (pc := 43) dX9_feed_43 fw_X9_337 rfl (ok9 ha0) ?_
    exact r_irets (pc := 46) h rfl dX9_feed_46
  · refine r_iconst (pc := 13) dX9_feed_13 ?_
    exact r_irets (pc := 14) h rfl dX9_feed_14
set_option maxHeartbeats 4000000 in
theorem cg_X9_feed {X : sj_X} {g : sj_G} {N : Nat} {a0 : Nat} {x1 : Int} {x2 : Int} {x3 : Int} {x4 : Int} {x5 : Int} {V : sj_VV} {q : Int × sj_VV} (ha0 : OK9 g a0) (h : g_X9_feed N a0 x1 x2 x3 x4 x5 V = some q) : sj_C X m_X9_feed [sj_r (some a0), sj_i x1, sj_i x2, sj_i x3, sj_i x4, sj_i x5] (g, V) (some (sj_i q.1), (g, q.2)) :=
  sj_C_of (by decide +kernel) (Nat.le_of_ble_eq_true rfl) (lo := [some (sj_r (some a0)), some (sj_i x1), some (sj_i x2), some (sj_i x3), some (sj_i x4), some (sj_i x5)]) rfl (sj_weak (l2 := [some (sj_r (some a0)), some (sj_i x1), some (sj_i x2), some (sj_i x3), some (sj_i x4), some (sj_i x5)]) (⟨rfl, ⟨rfl, ⟨rfl, ⟨rfl, ⟨rfl, ⟨rfl, trivial⟩⟩⟩⟩⟩⟩) (st_X9_feed_0 a0 x1 x2 x3 x4 x5 V ha0 h))
set_option maxHeartbeats 4000000 in
theorem c_X9_feed {X : sj_X} {N : Nat} {a0 : Nat} {x1 : Int} {x2 : Int} {x3 : Int} {x4 : Int} {x5 : Int} {s : sj_Mem} {q : Int × sj_Mem} (h : f_X9_feed N a0 x1 x2 x3 x4 x5 s = some q) : sj_C X m_X9_feed [sj_r (some a0), sj_i x1, sj_i x2, sj_i x3, sj_i x4, sj_i x5] s (some (sj_i q.1), q.2) := by
  obtain ⟨g, V⟩ := s
  unfold f_X9_feed at h
  obtain ⟨ho, h1⟩ := e_ok_some h
  obtain ⟨q2, h2, rfl⟩ := sj_map_some h1
  exact cg_X9_feed ho h2
theorem dX9_anchor_0 : decode cX9_anchor 0 = .ok (.iload_n 1, 1) := by decide +kernel
theorem dX9_anchor_1 : decode cX9_anchor 1 = .ok (.i2l, 1) := by decide +kernel
theorem dX9_anchor_2 : decode cX9_anchor 2 = .ok (.lconst 0, 1) := by decide +kernel
theorem dX9_anchor_3 : decode cX9_anchor 3 = .ok (.ldc2_w 78, 3) := by decide +kernel
theorem dX9_anchor_6 : decode cX9_anchor 6 = .ok (.invokestatic 57, 3) := by decide +kernel
theorem dX9_anchor_9 : decode cX9_anchor 9 = .ok (.ifCond .eq 36, 3) := by decide +kernel
theorem dX9_anchor_12 : decode cX9_anchor 12 = .ok (.aload_n 0, 1) := by decide +kernel
theorem dX9_anchor_13 : decode cX9_anchor 13 = .ok (.iload_n 2, 1) := by decide +kernel
theorem dX9_anchor_14 : decode cX9_anchor 14 = .ok (.invokevirtual 74, 3) := by decide +kernel
theorem dX9_anchor_17 : decode cX9_anchor 17 = .ok (.ifCond .eq 28, 3) := by decide +kernel
theorem dX9_anchor_20 : decode cX9_anchor 20 = .ok (.iload_n 3, 1) := by decide +kernel
theorem dX9_anchor_21 : decode cX9_anchor 21 = .ok (.i2l, 1) := by decide +kernel
theorem dX9_anchor_22 : decode cX9_anchor 22 = .ok (.lconst 0, 1) := by decide +kernel
theorem dX9_anchor_23 : decode cX9_anchor 23 = .ok (.ldc2_w 82, 3) := by decide +kernel
theorem dX9_anchor_26 : decode cX9_anchor 26 = .ok (.invokestatic 57, 3) := by decide +kernel
theorem dX9_anchor_29 : decode cX9_anchor 29 = .ok (.ifCond .eq 16, 3) := by decide +kernel
theorem dX9_anchor_32 : decode cX9_anchor 32 = .ok (.iload 4, 2) := by decide +kernel
theorem dX9_anchor_34 : decode cX9_anchor 34 = .ok (.i2l, 1) := by decide +kernel
theorem dX9_anchor_35 : decode cX9_anchor 35 = .ok (.lconst 0, 1) := by decide +kernel
theorem dX9_anchor_36 : decode cX9_anchor 36 = .ok (.ldc2_w 80, 3) := by decide +kernel
theorem dX9_anchor_39 : decode cX9_anchor 39 = .ok (.invokestatic 57, 3) := by decide +kernel
theorem dX9_anchor_42 : decode cX9_anchor 42 = .ok (.ifCond .ne 5, 3) := by decide +kernel
theorem dX9_anchor_45 : decode cX9_anchor 45 = .ok (.iconst 0, 1) := by decide +kernel
theorem dX9_anchor_46 : decode cX9_anchor 46 = .ok (.ireturn, 1) := by decide +kernel
theorem dX9_anchor_47 : decode cX9_anchor 47 = .ok (.aload_n 0, 1) := by decide +kernel
theorem dX9_anchor_48 : decode cX9_anchor 48 = .ok (.getfield 9, 3) := by decide +kernel
theorem dX9_anchor_51 : decode cX9_anchor 51 = .ok (.sipush 302, 3) := by decide +kernel
theorem dX9_anchor_54 : decode cX9_anchor 54 = .ok (.iconst 3, 1) := by decide +kernel
theorem dX9_anchor_55 : decode cX9_anchor 55 = .ok (.iload_n 1, 1) := by decide +kernel
theorem dX9_anchor_56 : decode cX9_anchor 56 = .ok (.imul, 1) := by decide +kernel
theorem dX9_anchor_57 : decode cX9_anchor 57 = .ok (.iadd, 1) := by decide +kernel
theorem dX9_anchor_58 : decode cX9_anchor 58 = .ok (.iload_n 2, 1) := by decide +kernel
theorem dX9_anchor_59 : decode cX9_anchor 59 = .ok (.iastore, 1) := by decide +kernel
theorem dX9_anchor_60 : decode cX9_anchor 60 = .ok (.aload_n 0, 1) := by decide +kernel
theorem dX9_anchor_61 : decode cX9_anchor 61 = .ok (.getfield 9, 3) := by decide +kernel
theorem dX9_anchor_64 : decode cX9_anchor 64 = .ok (.sipush 302, 3) := by decide +kernel
theorem dX9_anchor_67 : decode cX9_anchor 67 = .ok (.iconst 3, 1) := by decide +kernel
theorem dX9_anchor_68 : decode cX9_anchor 68 = .ok (.iload_n 1, 1) := by decide +kernel
theorem dX9_anchor_69 : decode cX9_anchor 69 = .ok (.imul, 1) := by decide +kernel
theorem dX9_anchor_70 : decode cX9_anchor 70 = .ok (.iadd, 1) := by decide +kernel
theorem dX9_anchor_71 : decode cX9_anchor 71 = .ok (.iconst 1, 1) := by decide +kernel
theorem dX9_anchor_72 : decode cX9_anchor 72 = .ok (.iadd, 1) := by decide +kernel
theorem dX9_anchor_73 : decode cX9_anchor 73 = .ok (.iload_n 3, 1) := by decide +kernel
theorem dX9_anchor_74 : decode cX9_anchor 74 = .ok (.iastore, 1) := by decide +kernel
theorem dX9_anchor_75 : decode cX9_anchor 75 = .ok (.aload_n 0, 1) := by decide +kernel
theorem dX9_anchor_76 : decode cX9_anchor 76 = .ok (.getfield 9, 3) := by decide +kernel
theorem dX9_anchor_79 : decode cX9_anchor 79 = .ok (.sipush 302, 3) := by decide +kernel
theorem dX9_anchor_82 : decode cX9_anchor 82 = .ok (.iconst 3, 1) := by decide +kernel
theorem dX9_anchor_83 : decode cX9_anchor 83 = .ok (.iload_n 1, 1) := by decide +kernel
theorem dX9_anchor_84 : decode cX9_anchor 84 = .ok (.imul, 1) := by decide +kernel
theorem dX9_anchor_85 : decode cX9_anchor 85 = .ok (.iadd, 1) := by decide +kernel
theorem dX9_anchor_86 : decode cX9_anchor 86 = .ok (.iconst 2, 1) := by decide +kernel
theorem dX9_anchor_87 : decode cX9_anchor 87 = .ok (.iadd, 1) := by decide +kernel
theorem dX9_anchor_88 : decode cX9_anchor 88 = .ok (.iload 4, 2) := by decide +kernel
theorem dX9_anchor_90 : decode cX9_anchor 90 = .ok (.iastore, 1) := by decide +kernel
theorem dX9_anchor_91 : decode cX9_anchor 91 = .ok (.iconst 1, 1) := by decide +kernel
theorem dX9_anchor_92 : decode cX9_anchor 92 = .ok (.ireturn, 1) := by decide +kernel
set_option maxHeartbeats 4000000 in
theorem st_X9_anchor_0 {X : sj_X} {g : sj_G} {s0 : sj_Mem} {N : Nat} {q : Int × sj_VV} :
    ∀ (a0 : Nat) (x1 : Int) (x2 : Int) (x3 : Int) (x4 : Int) (V : sj_VV), OK9 g a0 → g_X9_anchor N a0 x1 x2 x3 x4 V = some q → sj_T X m_X9_anchor s0 (some (sj_i q.1), (g, q.2)) 0 [some (sj_r (some a0)), some (sj_i x1), some (sj_i x2), some (sj_i x3), some (sj_i x4)] [] (g, V) := by
  intro a0 x1 x2 x3 x4 V ha0 h
  unfold g_X9_anchor at h
  refine r_iload_n (pc := 0) dX9_anchor_0 rfl rfl ?_
  refine r_i2l (pc := 1) h dX9_anchor_1 (fun v1 h => ?_)
  refine r_lconst0 (pc := 2) dX9_anchor_2 ?_
  refine r_ldc2 (n := 5) (pc := 3) dX9_anchor_3 kc_X9_78 ?_
  refine r_callSs (pc := 6) (fun v => some (sj_i v)) (As := [sj_j v1, sj_j 0, sj_j 5]) (rest := []) h dX9_anchor_6 mw_X9_57 kw_1225 (fun _ _ hc => cg_X9_isIn  hc) rfl ⟨(Nat.le_of_ble_eq_true rfl), (Nat.le_of_ble_eq_true rfl)⟩ (Nat.le_of_ble_eq_true rfl) rfl (fun v3 V2 h => ?_)
  refine r_if_eq (pc := 9) (tgt := 45) h dX9_anchor_9 (by decide) (fun h => ?_) (fun h => ?_)
  · refine r_iconst (pc := 45) dX9_anchor_45 ?_
    exact r_zrets (pc := 46) h rfl dX9_anchor_46
  · refine r_aload_n (pc := 12) dX9_anchor_12 rfl rfl ?_
    refine r_iload_n (pc := 13) dX9_anchor_13 rfl rfl ?_
    refine r_callVs (pc := 14) (fun v => some (sj_i v)) (As := [sj_i x2]) (rest := []) (b := a0) (ok9 ha0) h dX9_anchor_14 mw_X9_74 vw_X9_isColumn (fun _ _ hc => cg_X9_isColumn ha0 hc) rfl ⟨(Nat.le_of_ble_eq_true rfl), (Nat.le_of_ble_eq_true rfl)⟩ (Nat.le_of_ble_eq_true rfl) rfl (fun v5 V4 h => ?_)
    refine r_if_eq (pc := 17) (tgt := 45) h dX9_anchor_17 (by decide) (fun h => ?_) (fun h => ?_)
    · refine r_iconst (pc := 45) dX9_anchor_45 ?_
      exact r_zrets (pc := 46) h rfl dX9_anchor_46
    · refine r_iload_n (pc := 20) dX9_anchor_20 rfl rfl ?_
      refine r_i2l (pc := 21) h dX9_anchor_21 (fun v6 h => ?_)
      refine r_lconst0 (pc := 22) dX9_anchor_22 ?_
      refine r_ldc2 (n := 100) (pc := 23) dX9_anchor_23 kc_X9_82 ?_
      refine r_callSs (pc := 26) (fun v => some (sj_i v)) (As := [sj_j v6, sj_j 0, sj_j 100]) (rest := []) h dX9_anchor_26 mw_X9_57 kw_1225 (fun _ _ hc => cg_X9_isIn  hc) rfl ⟨(Nat.le_of_ble_eq_true rfl), (Nat.le_of_ble_eq_true rfl)⟩ (Nat.le_of_ble_eq_true rfl) rfl (fun v8 V7 h => ?_)
      refine r_if_eq (pc := 29) (tgt := 45) h dX9_anchor_29 (by decide) (fun h => ?_) (fun h => ?_)
      · refine r_iconst (pc := 45) dX9_anchor_45 ?_
        exact r_zrets (pc := 46) h rfl dX9_anchor_46
      · refine r_iload (pc := 32) dX9_anchor_32 rfl ?_
        refine r_i2l (pc := 34) h dX9_anchor_34 (fun v9 h => ?_)
        refine r_lconst0 (pc := 35) dX9_anchor_35 ?_
        refine r_ldc2 (n := 500) (pc := 36) dX9_anchor_36 kc_X9_80 ?_
        refine r_callSs (pc := 39) (fun v => some (sj_i v)) (As := [sj_j v9, sj_j 0, sj_j 500]) (rest := []) h dX9_anchor_39 mw_X9_57 kw_1225 (fun _ _ hc => cg_X9_isIn  hc) rfl ⟨(Nat.le_of_ble_eq_true rfl), (Nat.le_of_ble_eq_true rfl)⟩ (Nat.le_of_ble_eq_true rfl) rfl (fun v11 V10 h => ?_)
        refine r_if_ne (pc := 42) (tgt := 47) h dX9_anchor_42 (by decide) (fun h => ?_) (fun h => ?_)
        · refine r_iconst (pc := 45) dX9_anchor_45 ?_
          exact r_zrets (pc := 46) h rfl dX9_anchor_46
        · refine r_aload_n (pc := 47) dX9_anchor_47 rfl rfl ?_
          refine r_gRs (b := a0 + 1) (pc := 48) dX9_anchor_48 fw_X9_9 rfl (ok9 ha0) (ok9_0 ha0).1 ?_
          refine r_sipush (pc := 51) dX9_anchor_51 ⟨by decide, by decide⟩ ?_
          refine r_iconst (pc := 54) dX9_anchor_54 ?_
          refine r_iload_n (pc := 55) dX9_anchor_55 rfl rfl ?_
          refine r_imul (pc := 56) dX9_anchor_56 ?_
          refine r_iadd (pc := 57) dX9_anchor_57 ?_
          refine r_iload_n (pc := 58) dX9_anchor_58 rfl rfl ?_
          refine r_iastores (pc := 59) h dX9_anchor_59 (ok9_0 ha0).2 (fun V12 h => ?_)
          refine r_aload_n (pc := 60) dX9_anchor_60 rfl rfl ?_
          refine r_gRs (b := a0 + 1) (pc := 61) dX9_anchor_61 fw_X9_9 rfl (ok9 ha0) (ok9_0 ha0).1 ?_
          refine r_sipush (pc := 64) dX9_anchor_64 ⟨by decide, by decide⟩ ?_
          refine r_iconst (pc := 67) dX9_anchor_67 ?_
          refine r_iload_n (pc := 68) dX9_anchor_68 rfl rfl ?_
          refine r_imul (pc := 69) dX9_anchor_69 ?_
          refine r_iadd (pc := 70) dX9_anchor_70 ?_
          refine r_iconst (pc := 71) dX9_anchor_71 ?_
          refine r_iadd (pc := 72) dX9_anchor_72 ?_
          refine r_iload_n (pc := 73) dX9_anchor_73 rfl rfl ?_
          refine r_iastores (pc := 74) h dX9_anchor_74 (ok9_0 ha0).2 (fun V13 h => ?_)
          refine r_aload_n (pc := 75) dX9_anchor_75 rfl rfl ?_
          refine r_gRs (b := a0 + 1) (pc := 76) dX9_anchor_76 fw_X9_9 rfl (ok9 ha0) (ok9_0 ha0).1 ?_
          refine r_sipush (pc := 79) dX9_anchor_79 ⟨by decide, by decide⟩ ?_
          refine r_iconst (pc := 82) dX9_anchor_82 ?_
          refine r_iload_n (pc := 83) dX9_anchor_83 rfl rfl ?_
          refine r_imul (pc := 84) dX9_anchor_84 ?_
          refine r_iadd (pc := 85) dX9_anchor_85 ?_
          refine r_iconst (pc := 86) dX9_anchor_86 ?_
          refine r_iadd (pc := 87) dX9_anchor_87 ?_
          refine r_iload (pc := 88) dX9_anchor_88 rfl ?_
          refine r_iastores (pc := 90) h dX9_anchor_90 (ok9_0 ha0).2 (fun V14 h => ?_)
          refine r_iconst (pc := 91) dX9_anchor_91 ?_
          exact r_zrets (pc := 92) h rfl dX9_anchor_92
set_option maxHeartbeats 4000000 in
theorem cg_X9_anchor {X : sj_X} {g : sj_G} {N : Nat} {a0 : Nat} {x1 : Int} {x2 : Int} {x3 : Int} {x4 : Int} {V : sj_VV} {q : Int × sj_VV} (ha0 : OK9 g a0) (h : g_X9_anchor N a0 x1 x2 x3 x4 V = some q) : sj_C X m_X9_anchor [sj_r (some a0), sj_i x1, sj_i x2, sj_i x3, sj_i x4] (g, V) (some (sj_i q.1), (g, q.2)) :=
  sj_C_of (by decide +kernel) (Nat.le_of_ble_eq_true rfl) (lo := [some (sj_r (some a0)), some (sj_i x1), some (sj_i x2), some (sj_i x3), some (sj_i x4)]) rfl (sj_weak (l2 := [some (sj_r (some a0)), some (sj_i x1), some (sj_i x2), some (sj_i x3), some (sj_i x4)]) (⟨rfl, ⟨rfl, ⟨rfl, ⟨rfl, ⟨rfl, trivial⟩⟩⟩⟩⟩) (st_X9_anchor_0 a0 x1 x2 x3 x4 V ha0 h))
set_option maxHeartbeats 4000000 in
theorem c_X9_anchor {X : sj_X} {N : Nat} {a0 : Nat} {x1 : Int} {x2 : Int} {x3 : Int} {x4 : Int} {s : sj_Mem} {q : Int × sj_Mem} (h : f_X9_anchor N a0 x1 x2 x3 x4 s = some q) : sj_C X m_X9_anchor [sj_r (some a0), sj_i x1, sj_i x2, sj_i x3, sj_i x4] s (some (sj_i q.1), q.2) := by
  obtain ⟨g, V⟩ := s
  unfold f_X9_anchor at h
  obtain ⟨ho, h1⟩ := e_ok_some h
  obtain ⟨q2, h2, rfl⟩ := sj_map_some h1
  exact cg_X9_anchor ho h2
theorem dX9_quake_0 : decode cX9_quake 0 = .ok (.iload_n 1, 1) := by decide +kernel
theorem dX9_quake_1 : decode cX9_quake 1 = .ok (.i2l, 1) := by decide +kernel
theorem dX9_quake_2 : decode cX9_quake 2 = .ok (.lconst 0, 1) := by decide +kernel
theorem dX9_quake_3 : decode cX9_quake 3 = .ok (.ldc2_w 80, 3) := by decide +kernel
theorem dX9_quake_6 : decode cX9_quake 6 = .ok (.invokestatic 57, 3) := by decide +kernel
theorem dX9_quake_9 : decode cX9_quake 9 = .ok (.ifCond .ne 5, 3) := by decide +kernel
theorem dX9_quake_12 : decode cX9_quake 12 = .ok (.iconst 0, 1) := by decide +kernel
theorem dX9_quake_13 : decode cX9_quake 13 = .ok (.ireturn, 1) := by decide +kernel
theorem dX9_quake_14 : decode cX9_quake 14 = .ok (.aload_n 0, 1) := by decide +kernel
theorem dX9_quake_15 : decode cX9_quake 15 = .ok (.getfield 9, 3) := by decide +kernel
theorem dX9_quake_18 : decode cX9_quake 18 = .ok (.iconst 2, 1) := by decide +kernel
theorem dX9_quake_19 : decode cX9_quake 19 = .ok (.iload_n 1, 1) := by decide +kernel
theorem dX9_quake_20 : decode cX9_quake 20 = .ok (.iastore, 1) := by decide +kernel
theorem dX9_quake_21 : decode cX9_quake 21 = .ok (.iconst 1, 1) := by decide +kernel
theorem dX9_quake_22 : decode cX9_quake 22 = .ok (.ireturn, 1) := by decide +kernel
set_option maxHeartbeats 4000000 in
theorem st_X9_quake_0 {X : sj_X} {g : sj_G} {s0 : sj_Mem} {N : Nat} {q : Int × sj_VV} :
    ∀ (a0 : Nat) (x1 : Int) (V : sj_VV), OK9 g a0 → g_X9_quake N a0 x1 V = some q → sj_T X m_X9_quake s0 (some (sj_i q.1), (g, q.2)) 0 [some (sj_r (some a0)), some (sj_i x1)] [] (g, V) := by
  intro a0 x1 V ha0 h
  unfold g_X9_quake at h
  refine r_iload_n (pc := 0) dX9_quake_0 rfl rfl ?_
  refine r_i2l (pc := 1) h dX9_quake_1 (fun v1 h => ?_)
  refine r_lconst0 (pc := 2) dX9_quake_2 ?_
  refine r_ldc2 (n := 500) (pc := 3) dX9_quake_3 kc_X9_80 ?_
  refine r_callSs (pc := 6) (fun v => some (sj_i v)) (As := [sj_j v1, sj_j 0, sj_j 500]) (rest := []) h dX9_quake_6 mw_X9_57 kw_1225 (fun _ _ hc => cg_X9_isIn  hc) rfl ⟨(Nat.le_of_ble_eq_true rfl), (Nat.le_of_ble_eq_true rfl)⟩ (Nat.le_of_ble_eq_true rfl) rfl (fun v3 V2 h => ?_)
  refine r_if_ne (pc := 9) (tgt := 14) h dX9_quake_9 (by decide) (fun h => ?_) (fun h => ?_)
  · refine r_iconst (pc := 12) dX9_quake_12 ?_
    exact r_zrets (pc := 13) h rfl dX9_quake_13
  · refine r_aload_n (pc := 14) dX9_quake_14 rfl rfl ?_
    refine r_gRs (b := a0 + 1) (pc := 15) dX9_quake_15 fw_X9_9 rfl (ok9 ha0) (ok9_0 ha0).1 ?_
    refine r_iconst (pc := 18) dX9_quake_18 ?_
    refine r_iload_n (pc := 19) dX9_quake_19 rfl rfl ?_
    refine r_iastores (pc := 20) h dX9_quake_20 (ok9_0 ha0).2 (fun V4 h => ?_)
    refine r_iconst (pc := 21) dX9_quake_21 ?_
    exact r_zrets (pc := 22) h rfl dX9_quake_22
set_option maxHeartbeats 4000000 in
theorem cg_X9_quake {X : sj_X} {g : sj_G} {N : Nat} {a0 : Nat} {x1 : Int} {V : sj_VV} {q : Int × sj_VV} (ha0 : OK9 g a0) (h : g_X9_quake N a0 x1 V = some q) : sj_C X m_X9_quake [sj_r (some a0), sj_i x1] (g, V) (some (sj_i q.1), (g, q.2)) :=
  sj_C_of (by decide +kernel) (Nat.le_of_ble_eq_true rfl) (lo := [some (sj_r (some a0)), some (sj_i x1)]) rfl (sj_weak (l2 := [some (sj_r (some a0)), some (sj_i x1)]) (⟨rfl, ⟨rfl, trivial⟩⟩) (st_X9_quake_0 a0 x1 V ha0 h))
set_option maxHeartbeats 4000000 in
theorem c_X9_quake {X : sj_X} {N : Nat} {a0 : Nat} {x1 : Int} {s : sj_Mem} {q : Int × sj_Mem} (h : f_X9_quake N a0 x1 s = some q) : sj_C X m_X9_quake [sj_r (some a0), sj_i x1] s (some (sj_i q.1), q.2) := by
  obtain ⟨g, V⟩ := s
  unfold f_X9_quake at h
  obtain ⟨ho, h1⟩ := e_ok_some h
  obtain ⟨q2, h2, rfl⟩ := sj_map_some h1
  exact cg_X9_quake ho h2
theorem dX9_soil_0 : decode cX9_soil 0 = .ok (.iload_n 1, 1) := by decide +kernel
theorem dX9_soil_1 : decode cX9_soil 1 = .ok (.i2l, 1) := by decide +kernel
theorem dX9_soil_2 : decode cX9_soil 2 = .ok (.lconst 0, 1) := by decide +kernel
theorem dX9_soil_3 : decode cX9_soil 3 = .ok (.ldc2_w 96, 3) := by decide +kernel
theorem dX9_soil_6 : decode cX9_soil 6 = .ok (.invokestatic 57, 3) := by decide +kernel
theorem dX9_soil_9 : decode cX9_soil 9 = .ok (.ifCond .eq 40, 3) := by decide +kernel
theorem dX9_soil_12 : decode cX9_soil 12 = .ok (.iload_n 2, 1) := by decide +kernel
theorem dX9_soil_13 : decode cX9_soil 13 = .ok (.i2l, 1) := by decide +kernel
theorem dX9_soil_14 : decode cX9_soil 14 = .ok (.lconst 1, 1) := by decide +kernel
theorem dX9_soil_15 : decode cX9_soil 15 = .ok (.ldc2_w 98, 3) := by decide +kernel
theorem dX9_soil_18 : decode cX9_soil 18 = .ok (.invokestatic 57, 3) := by decide +kernel
theorem dX9_soil_21 : decode cX9_soil 21 = .ok (.ifCond .eq 28, 3) := by decide +kernel
theorem dX9_soil_24 : decode cX9_soil 24 = .ok (.iload_n 3, 1) := by decide +kernel
theorem dX9_soil_25 : decode cX9_soil 25 = .ok (.i2l, 1) := by decide +kernel
theorem dX9_soil_26 : decode cX9_soil 26 = .ok (.lconst 0, 1) := by decide +kernel
theorem dX9_soil_27 : decode cX9_soil 27 = .ok (.ldc2_w 100, 3) := by decide +kernel
theorem dX9_soil_30 : decode cX9_soil 30 = .ok (.invokestatic 57, 3) := by decide +kernel
theorem dX9_soil_33 : decode cX9_soil 33 = .ok (.ifCond .eq 16, 3) := by decide +kernel
theorem dX9_soil_36 : decode cX9_soil 36 = .ok (.iload 4, 2) := by decide +kernel
theorem dX9_soil_38 : decode cX9_soil 38 = .ok (.i2l, 1) := by decide +kernel
theorem dX9_soil_39 : decode cX9_soil 39 = .ok (.lconst 0, 1) := by decide +kernel
theorem dX9_soil_40 : decode cX9_soil 40 = .ok (.ldc2_w 102, 3) := by decide +kernel
theorem dX9_soil_43 : decode cX9_soil 43 = .ok (.invokestatic 57, 3) := by decide +kernel
theorem dX9_soil_46 : decode cX9_soil 46 = .ok (.ifCond .ne 5, 3) := by decide +kernel
theorem dX9_soil_49 : decode cX9_soil 49 = .ok (.iconst 0, 1) := by decide +kernel
theorem dX9_soil_50 : decode cX9_soil 50 = .ok (.ireturn, 1) := by decide +kernel
theorem dX9_soil_51 : decode cX9_soil 51 = .ok (.aload_n 0, 1) := by decide +kernel
theorem dX9_soil_52 : decode cX9_soil 52 = .ok (.getfield 9, 3) := by decide +kernel
theorem dX9_soil_55 : decode cX9_soil 55 = .ok (.sipush 290, 3) := by decide +kernel
theorem dX9_soil_58 : decode cX9_soil 58 = .ok (.iconst 3, 1) := by decide +kernel
theorem dX9_soil_59 : decode cX9_soil 59 = .ok (.iload_n 1, 1) := by decide +kernel
theorem dX9_soil_60 : decode cX9_soil 60 = .ok (.imul, 1) := by decide +kernel
theorem dX9_soil_61 : decode cX9_soil 61 = .ok (.iadd, 1) := by decide +kernel
theorem dX9_soil_62 : decode cX9_soil 62 = .ok (.iload_n 2, 1) := by decide +kernel
theorem dX9_soil_63 : decode cX9_soil 63 = .ok (.iastore, 1) := by decide +kernel
theorem dX9_soil_64 : decode cX9_soil 64 = .ok (.aload_n 0, 1) := by decide +kernel
theorem dX9_soil_65 : decode cX9_soil 65 = .ok (.getfield 9, 3) := by decide +kernel
theorem dX9_soil_68 : decode cX9_soil 68 = .ok (.sipush 290, 3) := by decide +kernel
theorem dX9_soil_71 : decode cX9_soil 71 = .ok (.iconst 3, 1) := by decide +kernel
theorem dX9_soil_72 : decode cX9_soil 72 = .ok (.iload_n 1, 1) := by decide +kernel
theorem dX9_soil_73 : decode cX9_soil 73 = .ok (.imul, 1) := by decide +kernel
theorem dX9_soil_74 : decode cX9_soil 74 = .ok (.iadd, 1) := by decide +kernel
theorem dX9_soil_75 : decode cX9_soil 75 = .ok (.iconst 1, 1) := by decide +kernel
theorem dX9_soil_76 : decode cX9_soil 76 = .ok (.iadd, 1) := by decide +kernel
theorem dX9_soil_77 : decode cX9_soil 77 = .ok (.iload_n 3, 1) := by decide +kernel
theorem dX9_soil_78 : decode cX9_soil 78 = .ok (.iastore, 1) := by decide +kernel
theorem dX9_soil_79 : decode cX9_soil 79 = .ok (.aload_n 0, 1) := by decide +kernel
theorem dX9_soil_80 : decode cX9_soil 80 = .ok (.getfield 9, 3) := by decide +kernel
theorem dX9_soil_83 : decode cX9_soil 83 = .ok (.sipush 290, 3) := by decide +kernel
theorem dX9_soil_86 : decode cX9_soil 86 = .ok (.iconst 3, 1) := by decide +kernel
theorem dX9_soil_87 : decode cX9_soil 87 = .ok (.iload_n 1, 1) := by decide +kernel
theorem dX9_soil_88 : decode cX9_soil 88 = .ok (.imul, 1) := by decide +kernel
theorem dX9_soil_89 : decode cX9_soil 89 = .ok (.iadd, 1) := by decide +kernel
theorem dX9_soil_90 : decode cX9_soil 90 = .ok (.iconst 2, 1) := by decide +kernel
theorem dX9_soil_91 : decode cX9_soil 91 = .ok (.iadd, 1) := by decide +kernel
theorem dX9_soil_92 : decode cX9_soil 92 = .ok (.iload 4, 2) := by decide +kernel
theorem dX9_soil_94 : decode cX9_soil 94 = .ok (.iastore, 1) := by decide +kernel
theorem dX9_soil_95 : decode cX9_soil 95 = .ok (.iconst 1, 1) := by decide +kernel
theorem dX9_soil_96 : decode cX9_soil 96 = .ok (.ireturn, 1) := by decide +kernel
set_option maxHeartbeats 4000000 in
theorem st_X9_soil_0 {X : sj_X} {g : sj_G} {s0 : sj_Mem} {N : Nat} {q : Int × sj_VV} :
    ∀ (a0 : Nat) (x1 : Int) (x2 : Int) (x3 : Int) (x4 : Int) (V : sj_VV), OK9 g a0 → g_X9_soil N a0 x1 x2 x3 x4 V = some q → sj_T X m_X9_soil s0 (some (sj_i q.1), (g, q.2)) 0 [some (sj_r (some a0)), some (sj_i x1), some (sj_i x2), some (sj_i x3), some (sj_i x4)] [] (g, V) := by
  intro a0 x1 x2 x3 x4 V ha0 h
  unfold g_X9_soil at h
  refine r_iload_n (pc := 0) dX9_soil_0 rfl rfl ?_
  refine r_i2l (pc := 1) h dX9_soil_1 (fun v1 h => ?_)
  refine r_lconst0 (pc := 2) dX9_soil_2 ?_
  refine r_ldc2 (n := 3) (pc := 3) dX9_soil_3 kc_X9_96 ?_
  refine r_callSs (pc := 6) (fun v => some (sj_i v)) (As := [sj_j v1, sj_j 0, sj_j 3]) (rest := []) h dX9_soil_6 mw_X9_57 kw_1225 (fun _ _ hc => cg_X9_isIn  hc) rfl ⟨(Nat.le_of_ble_eq_true rfl), (Nat.le_of_ble_eq_true rfl)⟩ (Nat.le_of_ble_eq_true rfl) rfl (fun v3 V2 h => ?_)
  refine r_if_eq (pc := 9) (tgt := 49) h dX9_soil_9 (by decide) (fun h => ?_) (fun h => ?_)
  · refine r_iconst (pc := 49) dX9_soil_49 ?_
    exact r_zrets (pc := 50) h rfl dX9_soil_50
  · refine r_iload_n (pc := 12) dX9_soil_12 rfl rfl ?_
    refine r_i2l (pc := 13) h dX9_soil_13 (fun v4 h => ?_)
    refine r_lconst1 (pc := 14) dX9_soil_14 ?_
    refine r_ldc2 (n := 30) (pc := 15) dX9_soil_15 kc_X9_98 ?_
    refine r_callSs (pc := 18) (fun v => some (sj_i v)) (As := [sj_j v4, sj_j 1, sj_j 30]) (rest := []) h dX9_soil_18 mw_X9_57 kw_1225 (fun _ _ hc => cg_X9_isIn  hc) rfl ⟨(Nat.le_of_ble_eq_true rfl), (Nat.le_of_ble_eq_true rfl)⟩ (Nat.le_of_ble_eq_true rfl) rfl (fun v6 V5 h => ?_)
    refine r_if_eq (pc := 21) (tgt := 49) h dX9_soil_21 (by decide) (fun h => ?_) (fun h => ?_)
    · refine r_iconst (pc := 49) dX9_soil_49 ?_
      exact r_zrets (pc := 50) h rfl dX9_soil_50
    · refine r_iload_n (pc := 24) dX9_soil_24 rfl rfl ?_
      refine r_i2l (pc := 25) h dX9_soil_25 (fun v7 h => ?_)
      refine r_lconst0 (pc := 26) dX9_soil_26 ?_
      refine r_ldc2 (n := 200) (pc := 27) dX9_soil_27 kc_X9_100 ?_
      refine r_callSs (pc := 30) (fun v => some (sj_i v)) (As := [sj_j v7, sj_j 0, sj_j 200]) (rest := []) h dX9_soil_30 mw_X9_57 kw_1225 (fun _ _ hc => cg_X9_isIn  hc) rfl ⟨(Nat.le_of_ble_eq_true rfl), (Nat.le_of_ble_eq_true rfl)⟩ (Nat.le_of_ble_eq_true rfl) rfl (fun v9 V8 h => ?_)
      refine r_if_eq (pc := 33) (tgt := 49) h dX9_soil_33 (by decide) (fun h => ?_) (fun h => ?_)
      · refine r_iconst (pc := 49) dX9_soil_49 ?_
        exact r_zrets (pc := 50) h rfl dX9_soil_50
      · refine r_iload (pc := 36) dX9_soil_36 rfl ?_
        refine r_i2l (pc := 38) h dX9_soil_38 (fun v10 h => ?_)
        refine r_lconst0 (pc := 39) dX9_soil_39 ?_
        refine r_ldc2 (n := 1500) (pc := 40) dX9_soil_40 kc_X9_102 ?_
        refine r_callSs (pc := 43) (fun v => some (sj_i v)) (As := [sj_j v10, sj_j 0, sj_j 1500]) (rest := []) h dX9_soil_43 mw_X9_57 kw_1225 (fun _ _ hc => cg_X9_isIn  hc) rfl ⟨(Nat.le_of_ble_eq_true rfl), (Nat.le_of_ble_eq_true rfl)⟩ (Nat.le_of_ble_eq_true rfl) rfl (fun v12 V11 h => ?_)
        refine r_if_ne (pc := 46) (tgt := 51) h dX9_soil_46 (by decide) (fun h => ?_) (fun h => ?_)
        · refine r_iconst (pc := 49) dX9_soil_49 ?_
          exact r_zrets (pc := 50) h rfl dX9_soil_50
        · refine r_aload_n (pc := 51) dX9_soil_51 rfl rfl ?_
          refine r_gRs (b := a0 + 1) (pc := 52) dX9_soil_52 fw_X9_9 rfl (ok9 ha0) (ok9_0 ha0).1 ?_
          refine r_sipush (pc := 55) dX9_soil_55 ⟨by decide, by decide⟩ ?_
          refine r_iconst (pc := 58) dX9_soil_58 ?_
          refine r_iload_n (pc := 59) dX9_soil_59 rfl rfl ?_
          refine r_imul (pc := 60) dX9_soil_60 ?_
          refine r_iadd (pc := 61) dX9_soil_61 ?_
          refine r_iload_n (pc := 62) dX9_soil_62 rfl rfl ?_
          refine r_iastores (pc := 63) h dX9_soil_63 (ok9_0 ha0).2 (fun V13 h => ?_)
          refine r_aload_n (pc := 64) dX9_soil_64 rfl rfl ?_
          refine r_gRs (b := a0 + 1) (pc := 65) dX9_soil_65 fw_X9_9 rfl (ok9 ha0) (ok9_0 ha0).1 ?_
          refine r_sipush (pc := 68) dX9_soil_68 ⟨by decide, by decide⟩ ?_
          refine r_iconst (pc := 71) dX9_soil_71 ?_
          refine r_iload_n (pc := 72) dX9_soil_72 rfl rfl ?_
          refine r_imul (pc := 73) dX9_soil_73 ?_
          refine r_iadd (pc := 74) dX9_soil_74 ?_
          refine r_iconst (pc := 75) dX9_soil_75 ?_
          refine r_iadd (pc := 76) dX9_soil_76 ?_
          refine r_iload_n (pc := 77) dX9_soil_77 rfl rfl ?_
          refine r_iastores (pc := 78) h dX9_soil_78 (ok9_0 ha0).2 (fun V14 h => ?_)
          refine r_aload_n (pc := 79) dX9_soil_79 rfl rfl ?_
          refine r_gRs (b := a0 + 1) (pc := 80) dX9_soil_80 fw_X9_9 rfl (ok9 ha0) (ok9_0 ha0).1 ?_
          refine r_sipush (pc := 83) dX9_soil_83 ⟨by decide, by decide⟩ ?_
          refine r_iconst (pc := 86) dX9_soil_86 ?_
          refine r_iload_n (pc := 87) dX9_soil_87 rfl rfl ?_
          refine r_imul (pc := 88) dX9_soil_88 ?_
          refine r_iadd (pc := 89) dX9_soil_89 ?_
          refine r_iconst (pc := 90) dX9_soil_90 ?_
          refine r_iadd (pc := 91) dX9_soil_91 ?_
          refine r_iload (pc := 92) dX9_soil_92 rfl ?_
          refine r_iastores (pc := 94) h dX9_soil_94 (ok9_0 ha0).2 (fun V15 h => ?_)
          refine r_iconst (pc := 95) dX9_soil_95 ?_
          exact r_zrets (pc := 96) h rfl dX9_soil_96
set_option maxHeartbeats 4000000 in
theorem cg_X9_soil {X : sj_X} {g : sj_G} {N : Nat} {a0 : Nat} {x1 : Int} {x2 : Int} {x3 : Int} {x4 : Int} {V : sj_VV} {q : Int × sj_VV} (ha0 : OK9 g a0) (h : g_X9_soil N a0 x1 x2 x3 x4 V = some q) : sj_C X m_X9_soil [sj_r (some a0), sj_i x1, sj_i x2, sj_i x3, sj_i x4] (g, V) (some (sj_i q.1), (g, q.2)) :=
  sj_C_of (by decide +kernel) (Nat.le_of_ble_eq_true rfl) (lo := [some (sj_r (some a0)), some (sj_i x1), some (sj_i x2), some (sj_i x3), some (sj_i x4)]) rfl (sj_weak (l2 := [some (sj_r (some a0)), some (sj_i x1), some (sj_i x2), some (sj_i x3), some (sj_i x4)]) (⟨rfl, ⟨rfl, ⟨rfl, ⟨rfl, ⟨rfl, trivial⟩⟩⟩⟩⟩) (st_X9_soil_0 a0 x1 x2 x3 x4 V ha0 h))
set_option maxHeartbeats 4000000 in
theorem c_X9_soil {X : sj_X} {N : Nat} {a0 : Nat} {x1 : Int} {x2 : Int} {x3 : Int} {x4 : Int} {s : sj_Mem} {q : Int × sj_Mem} (h : f_X9_soil N a0 x1 x2 x3 x4 s = some q) : sj_C X m_X9_soil [sj_r (some a0), sj_i x1, sj_i x2, sj_i x3, sj_i x4] s (some (sj_i q.1), q.2) := by
  obtain ⟨g, V⟩ := s
  unfold f_X9_soil at h
  obtain ⟨ho, h1⟩ := e_ok_some h
  obtain ⟨q2, h2, rfl⟩ := sj_map_some h1
  exact cg_X9_soil ho h2
theorem dX9_dig_0 : decode cX9_dig 0 = .ok (.aload_n 0, 1) := by decide +kernel
theorem dX9_dig_1 : decode cX9_dig 1 = .ok (.iload_n 1, 1) := by decide +kernel
theorem dX9_dig_2 : decode cX9_dig 2 = .ok (.iload_n 2, 1) := by decide +kernel
theorem dX9_dig_3 : decode cX9_dig 3 = .ok (.invokevirtual 84, 3) := by decide +kernel
theorem dX9_dig_6 : decode cX9_dig 6 = .ok (.ifCond .ne 5, 3) := by decide +kernel
theorem dX9_dig_9 : decode cX9_dig 9 = .ok (.iconst (-1), 1) := by decide +kernel
theorem dX9_dig_10 : decode cX9_dig 10 = .ok (.ireturn, 1) := by decide +kernel
theorem dX9_dig_11 : decode cX9_dig 11 = .ok (.aload_n 0, 1) := by decide +kernel
theorem dX9_dig_12 : decode cX9_dig 12 = .ok (.aload_n 0, 1) := by decide +kernel
theorem dX9_dig_13 : decode cX9_dig 13 = .ok (.getfield 9, 3) := by decide +kernel
theorem dX9_dig_16 : decode cX9_dig 16 = .ok (.invokevirtual 70, 3) := by decide +kernel
theorem dX9_dig_19 : decode cX9_dig 19 = .ok (.aload_n 0, 1) := by decide +kernel
theorem dX9_dig_20 : decode cX9_dig 20 = .ok (.getfield 9, 3) := by decide +kernel
theorem dX9_dig_23 : decode cX9_dig 23 = .ok (.iconst 3, 1) := by decide +kernel
theorem dX9_dig_24 : decode cX9_dig 24 = .ok (.iload_n 1, 1) := by decide +kernel
theorem dX9_dig_25 : decode cX9_dig 25 = .ok (.iadd, 1) := by decide +kernel
theorem dX9_dig_26 : decode cX9_dig 26 = .ok (.dup2, 1) := by decide +kernel
theorem dX9_dig_27 : decode cX9_dig 27 = .ok (.iaload, 1) := by decide +kernel
theorem dX9_dig_28 : decode cX9_dig 28 = .ok (.iload_n 2, 1) := by decide +kernel
theorem dX9_dig_29 : decode cX9_dig 29 = .ok (.isub, 1) := by decide +kernel
theorem dX9_dig_30 : decode cX9_dig 30 = .ok (.iastore, 1) := by decide +kernel
theorem dX9_dig_31 : decode cX9_dig 31 = .ok (.aload_n 0, 1) := by decide +kernel
theorem dX9_dig_32 : decode cX9_dig 32 = .ok (.getfield 9, 3) := by decide +kernel
theorem dX9_dig_35 : decode cX9_dig 35 = .ok (.sipush 320, 3) := by decide +kernel
theorem dX9_dig_38 : decode cX9_dig 38 = .ok (.iconst (-1), 1) := by decide +kernel
theorem dX9_dig_39 : decode cX9_dig 39 = .ok (.iastore, 1) := by decide +kernel
theorem dX9_dig_40 : decode cX9_dig 40 = .ok (.aload_n 0, 1) := by decide +kernel
theorem dX9_dig_41 : decode cX9_dig 41 = .ok (.getfield 9, 3) := by decide +kernel
theorem dX9_dig_44 : decode cX9_dig 44 = .ok (.iconst 3, 1) := by decide +kernel
theorem dX9_dig_45 : decode cX9_dig 45 = .ok (.iload_n 1, 1) := by decide +kernel
theorem dX9_dig_46 : decode cX9_dig 46 = .ok (.iadd, 1) := by decide +kernel
theorem dX9_dig_47 : decode cX9_dig 47 = .ok (.iaload, 1) := by decide +kernel
theorem dX9_dig_48 : decode cX9_dig 48 = .ok (.ireturn, 1) := by decide +kernel
set_option maxHeartbeats 4000000 in
theorem st_X9_dig_0 {X : sj_X} {g : sj_G} {s0 : sj_Mem} {N : Nat} {q : Int × sj_VV} :
    ∀ (a0 : Nat) (x1 : Int) (x2 : Int) (V : sj_VV), OK9 g a0 → g_X9_dig N a0 x1 x2 V = some q → sj_T X m_X9_dig s0 (some (sj_i q.1), (g, q.2)) 0 [some (sj_r (some a0)), some (sj_i x1), some (sj_i x2)] [] (g, V) := by
  intro a0 x1 x2 V ha0 h
  unfold g_X9_dig at h
  refine r_aload_n (pc := 0) dX9_dig_0 rfl rfl ?_
  refine r_iload_n (pc := 1) dX9_dig_1 rfl rfl ?_
  refine r_iload_n (pc := 2) dX9_dig_2 rfl rfl ?_
  refine r_callVs (pc := 3) (fun v => some (sj_i v)) (As := [sj_i x1, sj_i x2]) (rest := []) (b := a0) (ok9 ha0) h dX9_dig_3 mw_X9_84 vw_X9_canDig (fun _ _ hc => cg_X9_canDig ha0 hc) rfl ⟨(Nat.le_of_ble_eq_true rfl), (Nat.le_of_ble_eq_true rfl)⟩ (Nat.le_of_ble_eq_true rfl) rfl (fun v2 V1 h => ?_)
  refine r_if_ne (pc := 6) (tgt := 11) h dX9_dig_6 (by decide) (fun h => ?_) (fun h => ?_)
  · refine r_iconst (pc := 9) dX9_dig_9 ?_
    exact r_irets (pc := 10) h rfl dX9_dig_10
  · refine r_aload_n (pc := 11) dX9_dig_11 rfl rfl ?_
    refine r_aload_n (pc := 12) dX9_dig_12 rfl rfl ?_
    refine r_gRs (b := a0 + 1) (pc := 13) dX9_dig_13 fw_X9_9 rfl (ok9 ha0) (ok9_0 ha0).1 ?_
    refine r_callVs (pc := 16) (fun _ => none) (As := [sj_r (some (a0 + 1))]) (rest := []) (b := a0) (ok9 ha0) h dX9_dig_16 mw_X9_70 vw_X9_remembers (fun _ _ hc => cg_X9_remembers ha0 (ok9_0 ha0).2 hc) rfl ⟨(Nat.le_of_ble_eq_true rfl), (Nat.le_of_ble_eq_true rfl)⟩ (Nat.le_of_ble_eq_true rfl) rfl (fun _u V3 h => ?_)
    refine r_aload_n (pc := 19) dX9_dig_19 rfl rfl ?_
    refine r_gRs (b := a0 + 1) (pc := 20) dX9_dig_20 fw_X9_9 rfl (ok9 ha0) (ok9_0 ha0).1 ?_
    refine r_iconst (pc := 23) dX9_dig_23 ?_
    refine r_iload_n (pc := 24) dX9_dig_24 rfl rfl ?_
    refine r_iadd (pc := 25) dX9_dig_25 ?_
    refine r_dup2_11 (pc := 26) dX9_dig_26 rfl rfl ?_
    refine r_ialoads (pc := 27) h dX9_dig_27 (ok9_0 ha0).2 (fun h => ?_)
    refine r_iload_n (pc := 28) dX9_dig_28 rfl rfl ?_
    refine r_isub (pc := 29) dX9_dig_29 ?_
    refine r_iastores (pc := 30) h dX9_dig_30 (ok9_0 ha0).2 (fun V4 h => ?_)
    refine r_aload_n (pc := 31) dX9_dig_31 rfl rfl ?_
    refine r_gRs (b := a0 + 1) (pc := 32) dX9_dig_32 fw_X9_9 rfl (ok9 ha0) (ok9_0 ha0).1 ?_
    refine r_sipush (pc := 35) dX9_dig_35 ⟨by decide, by decide⟩ ?_
    refine r_iconst (pc := 38) dX9_dig_38 ?_
    refine r_iastores (pc := 39) h dX9_dig_39 (ok9_0 ha0).2 (fun V5 h => ?_)
    refine r_aload_n (pc := 40) dX9_dig_40 rfl rfl ?_
    refine r_gRs (b := a0 + 1) (pc := 41) dX9_dig_41 fw_X9_9 rfl (ok9 ha0) (ok9_0 ha0).1 ?_
    refine r_iconst (pc := 44) dX9_dig_44 ?_
    refine r_iload_n (pc := 45) dX9_dig_45 rfl rfl ?_
    refine r_iadd (pc := 46) dX9_dig_46 ?_
    refine r_ialoads (pc := 47) h dX9_dig_47 (ok9_0 ha0).2 (fun h => ?_)
    exact r_irets (pc := 48) h rfl dX9_dig_48
set_option maxHeartbeats 4000000 in
theorem cg_X9_dig {X : sj_X} {g : sj_G} {N : Nat} {a0 : Nat} {x1 : Int} {x2 : Int} {V : sj_VV} {q : Int × sj_VV} (ha0 : OK9 g a0) (h : g_X9_dig N a0 x1 x2 V = some q) : sj_C X m_X9_dig [sj_r (some a0), sj_i x1, sj_i x2] (g, V) (some (sj_i q.1), (g, q.2)) :=
  sj_C_of (by decide +kernel) (Nat.le_of_ble_eq_true rfl) (lo := [some (sj_r (some a0)), some (sj_i x1), some (sj_i x2)]) rfl (sj_weak (l2 := [some (sj_r (some a0)), some (sj_i x1), some (sj_i x2)]) (⟨rfl, ⟨rfl, ⟨rfl, trivial⟩⟩⟩) (st_X9_dig_0 a0 x1 x2 V ha0 h))
set_option maxHeartbeats 4000000 in
theorem c_X9_dig {X : sj_X} {N : Nat} {a0 : Nat} {x1 : Int} {x2 : Int} {s : sj_Mem} {q : Int × sj_Mem} (h : f_X9_dig N a0 x1 x2 s = some q) : sj_C X m_X9_dig [sj_r (some a0), sj_i x1, sj_i x2] s (some (sj_i q.1), q.2) := by
  obtain ⟨g, V⟩ := s
  unfold f_X9_dig at h
  obtain ⟨ho, h1⟩ := e_ok_some h
  obtain ⟨q2, h2, rfl⟩ := sj_map_some h1
  exact cg_X9_dig ho h2
theorem dX9_tell_0 : decode cX9_tell 0 = .ok (.aload_n 0, 1) := by decide +kernel
theorem dX9_tell_1 : decode cX9_tell 1 = .ok (.iload_n 1, 1) := by decide +kernel
theorem dX9_tell_2 : decode cX9_tell 2 = .ok (.invokevirtual 74, 3) := by decide +kernel
theorem dX9_tell_5 : decode cX9_tell 5 = .ok (.ifCond .eq 15, 3) := by decide +kernel
theorem dX9_tell_8 : decode cX9_tell 8 = .ok (.iload_n 2, 1) := by decide +kernel
theorem dX9_tell_9 : decode cX9_tell 9 = .ok (.i2l, 1) := by decide +kernel
theorem dX9_tell_10 : decode cX9_tell 10 = .ok (.lconst 0, 1) := by decide +kernel
theorem dX9_tell_11 : decode cX9_tell 11 = .ok (.ldc2_w 78, 3) := by decide +kernel
theorem dX9_tell_14 : decode cX9_tell 14 = .ok (.invokestatic 57, 3) := by decide +kernel
theorem dX9_tell_17 : decode cX9_tell 17 = .ok (.ifCond .ne 5, 3) := by decide +kernel
theorem dX9_tell_20 : decode cX9_tell 20 = .ok (.iconst 0, 1) := by decide +kernel
theorem dX9_tell_21 : decode cX9_tell 21 = .ok (.ireturn, 1) := by decide +kernel
theorem dX9_tell_22 : decode cX9_tell 22 = .ok (.iload_n 3, 1) := by decide +kernel
theorem dX9_tell_23 : decode cX9_tell 23 = .ok (.i2l, 1) := by decide +kernel
theorem dX9_tell_24 : decode cX9_tell 24 = .ok (.lconst 0, 1) := by decide +kernel
theorem dX9_tell_25 : decode cX9_tell 25 = .ok (.iload_n 2, 1) := by decide +kernel
theorem dX9_tell_26 : decode cX9_tell 26 = .ok (.ifCond .ne 15, 3) := by decide +kernel
theorem dX9_tell_29 : decode cX9_tell 29 = .ok (.aload_n 0, 1) := by decide +kernel
theorem dX9_tell_30 : decode cX9_tell 30 = .ok (.getfield 9, 3) := by decide +kernel
theorem dX9_tell_33 : decode cX9_tell 33 = .ok (.iconst 3, 1) := by decide +kernel
theorem dX9_tell_34 : decode cX9_tell 34 = .ok (.iload_n 1, 1) := by decide +kernel
theorem dX9_tell_35 : decode cX9_tell 35 = .ok (.iadd, 1) := by decide +kernel
theorem dX9_tell_36 : decode cX9_tell 36 = .ok (.iaload, 1) := by decide +kernel
theorem dX9_tell_37 : decode cX9_tell 37 = .ok (.i2l, 1) := by decide +kernel
theorem dX9_tell_38 : decode cX9_tell 38 = .ok (.goto 17, 3) := by decide +kernel
theorem dX9_tell_41 : decode cX9_tell 41 = .ok (.iload_n 2, 1) := by decide +kernel
theorem dX9_tell_42 : decode cX9_tell 42 = .ok (.iconst 2, 1) := by decide +kernel
theorem dX9_tell_43 : decode cX9_tell 43 = .ok (.if_icmp .ne 9, 3) := by decide +kernel
theorem dX9_tell_46 : decode cX9_tell 46 = .ok (.ldc2_w 80, 3) := by decide +kernel
theorem dX9_tell_49 : decode cX9_tell 49 = .ok (.goto 6, 3) := by decide +kernel
theorem dX9_tell_52 : decode cX9_tell 52 = .ok (.ldc2_w 82, 3) := by decide +kernel
theorem dX9_tell_55 : decode cX9_tell 55 = .ok (.invokestatic 57, 3) := by decide +kernel
theorem dX9_tell_58 : decode cX9_tell 58 = .ok (.ifCond .ne 5, 3) := by decide +kernel
theorem dX9_tell_61 : decode cX9_tell 61 = .ok (.iconst 0, 1) := by decide +kernel
theorem dX9_tell_62 : decode cX9_tell 62 = .ok (.ireturn, 1) := by decide +kernel
theorem dX9_tell_63 : decode cX9_tell 63 = .ok (.iload_n 2, 1) := by decide +kernel
theorem dX9_tell_64 : decode cX9_tell 64 = .ok (.ifCond .ne 25, 3) := by decide +kernel
theorem dX9_tell_67 : decode cX9_tell 67 = .ok (.aload_n 0, 1) := by decide +kernel
theorem dX9_tell_68 : decode cX9_tell 68 = .ok (.getfield 9, 3) := by decide +kernel
theorem dX9_tell_71 : decode cX9_tell 71 = .ok (.bipush 44, 2) := by decide +kernel
theorem dX9_tell_73 : decode cX9_tell 73 = .ok (.iload_n 1, 1) := by decide +kernel
theorem dX9_tell_74 : decode cX9_tell 74 = .ok (.iadd, 1) := by decide +kernel
theorem dX9_tell_75 : decode cX9_tell 75 = .ok (.iload_n 3, 1) := by decide +kernel
theorem dX9_tell_76 : decode cX9_tell 76 = .ok (.iastore, 1) := by decide +kernel
theorem dX9_tell_77 : decode cX9_tell 77 = .ok (.aload_n 0, 1) := by decide +kernel
theorem dX9_tell_78 : decode cX9_tell 78 = .ok (.getfield 9, 3) := by decide +kernel
theorem dX9_tell_81 : decode cX9_tell 81 = .ok (.sipush 320, 3) := by decide +kernel
theorem dX9_tell_84 : decode cX9_tell 84 = .ok (.iconst (-1), 1) := by decide +kernel
theorem dX9_tell_85 : decode cX9_tell 85 = .ok (.iastore, 1) := by decide +kernel
theorem dX9_tell_86 : decode cX9_tell 86 = .ok (.goto 49, 3) := by decide +kernel
theorem dX9_tell_89 : decode cX9_tell 89 = .ok (.iload_n 2, 1) := by decide +kernel
theorem dX9_tell_90 : decode cX9_tell 90 = .ok (.iconst 3, 1) := by decide +kernel
theorem dX9_tell_91 : decode cX9_tell 91 = .ok (.if_icmp .ge 26, 3) := by decide +kernel
theorem dX9_tell_94 : decode cX9_tell 94 = .ok (.aload_n 0, 1) := by decide +kernel
theorem dX9_tell_95 : decode cX9_tell 95 = .ok (.getfield 9, 3) := by decide +kernel
theorem dX9_tell_98 : decode cX9_tell 98 = .ok (.iload_n 2, 1) := by decide +kernel
theorem dX9_tell_99 : decode cX9_tell 99 = .ok (.iconst 1, 1) := by decide +kernel
theorem dX9_tell_100 : decode cX9_tell 100 = .ok (.if_icmp .ne 8, 3) := by decide +kernel
theorem dX9_tell_103 : decode cX9_tell 103 = .ok (.bipush 85, 2) := by decide +kernel
theorem dX9_tell_105 : decode cX9_tell 105 = .ok (.goto 5, 3) := by decide +kernel
theorem dX9_tell_108 : decode cX9_tell 108 = .ok (.bipush 126, 2) := by decide +kernel
theorem dX9_tell_110 : decode cX9_tell 110 = .ok (.iload_n 1, 1) := by decide +kernel
theorem dX9_tell_111 : decode cX9_tell 111 = .ok (.iadd, 1) := by decide +kernel
theorem dX9_tell_112 : decode cX9_tell 112 = .ok (.iload_n 3, 1) := by decide +kernel
theorem dX9_tell_113 : decode cX9_tell 113 = .ok (.iastore, 1) := by decide +kernel
theorem dX9_tell_114 : decode cX9_tell 114 = .ok (.goto 21, 3) := by decide +kernel
theorem dX9_tell_117 : decode cX9_tell 117 = .ok (.aload_n 0, 1) := by decide +kernel
theorem dX9_tell_118 : decode cX9_tell 118 = .ok (.getfield 9, 3) := by decide +kernel
theorem dX9_tell_121 : decode cX9_tell 121 = .ok (.sipush 167, 3) := by decide +kernel
theorem dX9_tell_124 : decode cX9_tell 124 = .ok (.bipush 41, 2) := by decide +kernel
theorem dX9_tell_126 : decode cX9_tell 126 = .ok (.iload_n 2, 1) := by decide +kernel
theorem dX9_tell_127 : decode cX9_tell 127 = .ok (.iconst 3, 1) := by decide +kernel
theorem dX9_tell_128 : decode cX9_tell 128 = .ok (.isub, 1) := by decide +kernel
theorem dX9_tell_129 : decode cX9_tell 129 = .ok (.imul, 1) := by decide +kernel
theorem dX9_tell_130 : decode cX9_tell 130 = .ok (.iadd, 1) := by decide +kernel
theorem dX9_tell_131 : decode cX9_tell 131 = .ok (.iload_n 1, 1) := by decide +kernel
theorem dX9_tell_132 : decode cX9_tell 132 = .ok (.iadd, 1) := by decide +kernel
theorem dX9_tell_133 : decode cX9_tell 133 = .ok (.iload_n 3, 1) := by decide +kernel
theorem dX9_tell_134 : decode cX9_tell 134 = .ok (.iastore, 1) := by decide +kernel
theorem dX9_tell_135 : decode cX9_tell 135 = .ok (.iconst 1, 1) := by decide +kernel
theorem dX9_tell_136 : decode cX9_tell 136 = .ok (.ireturn, 1) := by decide +kernel
set_option maxHeartbeats 4000000 in
theorem st_X9_tell_110 {X : sj_X} {g : sj_G} {s0 : sj_Mem} {N : Nat} {q : Int × sj_VV} :
    ∀ (x1 : Int) (x3 : Int) (y0 : Int) (y1 : Nat) (m1 : Nat) (V : sj_VV), OKA g 100 y1 m1 → g_X9_tell_110 N x1 x3 y0 y1 m1 V = some q → sj_T X m_X9_tell s0 (some (sj_i q.1), (g, q.2)) 110 [none, some (sj_i x1), none, some (sj_i x3)] [(sj_i y0), (sj_r (some y1))] (g, V) := by
  intro x1 x3 y0 y1 m1 V hy1 h
  unfold g_X9_tell_110 at h
  refine r_iload_n (pc := 110) dX9_tell_110 rfl rfl ?_
  refine r_iadd (pc := 111) dX9_tell_111 ?_
  refine r_iload_n (pc := 112) dX9_tell_112 rfl rfl ?_
  refine r_iastores (pc := 113) h dX9_tell_113 hy1 (fun V1 h => ?_)
  refine r_goto (pc := 114) (tgt := 135) dX9_tell_114 (by decide) ?_
  refine r_iconst (pc := 135) dX9_tell_135 ?_
  exact r_zrets (pc := 136) h rfl dX9_tell_136
set_option maxHeartbeats 4000000 in
theorem st_X9_tell_55 {X : sj_X} {g : sj_G} {s0 : sj_Mem} {N : Nat} {q : Int × sj_VV} :
    ∀ (a0 : Nat) (x1 : Int) (x2 : Int) (x3 : Int) (y0 : Int) (y1 : Int) (y2 : Int) (V : sj_VV), OK9 g a0 → g_X9_tell_55 N a0 x1 x2 x3 y0 y1 y2 V = some q → sj_T X m_X9_tell s0 (some (sj_i q.1), (g, q.2)) 55 [some (sj_r (some a0)), some (sj_i x1), some (sj_i x2), some (sj_i x3)] [(sj_j y0), (sj_j y1), (sj_j y2)] (g, V) := by
  intro a0 x1 x2 x3 y0 y1 y2 V ha0 h
  unfold g_X9_tell_55 at h
  refine r_callSs (pc := 55) (fun v => some (sj_i v)) (As := [sj_j y2, sj_j y1, sj_j y0]) (rest := []) h dX9_tell_55 mw_X9_57 kw_1225 (fun _ _ hc => cg_X9_isIn  hc) rfl ⟨(Nat.le_of_ble_eq_true rfl), (Nat.le_of_ble_eq_true rfl)⟩ (Nat.le_of_ble_eq_true rfl) rfl (fun v2 V1 h => ?_)
  refine r_if_ne (pc := 58) (tgt := 63) h dX9_tell_58 (by decide) (fun h => ?_) (fun h => ?_)
  · refine r_iconst (pc := 61) dX9_tell_61 ?_
    exact r_zrets (pc := 62) h rfl dX9_tell_62
  · refine r_iload_n (pc := 63) dX9_tell_63 rfl rfl ?_
    refine r_if_ne (pc := 64) (tgt := 89) h dX9_tell_64 (by decide) (fun h => ?_) (fun h => ?_)
    · refine r_aload_n (pc := 67) dX9_tell_67 rfl rfl ?_
      refine r_gRs (b := a0 + 1) (pc := 68) dX9_tell_68 fw_X9_9 rfl (ok9 ha0) (ok9_0 ha0).1 ?_
      refine r_bipush (pc := 71) dX9_tell_71 ⟨by decide, by decide⟩ ?_
      refine r_iload_n (pc := 73) dX9_tell_73 rfl rfl ?_
      refine r_iadd (pc := 74) dX9_tell_74 ?_
      refine r_iload_n (pc := 75) dX9_tell_75 rfl rfl ?_
      refine r_iastores (pc := 76) h dX9_tell_76 (ok9_0 ha0).2 (fun V4 h => ?_)
      refine r_aload_n (pc := 77) dX9_tell_77 rfl rfl ?_
      refine r_gRs (b := a0 + 1) (pc := 78) dX9_tell_78 fw_X9_9 rfl (ok9 ha0) (ok9_0 ha0).1 ?_
      refine r_sipush (pc := 81) dX9_tell_81 ⟨by decide, by decide⟩ ?_
      refine r_iconst (pc := 84) dX9_tell_84 ?_
      refine r_iastores (pc := 85) h dX9_tell_85 (ok9_0 ha0).2 (fun V5 h => ?_)
      refine r_goto (pc := 86) (tgt := 135) dX9_tell_86 (by decide) ?_
      refine r_iconst (pc := 135) dX9_tell_135 ?_
      exact r_zrets (pc := 136) h rfl dX9_tell_136
    · refine r_iload_n (pc := 89) dX9_tell_89 rfl rfl ?_
      refine r_iconst (pc := 90) dX9_tell_90 ?_
      refine r_icmp_ge (pc := 91) (tgt := 117) h dX9_tell_91 (by decide) (fun h => ?_) (fun h => ?_)
      · refine r_aload_n (pc := 117) dX9_tell_117 rfl rfl ?_
        refine r_gRs (b := a0 + 1) (pc := 118) dX9_tell_118 fw_X9_9 rfl (ok9 ha0) (ok9_0 ha0).1 ?_
        refine r_sipush (pc := 121) dX9_tell_121 ⟨by decide, by decide⟩ ?_
        refine r_bipush (pc := 124) dX9_tell_124 ⟨by decide, by decide⟩ ?_
        refine r_iload_n (pc := 126) dX9_tell_126 rfl rfl ?_
        refine r_iconst (pc := 127) dX9_tell_127 ?_
        refine r_isub (pc := 128) dX9_tell_128 ?_
        refine r_imul (pc := 129) dX9_tell_129 ?_
        refine r_iadd (pc := 130) dX9_tell_130 ?_
        refine r_iload_n (pc := 131) dX9_tell_131 rfl rfl ?_
        refine r_iadd (pc := 132) dX9_tell_132 ?_
        refine r_iload_n (pc := 133) dX9_tell_133 rfl rfl ?_
        refine r_iastores (pc := 134) h dX9_tell_134 (ok9_0 ha0).2 (fun V3 h => ?_)
        refine r_iconst (pc := 135) dX9_tell_135 ?_
        exact r_zrets (pc := 136) h rfl dX9_tell_136
      · refine r_aload_n (pc := 94) dX9_tell_94 rfl rfl ?_
        refine r_gRs (b := a0 + 1) (pc := 95) dX9_tell_95 fw_X9_9 rfl (ok9 ha0) (ok9_0 ha0).1 ?_
        refine r_iload_n (pc := 98) dX9_tell_98 rfl rfl ?_
        refine r_iconst (pc := 99) dX9_tell_99 ?_
        refine r_icmp_ne (pc := 100) (tgt := 108) h dX9_tell_100 (by decide) (fun h => ?_) (fun h => ?_)
        · refine r_bipush (pc := 103) dX9_tell_103 ⟨by decide, by decide⟩ ?_
          refine r_goto (pc := 105) (tgt := 110) dX9_tell_105 (by decide) ?_
          exact sj_weak (l2 := [none, some (sj_i x1), none, some (sj_i x3)]) (⟨rfl, ⟨rfl, trivial⟩⟩) (st_X9_tell_110 x1 x3 85 (a0 + 1) 390 V1 (ok9_0 ha0).2 h)
        · refine r_bipush (pc := 108) dX9_tell_108 ⟨by decide, by decide⟩ ?_
          exact sj_weak (l2 := [none, some (sj_i x1), none, some (sj_i x3)]) (⟨rfl, ⟨rfl, trivial⟩⟩) (st_X9_tell_110 x1 x3 126 (a0 + 1) 390 V1 (ok9_0 ha0).2 h)
set_option maxHeartbeats 4000000 in
theorem st_X9_tell_0 {X : sj_X} {g : sj_G} {s0 : sj_Mem} {N : Nat} {q : Int × sj_VV} :
    ∀ (a0 : Nat) (x1 : Int) (x2 : Int) (x3 : Int) (V : sj_VV), OK9 g a0 → g_X9_tell N a0 x1 x2 x3 V = some q → sj_T X m_X9_tell s0 (some (sj_i q.1), (g, q.2)) 0 [some (sj_r (some a0)), some (sj_i x1), some (sj_i x2), some (sj_i x3)] [] (g, V) := by
  intro a0 x1 x2 x3 V ha0 h
  unfold g_X9_tell at h
  refine r_aload_n (pc := 0) dX9_tell_0 rfl rfl ?_
  refine r_iload_n (pc := 1) dX9_tell_1 rfl rfl ?_
  refine r_callVs (pc := 2) (fun v => some (sj_i v)) (As := [sj_i x1]) (rest := []) (b := a0) (ok9 ha0) h dX9_tell_2 mw_X9_74 vw_X9_isColumn (fun _ _ hc => cg_X9_isColumn ha0 hc) rfl ⟨(Nat.le_of_ble_eq_true rfl), (Nat.le_of_ble_eq_true rfl)⟩ (Nat.le_of_ble_eq_true rfl) rfl (fun v2 V1 h => ?_)
  refine r_if_eq (pc := 5) (tgt := 20) h dX9_tell_5 (by decide) (fun h => ?_) (fun h => ?_)
  · refine r_iconst (pc := 20) dX9_tell_20 ?_
    exact r_zrets (pc := 21) h rfl dX9_tell_21
  · refine r_iload_n (pc := 8) dX9_tell_8 rfl rfl ?_
    refine r_i2l (pc := 9) h dX9_tell_9 (fun v3 h => ?_)
    refine r_lconst0 (pc := 10) dX9_tell_10 ?_
    refine r_ldc2 (n := 5) (pc := 11) dX9_tell_11 kc_X9_78 ?_
    refine r_callSs (pc := 14) (fun v => some (sj_i v)) (As := [sj_j v3, sj_j 0, sj_j 5]) (rest := []) h dX9_tell_14 mw_X9_57 kw_1225 (fun _ _ hc => cg_X9_isIn  hc) rfl ⟨(Nat.le_of_ble_eq_true rfl), (Nat.le_of_ble_eq_true rfl)⟩ (Nat.le_of_ble_eq_true rfl) rfl (fun v5 V4 h => ?_)
    refine r_if_ne (pc := 17) (tgt := 22) h dX9_tell_17 (by decide) (fun h => ?_) (fun h => ?_)
    · refine r_iconst (pc := 20) dX9_tell_20 ?_
      exact r_zrets (pc := 21) h rfl dX9_tell_21
    · refine r_iload_n (pc := 22) dX9_tell_22 rfl rfl ?_
      refine r_i2l (pc := 23) h dX9_tell_23 (fun v6 h => ?_)
      refine r_lconst0 (pc := 24) dX9_tell_24 ?_
      refine r_iload_n (pc := 25) dX9_tell_25 rfl rfl ?_
      refine r_if_ne (pc := 26) (tgt := 41) h dX9_tell_26 (by decide) (fun h => ?_) (fun h => ?_)
      · refine r_aload_n (pc := 29) dX9_tell_29 rfl rfl ?_
        refine r_gRs (b := a0 + 1) (pc := 30) dX9_tell_30 fw_X9_9 rfl (ok9 ha0) (ok9_0 ha0).1 ?_
        refine r_iconst (pc := 33) dX9_tell_33 ?_
        refine r_iload_n (pc := 34) dX9_tell_34 rfl rfl ?_
        refine r_iadd (pc := 35) dX9_tell_35 ?_
        refine r_ialoads (pc := 36) h dX9_tell_36 (ok9_0 ha0).2 (fun h => ?_)
        refine r_i2l (pc := 37) h dX9_tell_37 (fun v7 h => ?_)
        refine r_goto (pc := 38) (tgt := 55) dX9_tell_38 (by decide) ?_
        exact sj_weak (l2 := [some (sj_r (some a0)), some (sj_i x1), some (sj_i x2), some (sj_i x3)]) (⟨rfl, ⟨rfl, ⟨rfl, ⟨rfl, trivial⟩⟩⟩⟩) (st_X9_tell_55 a0 x1 x2 x3 v7 0 v6 V4 ha0 h)
      · refine r_iload_n (pc := 41) dX9_tell_41 rfl rfl ?_
        refine r_iconst (pc := 42) dX9_tell_42 ?_
        refine r_icmp_ne (pc := 43) (tgt := 52) h dX9_tell_43 (by decide) (fun h => ?_) (fun h => ?_)
        · refine r_ldc2 (n := 500) (pc := 46) dX9_tell_46 kc_X9_80 ?_
          refine r_goto (pc := 49) (tgt := 55) dX9_tell_49 (by decide) ?_
          exact sj_weak (l2 := [some (sj_r (some a0)), some (sj_i x1), some (sj_i x2), some (sj_i x3)]) (⟨rfl, ⟨rfl, ⟨rfl, ⟨rfl, trivial⟩⟩⟩⟩) (st_X9_tell_55 a0 x1 x2 x3 500 0 v6 V4 ha0 h)
        · refine r_ldc2 (n := 100) (pc := 52) dX9_tell_52 kc_X9_82 ?_
          exact sj_weak (l2 := [some (sj_r (some a0)), some (sj_i x1), some (sj_i x2), some (sj_i x3)]) (⟨rfl, ⟨rfl, ⟨rfl, ⟨rfl, trivial⟩⟩⟩⟩) (st_X9_tell_55 a0 x1 x2 x3 100 0 v6 V4 ha0 h)
set_option maxHeartbeats 4000000 in
theorem cg_X9_tell {X : sj_X} {g : sj_G} {N : Nat} {a0 : Nat} {x1 : Int} {x2 : Int} {x3 : Int} {V : sj_VV} {q : Int × sj_VV} (ha0 : OK9 g a0) (h : g_X9_tell N a0 x1 x2 x3 V = some q) : sj_C X m_X9_tell [sj_r (some a0), sj_i x1, sj_i x2, sj_i x3] (g, V) (some (sj_i q.1), (g, q.2)) :=
  sj_C_of (by decide +kernel) (Nat.le_of_ble_eq_true rfl) (lo := [some (sj_r (some a0)), some (sj_i x1), some (sj_i x2), some (sj_i x3)]) rfl (sj_weak (l2 := [some (sj_r (some a0)), some (sj_i x1), some (sj_i x2), some (sj_i x3)]) (⟨rfl, ⟨rfl, ⟨rfl, ⟨rfl, trivial⟩⟩⟩⟩) (st_X9_tell_0 a0 x1 x2 x3 V ha0 h))
set_option maxHeartbeats 4000000 in
theorem c_X9_tell {X : sj_X} {N : Nat} {a0 : Nat} {x1 : Int} {x2 : Int} {x3 : Int} {s : sj_Mem} {q : Int × sj_Mem} (h : f_X9_tell N a0 x1 x2 x3 s = some q) : sj_C X m_X9_tell [sj_r (some a0), sj_i x1, sj_i x2, sj_i x3] s (some (sj_i q.1), q.2) := by
  obtain ⟨g, V⟩ := s
  unfold f_X9_tell at h
  obtain ⟨ho, h1⟩ := e_ok_some h
  obtain ⟨q2, h2, rfl⟩ := sj_map_some h1
  exact cg_X9_tell ho h2
theorem dX9_size_0 : decode cX9_size 0 = .ok (.iload_n 1, 1) := by decide +kernel
theorem dX9_size_1 : decode cX9_size 1 = .ok (.i2l, 1) := by decide +kernel
theorem dX9_size_2 : decode cX9_size 2 = .ok (.ldc2_w 64, 3) := by decide +kernel
theorem dX9_size_5 : decode cX9_size 5 = .ok (.ldc2_w 66, 3) := by decide +kernel
theorem dX9_size_8 : decode cX9_size 8 = .ok (.invokestatic 57, 3) := by decide +kernel
theorem dX9_size_11 : decode cX9_size 11 = .ok (.ifCond .eq 15, 3) := by decide +kernel
theorem dX9_size_14 : decode cX9_size 14 = .ok (.iload_n 2, 1) := by decide +kernel
theorem dX9_size_15 : decode cX9_size 15 = .ok (.i2l, 1) := by decide +kernel
theorem dX9_size_16 : decode cX9_size 16 = .ok (.lconst 1, 1) := by decide +kernel
theorem dX9_size_17 : decode cX9_size 17 = .ok (.ldc2_w 68, 3) := by decide +kernel
theorem dX9_size_20 : decode cX9_size 20 = .ok (.invokestatic 57, 3) := by decide +kernel
theorem dX9_size_23 : decode cX9_size 23 = .ok (.ifCond .ne 5, 3) := by decide +kernel
theorem dX9_size_26 : decode cX9_size 26 = .ok (.iconst 0, 1) := by decide +kernel
theorem dX9_size_27 : decode cX9_size 27 = .ok (.ireturn, 1) := by decide +kernel
theorem dX9_size_28 : decode cX9_size 28 = .ok (.aload_n 0, 1) := by decide +kernel
theorem dX9_size_29 : decode cX9_size 29 = .ok (.aload_n 0, 1) := by decide +kernel
theorem dX9_size_30 : decode cX9_size 30 = .ok (.getfield 9, 3) := by decide +kernel
theorem dX9_size_33 : decode cX9_size 33 = .ok (.invokevirtual 70, 3) := by decide +kernel
theorem dX9_size_36 : decode cX9_size 36 = .ok (.aload_n 0, 1) := by decide +kernel
theorem dX9_size_37 : decode cX9_size 37 = .ok (.iload_n 1, 1) := by decide +kernel
theorem dX9_size_38 : decode cX9_size 38 = .ok (.iload_n 2, 1) := by decide +kernel
theorem dX9_size_39 : decode cX9_size 39 = .ok (.invokevirtual 53, 3) := by decide +kernel
theorem dX9_size_42 : decode cX9_size 42 = .ok (.iconst 1, 1) := by decide +kernel
theorem dX9_size_43 : decode cX9_size 43 = .ok (.ireturn, 1) := by decide +kernel
set_option maxHeartbeats 4000000 in
theorem st_X9_size_0 {X : sj_X} {g : sj_G} {s0 : sj_Mem} {N : Nat} {q : Int × sj_VV} :
    ∀ (a0 : Nat) (x1 : Int) (x2 : Int) (V : sj_VV), OK9 g a0 → g_X9_size N a0 x1 x2 V = some q → sj_T X m_X9_size s0 (some (sj_i q.1), (g, q.2)) 0 [some (sj_r (some a0)), some (sj_i x1), some (sj_i x2)] [] (g, V) := by
  intro a0 x1 x2 V ha0 h
  unfold g_X9_size at h
  refine r_iload_n (pc := 0) dX9_size_0 rfl rfl ?_
  refine r_i2l (pc := 1) h dX9_size_1 (fun v1 h => ?_)
  refine r_ldc2 (n := 4) (pc := 2) dX9_size_2 kc_X9_64 ?_
  refine r_ldc2 (n := 40) (pc := 5) dX9_size_5 kc_X9_66 ?_
  refine r_callSs (pc := 8) (fun v => some (sj_i v)) (As := [sj_j v1, sj_j 4, sj_j 40]) (rest := []) h dX9_size_8 mw_X9_57 kw_1225 (fun _ _ hc => cg_X9_isIn  hc) rfl ⟨(Nat.le_of_ble_eq_true rfl), (Nat.le_of_ble_eq_true rfl)⟩ (Nat.le_of_ble_eq_true rfl) rfl (fun v3 V2 h => ?_)
  refine r_if_eq (pc := 11) (tgt := 26) h dX9_size_11 (by decide) (fun h => ?_) (fun h => ?_)
  · refine r_iconst (pc := 26) dX9_size_26 ?_
    exact r_zrets (pc := 27) h rfl dX9_size_27
  · refine r_iload_n (pc := 14) dX9_size_14 rfl rfl ?_
    refine r_i2l (pc := 15) h dX9_size_15 (fun v4 h => ?_)
    refine r_lconst1 (pc := 16) dX9_size_16 ?_
    refine r_ldc2 (n := 10) (pc := 17) dX9_size_17 kc_X9_68 ?_
    refine r_callSs (pc := 20) (fun v => some (sj_i v)) (As := [sj_j v4, sj_j 1, sj_j 10]) (rest := []) h dX9_size_20 mw_X9_57 kw_1225 (fun _ _ hc => cg_X9_isIn  hc) rfl ⟨(Nat.le_of_ble_eq_true rfl), (Nat.le_of_ble_eq_true rfl)⟩ (Nat.le_of_ble_eq_true rfl) rfl (fun v6 V5 h => ?_)
    refine r_if_ne (pc := 23) (tgt := 28) h dX9_size_23 (by decide) (fun h => ?_) (fun h => ?_)
    · refine r_iconst (pc := 26) dX9_size_26 ?_
      exact r_zrets (pc := 27) h rfl dX9_size_27
    · refine r_aload_n (pc := 28) dX9_size_28 rfl rfl ?_
      refine r_aload_n (pc := 29) dX9_size_29 rfl rfl ?_
      refine r_gRs (b := a0 + 1) (pc := 30) dX9_size_30 fw_X9_9 rfl (ok9 ha0) (ok9_0 ha0).1 ?_
      refine r_callVs (pc := 33) (fun _ => none) (As := [sj_r (some (a0 + 1))]) (rest := []) (b := a0) (ok9 ha0) h dX9_size_33 mw_X9_70 vw_X9_remembers (fun _ _ hc => cg_X9_remembers ha0 (ok9_0 ha0).2 hc) rfl ⟨(Nat.le_of_ble_eq_true rfl), (Nat.le_of_ble_eq_true rfl)⟩ (Nat.le_of_ble_eq_true rfl) rfl (fun _u V7 h => ?_)
      refine r_aload_n (pc := 36) dX9_size_36 rfl rfl ?_
      refine r_iload_n (pc := 37) dX9_size_37 rfl rfl ?_
      refine r_iload_n (pc := 38) dX9_size_38 rfl rfl ?_
      refine r_callVs (pc := 39) (fun _ => none) (As := [sj_i x1, sj_i x2]) (rest := []) (b := a0) (ok9 ha0) h dX9_size_39 mw_X9_53 vw_X9_begins (fun _ _ hc => cg_X9_begins ha0 hc) rfl ⟨(Nat.le_of_ble_eq_true rfl), (Nat.le_of_ble_eq_true rfl)⟩ (Nat.le_of_ble_eq_true rfl) rfl (fun _u V8 h => ?_)
      refine r_iconst (pc := 42) dX9_size_42 ?_
      exact r_zrets (pc := 43) h rfl dX9_size_43
set_option maxHeartbeats 4000000 in
theorem cg_X9_size {X : sj_X} {g : sj_G} {N : Nat} {a0 : Nat} {x1 : Int} {x2 : Int} {V : sj_VV} {q : Int × sj_VV} (ha0 : OK9 g a0) (h : g_X9_size N a0 x1 x2 V = some q) : sj_C X m_X9_size [sj_r (some a0), sj_i x1, sj_i x2] (g, V) (some (sj_i q.1), (g, q.2)) :=
  sj_C_of (by decide +kernel) (Nat.le_of_ble_eq_true rfl) (lo := [some (sj_r (some a0)), some (sj_i x1), some (sj_i x2)]) rfl (sj_weak (l2 := [some (sj_r (some a0)), some (sj_i x1), some (sj_i x2)]) (⟨rfl, ⟨rfl, ⟨rfl, trivial⟩⟩⟩) (st_X9_size_0 a0 x1 x2 V ha0 h))
set_option maxHeartbeats 4000000 in
theorem c_X9_size {X : sj_X} {N : Nat} {a0 : Nat} {x1 : Int} {x2 : Int} {s : sj_Mem} {q : Int × sj_Mem} (h : f_X9_size N a0 x1 x2 s = some q) : sj_C X m_X9_size [sj_r (some a0), sj_i x1, sj_i x2] s (some (sj_i q.1), q.2) := by
  obtain ⟨g, V⟩ := s
  unfold f_X9_size at h
  obtain ⟨ho, h1⟩ := e_ok_some h
  obtain ⟨q2, h2, rfl⟩ := sj_map_some h1
  exact cg_X9_size ho h2
