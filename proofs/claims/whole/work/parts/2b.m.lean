theorem dX4_weigh_0 : decode cX4_weigh 0 = .ok (.aload_n 0, 1) := by decide +kernel
theorem dX4_weigh_1 : decode cX4_weigh 1 = .ok (.aload_n 1, 1) := by decide +kernel
theorem dX4_weigh_2 : decode cX4_weigh 2 = .ok (.getfield 37, 3) := by decide +kernel
theorem dX4_weigh_5 : decode cX4_weigh 5 = .ok (.putfield 43, 3) := by decide +kernel
theorem dX4_weigh_8 : decode cX4_weigh 8 = .ok (.aload_n 0, 1) := by decide +kernel
theorem dX4_weigh_9 : decode cX4_weigh 9 = .ok (.aload_n 2, 1) := by decide +kernel
theorem dX4_weigh_10 : decode cX4_weigh 10 = .ok (.invokevirtual 44, 3) := by decide +kernel
theorem dX4_weigh_13 : decode cX4_weigh 13 = .ok (.putfield 50, 3) := by decide +kernel
theorem dX4_weigh_16 : decode cX4_weigh 16 = .ok (.aload_n 0, 1) := by decide +kernel
theorem dX4_weigh_17 : decode cX4_weigh 17 = .ok (.aload_n 1, 1) := by decide +kernel
theorem dX4_weigh_18 : decode cX4_weigh 18 = .ok (.aload_n 2, 1) := by decide +kernel
theorem dX4_weigh_19 : decode cX4_weigh 19 = .ok (.invokevirtual 52, 3) := by decide +kernel
theorem dX4_weigh_22 : decode cX4_weigh 22 = .ok (.putfield 56, 3) := by decide +kernel
theorem dX4_weigh_25 : decode cX4_weigh 25 = .ok (.aload_n 2, 1) := by decide +kernel
theorem dX4_weigh_26 : decode cX4_weigh 26 = .ok (.invokevirtual 60, 3) := by decide +kernel
theorem dX4_weigh_29 : decode cX4_weigh 29 = .ok (.ifCond .eq 4, 3) := by decide +kernel
theorem dX4_weigh_32 : decode cX4_weigh 32 = .ok (.return_, 1) := by decide +kernel
theorem dX4_weigh_33 : decode cX4_weigh 33 = .ok (.aload_n 1, 1) := by decide +kernel
theorem dX4_weigh_34 : decode cX4_weigh 34 = .ok (.aload_n 2, 1) := by decide +kernel
theorem dX4_weigh_35 : decode cX4_weigh 35 = .ok (.getfield 64, 3) := by decide +kernel
theorem dX4_weigh_38 : decode cX4_weigh 38 = .ok (.aload_n 2, 1) := by decide +kernel
theorem dX4_weigh_39 : decode cX4_weigh 39 = .ok (.getfield 67, 3) := by decide +kernel
theorem dX4_weigh_42 : decode cX4_weigh 42 = .ok (.aload_n 2, 1) := by decide +kernel
theorem dX4_weigh_43 : decode cX4_weigh 43 = .ok (.getfield 64, 3) := by decide +kernel
theorem dX4_weigh_46 : decode cX4_weigh 46 = .ok (.iaload, 1) := by decide +kernel
theorem dX4_weigh_47 : decode cX4_weigh 47 = .ok (.invokevirtual 70, 3) := by decide +kernel
theorem dX4_weigh_50 : decode cX4_weigh 50 = .ok (.istore_n 3, 1) := by decide +kernel
theorem dX4_weigh_51 : decode cX4_weigh 51 = .ok (.aload_n 1, 1) := by decide +kernel
theorem dX4_weigh_52 : decode cX4_weigh 52 = .ok (.aload_n 2, 1) := by decide +kernel
theorem dX4_weigh_53 : decode cX4_weigh 53 = .ok (.getfield 64, 3) := by decide +kernel
theorem dX4_weigh_56 : decode cX4_weigh 56 = .ok (.aload_n 2, 1) := by decide +kernel
theorem dX4_weigh_57 : decode cX4_weigh 57 = .ok (.getfield 67, 3) := by decide +kernel
theorem dX4_weigh_60 : decode cX4_weigh 60 = .ok (.aload_n 2, 1) := by decide +kernel
theorem dX4_weigh_61 : decode cX4_weigh 61 = .ok (.getfield 64, 3) := by decide +kernel
theorem dX4_weigh_64 : decode cX4_weigh 64 = .ok (.iaload, 1) := by decide +kernel
theorem dX4_weigh_65 : decode cX4_weigh 65 = .ok (.invokevirtual 74, 3) := by decide +kernel
theorem dX4_weigh_68 : decode cX4_weigh 68 = .ok (.istore 4, 2) := by decide +kernel
theorem dX4_weigh_70 : decode cX4_weigh 70 = .ok (.iconst 0, 1) := by decide +kernel
theorem dX4_weigh_71 : decode cX4_weigh 71 = .ok (.istore 5, 2) := by decide +kernel
theorem dX4_weigh_73 : decode cX4_weigh 73 = .ok (.iload 5, 2) := by decide +kernel
theorem dX4_weigh_75 : decode cX4_weigh 75 = .ok (.aload_n 0, 1) := by decide +kernel
theorem dX4_weigh_76 : decode cX4_weigh 76 = .ok (.getfield 50, 3) := by decide +kernel
theorem dX4_weigh_79 : decode cX4_weigh 79 = .ok (.if_icmp .ge 150, 3) := by decide +kernel
theorem dX4_weigh_82 : decode cX4_weigh 82 = .ok (.aload_n 2, 1) := by decide +kernel
theorem dX4_weigh_83 : decode cX4_weigh 83 = .ok (.getfield 64, 3) := by decide +kernel
theorem dX4_weigh_86 : decode cX4_weigh 86 = .ok (.iload 5, 2) := by decide +kernel
theorem dX4_weigh_88 : decode cX4_weigh 88 = .ok (.iadd, 1) := by decide +kernel
theorem dX4_weigh_89 : decode cX4_weigh 89 = .ok (.istore 6, 2) := by decide +kernel
theorem dX4_weigh_91 : decode cX4_weigh 91 = .ok (.aload_n 2, 1) := by decide +kernel
theorem dX4_weigh_92 : decode cX4_weigh 92 = .ok (.getfield 67, 3) := by decide +kernel
theorem dX4_weigh_95 : decode cX4_weigh 95 = .ok (.iload 6, 2) := by decide +kernel
theorem dX4_weigh_97 : decode cX4_weigh 97 = .ok (.iaload, 1) := by decide +kernel
theorem dX4_weigh_98 : decode cX4_weigh 98 = .ok (.istore 7, 2) := by decide +kernel
theorem dX4_weigh_100 : decode cX4_weigh 100 = .ok (.aload_n 2, 1) := by decide +kernel
theorem dX4_weigh_101 : decode cX4_weigh 101 = .ok (.getfield 67, 3) := by decide +kernel
theorem dX4_weigh_104 : decode cX4_weigh 104 = .ok (.iload 6, 2) := by decide +kernel
theorem dX4_weigh_106 : decode cX4_weigh 106 = .ok (.iconst 1, 1) := by decide +kernel
theorem dX4_weigh_107 : decode cX4_weigh 107 = .ok (.iadd, 1) := by decide +kernel
theorem dX4_weigh_108 : decode cX4_weigh 108 = .ok (.iaload, 1) := by decide +kernel
theorem dX4_weigh_109 : decode cX4_weigh 109 = .ok (.istore 8, 2) := by decide +kernel
theorem dX4_weigh_111 : decode cX4_weigh 111 = .ok (.aload_n 1, 1) := by decide +kernel
theorem dX4_weigh_112 : decode cX4_weigh 112 = .ok (.iload 6, 2) := by decide +kernel
theorem dX4_weigh_114 : decode cX4_weigh 114 = .ok (.iconst 1, 1) := by decide +kernel
theorem dX4_weigh_115 : decode cX4_weigh 115 = .ok (.iadd, 1) := by decide +kernel
theorem dX4_weigh_116 : decode cX4_weigh 116 = .ok (.iload 8, 2) := by decide +kernel
theorem dX4_weigh_118 : decode cX4_weigh 118 = .ok (.invokevirtual 70, 3) := by decide +kernel
theorem dX4_weigh_121 : decode cX4_weigh 121 = .ok (.istore 9, 2) := by decide +kernel
theorem dX4_weigh_123 : decode cX4_weigh 123 = .ok (.aload_n 1, 1) := by decide +kernel
theorem dX4_weigh_124 : decode cX4_weigh 124 = .ok (.iload 6, 2) := by decide +kernel
theorem dX4_weigh_126 : decode cX4_weigh 126 = .ok (.iconst 1, 1) := by decide +kernel
theorem dX4_weigh_127 : decode cX4_weigh 127 = .ok (.iadd, 1) := by decide +kernel
theorem dX4_weigh_128 : decode cX4_weigh 128 = .ok (.iload 8, 2) := by decide +kernel
theorem dX4_weigh_130 : decode cX4_weigh 130 = .ok (.invokevirtual 74, 3) := by decide +kernel
theorem dX4_weigh_133 : decode cX4_weigh 133 = .ok (.istore 10, 2) := by decide +kernel
theorem dX4_weigh_135 : decode cX4_weigh 135 = .ok (.aload_n 0, 1) := by decide +kernel
theorem dX4_weigh_136 : decode cX4_weigh 136 = .ok (.getfield 9, 3) := by decide +kernel
theorem dX4_weigh_139 : decode cX4_weigh 139 = .ok (.iload 5, 2) := by decide +kernel
theorem dX4_weigh_141 : decode cX4_weigh 141 = .ok (.aload_n 2, 1) := by decide +kernel
theorem dX4_weigh_142 : decode cX4_weigh 142 = .ok (.getfield 77, 3) := by decide +kernel
theorem dX4_weigh_145 : decode cX4_weigh 145 = .ok (.ifCond .eq 11, 3) := by decide +kernel
theorem dX4_weigh_148 : decode cX4_weigh 148 = .ok (.iload 8, 2) := by decide +kernel
theorem dX4_weigh_150 : decode cX4_weigh 150 = .ok (.iload 7, 2) := by decide +kernel
theorem dX4_weigh_152 : decode cX4_weigh 152 = .ok (.isub, 1) := by decide +kernel
theorem dX4_weigh_153 : decode cX4_weigh 153 = .ok (.goto 8, 3) := by decide +kernel
theorem dX4_weigh_156 : decode cX4_weigh 156 = .ok (.iload 7, 2) := by decide +kernel
theorem dX4_weigh_158 : decode cX4_weigh 158 = .ok (.iload 8, 2) := by decide +kernel
theorem dX4_weigh_160 : decode cX4_weigh 160 = .ok (.isub, 1) := by decide +kernel
theorem dX4_weigh_161 : decode cX4_weigh 161 = .ok (.iastore, 1) := by decide +kernel
theorem dX4_weigh_162 : decode cX4_weigh 162 = .ok (.aload_n 0, 1) := by decide +kernel
theorem dX4_weigh_163 : decode cX4_weigh 163 = .ok (.getfield 15, 3) := by decide +kernel
theorem dX4_weigh_166 : decode cX4_weigh 166 = .ok (.iload 5, 2) := by decide +kernel
theorem dX4_weigh_168 : decode cX4_weigh 168 = .ok (.aload_n 0, 1) := by decide +kernel
theorem dX4_weigh_169 : decode cX4_weigh 169 = .ok (.getfield 43, 3) := by decide +kernel
theorem dX4_weigh_172 : decode cX4_weigh 172 = .ok (.iload_n 3, 1) := by decide +kernel
theorem dX4_weigh_173 : decode cX4_weigh 173 = .ok (.iload 9, 2) := by decide +kernel
theorem dX4_weigh_175 : decode cX4_weigh 175 = .ok (.iadd, 1) := by decide +kernel
theorem dX4_weigh_176 : decode cX4_weigh 176 = .ok (.imul, 1) := by decide +kernel
theorem dX4_weigh_177 : decode cX4_weigh 177 = .ok (.iastore, 1) := by decide +kernel
theorem dX4_weigh_178 : decode cX4_weigh 178 = .ok (.aload_n 0, 1) := by decide +kernel
theorem dX4_weigh_179 : decode cX4_weigh 179 = .ok (.getfield 18, 3) := by decide +kernel
theorem dX4_weigh_182 : decode cX4_weigh 182 = .ok (.iload 5, 2) := by decide +kernel
theorem dX4_weigh_184 : decode cX4_weigh 184 = .ok (.bipush 10, 2) := by decide +kernel
theorem dX4_weigh_186 : decode cX4_weigh 186 = .ok (.aload_n 0, 1) := by decide +kernel
theorem dX4_weigh_187 : decode cX4_weigh 187 = .ok (.getfield 43, 3) := by decide +kernel
theorem dX4_weigh_190 : decode cX4_weigh 190 = .ok (.imul, 1) := by decide +kernel
theorem dX4_weigh_191 : decode cX4_weigh 191 = .ok (.iload 4, 2) := by decide +kernel
theorem dX4_weigh_193 : decode cX4_weigh 193 = .ok (.iload 10, 2) := by decide +kernel
theorem dX4_weigh_195 : decode cX4_weigh 195 = .ok (.iadd, 1) := by decide +kernel
theorem dX4_weigh_196 : decode cX4_weigh 196 = .ok (.imul, 1) := by decide +kernel
theorem dX4_weigh_197 : decode cX4_weigh 197 = .ok (.iastore, 1) := by decide +kernel
theorem dX4_weigh_198 : decode cX4_weigh 198 = .ok (.aload_n 0, 1) := by decide +kernel
theorem dX4_weigh_199 : decode cX4_weigh 199 = .ok (.getfield 21, 3) := by decide +kernel
theorem dX4_weigh_202 : decode cX4_weigh 202 = .ok (.iload 5, 2) := by decide +kernel
theorem dX4_weigh_204 : decode cX4_weigh 204 = .ok (.aload_n 1, 1) := by decide +kernel
theorem dX4_weigh_205 : decode cX4_weigh 205 = .ok (.iload 6, 2) := by decide +kernel
theorem dX4_weigh_207 : decode cX4_weigh 207 = .ok (.iload 7, 2) := by decide +kernel
theorem dX4_weigh_209 : decode cX4_weigh 209 = .ok (.iload 8, 2) := by decide +kernel
theorem dX4_weigh_211 : decode cX4_weigh 211 = .ok (.iadd, 1) := by decide +kernel
theorem dX4_weigh_212 : decode cX4_weigh 212 = .ok (.invokevirtual 81, 3) := by decide +kernel
theorem dX4_weigh_215 : decode cX4_weigh 215 = .ok (.iastore, 1) := by decide +kernel
theorem dX4_weigh_216 : decode cX4_weigh 216 = .ok (.iload 9, 2) := by decide +kernel
theorem dX4_weigh_218 : decode cX4_weigh 218 = .ok (.istore_n 3, 1) := by decide +kernel
theorem dX4_weigh_219 : decode cX4_weigh 219 = .ok (.iload 10, 2) := by decide +kernel
theorem dX4_weigh_221 : decode cX4_weigh 221 = .ok (.istore 4, 2) := by decide +kernel
theorem dX4_weigh_223 : decode cX4_weigh 223 = .ok (.iinc 5 1, 3) := by decide +kernel
theorem dX4_weigh_226 : decode cX4_weigh 226 = .ok (.goto (-153), 3) := by decide +kernel
theorem dX4_weigh_229 : decode cX4_weigh 229 = .ok (.return_, 1) := by decide +kernel
set_option maxHeartbeats 4000000 in
theorem st_X4_weigh_161 {X : sj_X} {g : sj_G} {s0 : sj_Mem} {N : Nat} {q : Unit × sj_VV} {k73 : Nat → Nat → Nat → Int → Int → Int → sj_VV → Option (Unit × sj_VV)} (hk73 : ∀ (a0 : Nat) (x1 : Nat) (x2 : Nat) (x3 : Int) (x4 : Int) (x5 : Int) (V : sj_VV), OK4 g a0 → OK0 g x1 → OK5 g x2 → k73 a0 x1 x2 x3 x4 x5 V = some q → sj_T X m_X4_weigh s0 (none, (g, q.2)) 73 [some (sj_r (some a0)), some (sj_r (some x1)), some (sj_r (some x2)), some (sj_i x3), some (sj_i x4), some (sj_i x5), none, none, none, none, none] [] (g, V)) :
    ∀ (a0 : Nat) (x1 : Nat) (x2 : Nat) (x3 : Int) (x4 : Int) (x5 : Int) (x6 : Int) (x7 : Int) (x8 : Int) (x9 : Int) (x10 : Int) (y0 : Int) (y1 : Int) (y2 : Nat) (m2 : Nat) (V : sj_VV), OK4 g a0 → OK0 g x1 → OK5 g x2 → OKA g 100 y2 m2 → g_X4_weigh_161 N k73 a0 x1 x2 x3 x4 x5 x6 x7 x8 x9 x10 y0 y1 y2 m2 V = some q → sj_T X m_X4_weigh s0 (none, (g, q.2)) 161 [some (sj_r (some a0)), some (sj_r (some x1)), some (sj_r (some x2)), some (sj_i x3), some (sj_i x4), some (sj_i x5), some (sj_i x6), some (sj_i x7), some (sj_i x8), some (sj_i x9), some (sj_i x10)] [(sj_i y0), (sj_i y1), (sj_r (some y2))] (g, V) := by
  intro a0 x1 x2 x3 x4 x5 x6 x7 x8 x9 x10 y0 y1 y2 m2 V ha0 hx1 hx2 hy2 h
  unfold g_X4_weigh_161 at h
  refine r_iastores (pc := 161) h dX4_weigh_161 hy2 (fun V1 h => ?_)
  refine r_aload_n (pc := 162) dX4_weigh_162 rfl rfl ?_
  refine r_gRs (b := a0 + 2) (pc := 163) dX4_weigh_163 fw_X4_15 rfl (ok4 ha0) (ok4_1 ha0).1 ?_
  refine r_iload (pc := 166) dX4_weigh_166 rfl ?_
  refine r_aload_n (pc := 168) dX4_weigh_168 rfl rfl ?_
  refine r_gIs (pc := 169) dX4_weigh_169 fw_X4_43 rfl (ok4 ha0) ?_
  refine r_iload_n (pc := 172) dX4_weigh_172 rfl rfl ?_
  refine r_iload (pc := 173) dX4_weigh_173 rfl ?_
  refine r_iadd (pc := 175) dX4_weigh_175 ?_
  refine r_imul (pc := 176) dX4_weigh_176 ?_
  refine r_iastores (pc := 177) h dX4_weigh_177 (ok4_1 ha0).2 (fun V2 h => ?_)
  refine r_aload_n (pc := 178) dX4_weigh_178 rfl rfl ?_
  refine r_gRs (b := a0 + 3) (pc := 179) dX4_weigh_179 fw_X4_18 rfl (ok4 ha0) (ok4_2 ha0).1 ?_
  refine r_iload (pc := 182) dX4_weigh_182 rfl ?_
  refine r_bipush (pc := 184) dX4_weigh_184 ⟨by decide, by decide⟩ ?_
  refine r_aload_n (pc := 186) dX4_weigh_186 rfl rfl ?_
  refine r_gIs (pc := 187) dX4_weigh_187 fw_X4_43 rfl (ok4 ha0) ?_
  refine r_imul (pc := 190) dX4_weigh_190 ?_
  refine r_iload (pc := 191) dX4_weigh_191 rfl ?_
  refine r_iload (pc := 193) dX4_weigh_193 rfl ?_
  refine r_iadd (pc := 195) dX4_weigh_195 ?_
  refine r_imul (pc := 196) dX4_weigh_196 ?_
  refine r_iastores (pc := 197) h dX4_weigh_197 (ok4_2 ha0).2 (fun V3 h => ?_)
  refine r_aload_n (pc := 198) dX4_weigh_198 rfl rfl ?_
  refine r_gRs (b := a0 + 4) (pc := 199) dX4_weigh_199 fw_X4_21 rfl (ok4 ha0) (ok4_3 ha0).1 ?_
  refine r_iload (pc := 202) dX4_weigh_202 rfl ?_
  refine r_aload_n (pc := 204) dX4_weigh_204 rfl rfl ?_
  refine r_iload (pc := 205) dX4_weigh_205 rfl ?_
  refine r_iload (pc := 207) dX4_weigh_207 rfl ?_
  refine r_iload (pc := 209) dX4_weigh_209 rfl ?_
  refine r_iadd (pc := 211) dX4_weigh_211 ?_
  refine r_callVs (pc := 212) (fun v => some (sj_i v)) (As := [sj_i x6, sj_i (x7 + x8)]) (rest := [(sj_i x5), (sj_r (some (a0 + 4)))]) (b := x1) (ok0 hx1) h dX4_weigh_212 mw_X4_81 vw_X0_layerUnder (fun _ _ hc => cg_X0_layerUnder hx1 hc) rfl ⟨(Nat.le_of_ble_eq_true rfl), (Nat.le_of_ble_eq_true rfl)⟩ (Nat.le_of_ble_eq_true rfl) rfl (fun v5 V4 h => ?_)
  refine r_iastores (pc := 215) h dX4_weigh_215 (ok4_3 ha0).2 (fun V6 h => ?_)
  refine r_iload (pc := 216) dX4_weigh_216 rfl ?_
  refine r_istore_n (ln := [some (sj_r (some a0)), some (sj_r (some x1)), some (sj_r (some x2)), some (sj_i x9), some (sj_i x4), some (sj_i x5), some (sj_i x6), some (sj_i x7), some (sj_i x8), some (sj_i x9), some (sj_i x10)]) (pc := 218) dX4_weigh_218 rfl (Nat.le_of_ble_eq_true rfl) rfl ?_
  refine r_iload (pc := 219) dX4_weigh_219 rfl ?_
  refine r_istore (ln := [some (sj_r (some a0)), some (sj_r (some x1)), some (sj_r (some x2)), some (sj_i x9), some (sj_i x10), some (sj_i x5), some (sj_i x6), some (sj_i x7), some (sj_i x8), some (sj_i x9), some (sj_i x10)]) (pc := 221) dX4_weigh_221 (Nat.le_of_ble_eq_true rfl) rfl ?_
  refine r_iinc (ln := fun w => [some (sj_r (some a0)), some (sj_r (some x1)), some (sj_r (some x2)), some (sj_i x9), some (sj_i x10), some (sj_i w), some (sj_i x6), some (sj_i x7), some (sj_i x8), some (sj_i x9), some (sj_i x10)]) (pc := 223) h dX4_weigh_223 rfl (Nat.le_of_ble_eq_true rfl) (fun _ => rfl) (fun v7 h => ?_)
  refine r_goto (pc := 226) (tgt := 73) dX4_weigh_226 (by decide) ?_
  exact sj_weak (l2 := [some (sj_r (some a0)), some (sj_r (some x1)), some (sj_r (some x2)), some (sj_i x9), some (sj_i x10), some (sj_i v7), none, none, none, none, none]) (⟨rfl, ⟨rfl, ⟨rfl, ⟨rfl, ⟨rfl, ⟨rfl, trivial⟩⟩⟩⟩⟩⟩) (hk73 a0 x1 x2 x9 x10 v7 V6 ha0 hx1 hx2 h)
set_option maxHeartbeats 4000000 in
theorem st_X4_weigh_73_b {X : sj_X} {g : sj_G} {s0 : sj_Mem} {N : Nat} {q : Unit × sj_VV} {k73 : Nat → Nat → Nat → Int → Int → Int → sj_VV → Option (Unit × sj_VV)} (hk73 : ∀ (a0 : Nat) (x1 : Nat) (x2 : Nat) (x3 : Int) (x4 : Int) (x5 : Int) (V : sj_VV), OK4 g a0 → OK0 g x1 → OK5 g x2 → k73 a0 x1 x2 x3 x4 x5 V = some q → sj_T X m_X4_weigh s0 (none, (g, q.2)) 73 [some (sj_r (some a0)), some (sj_r (some x1)), some (sj_r (some x2)), some (sj_i x3), some (sj_i x4), some (sj_i x5), none, none, none, none, none] [] (g, V)) :
    ∀ (a0 : Nat) (x1 : Nat) (x2 : Nat) (x3 : Int) (x4 : Int) (x5 : Int) (V : sj_VV), OK4 g a0 → OK0 g x1 → OK5 g x2 → g_X4_weigh_73_b N k73 a0 x1 x2 x3 x4 x5 V = some q → sj_T X m_X4_weigh s0 (none, (g, q.2)) 73 [some (sj_r (some a0)), some (sj_r (some x1)), some (sj_r (some x2)), some (sj_i x3), some (sj_i x4), some (sj_i x5), none, none, none, none, none] [] (g, V) := by
  intro a0 x1 x2 x3 x4 x5 V ha0 hx1 hx2 h
  unfold g_X4_weigh_73_b at h
  refine r_iload (pc := 73) dX4_weigh_73 rfl ?_
  refine r_aload_n (pc := 75) dX4_weigh_75 rfl rfl ?_
  refine r_gIs (pc := 76) dX4_weigh_76 fw_X4_50 rfl (ok4 ha0) ?_
  refine r_icmp_ge (pc := 79) (tgt := 229) h dX4_weigh_79 (by decide) (fun h => ?_) (fun h => ?_)
  · exact r_vrets (pc := 229) h rfl dX4_weigh_229
  · refine r_aload_n (pc := 82) dX4_weigh_82 rfl rfl ?_
    refine r_gIs (pc := 83) dX4_weigh_83 fw_X4_64 rfl (ok5 hx2) ?_
    refine r_iload (pc := 86) dX4_weigh_86 rfl ?_
    refine r_iadd (pc := 88) dX4_weigh_88 ?_
    refine r_istoreL (ln := fun w => [some (sj_r (some a0)), some (sj_r (some x1)), some (sj_r (some x2)), some (sj_i x3), some (sj_i x4), some (sj_i x5), some (sj_i w), none, none, none, none]) (pc := 89) h dX4_weigh_89 (Nat.le_of_ble_eq_true rfl) (fun _ => rfl) (fun v1 h => ?_)
    refine r_aload_n (pc := 91) dX4_weigh_91 rfl rfl ?_
    refine r_gRs (b := x2 + 1) (pc := 92) dX4_weigh_92 fw_X4_67 rfl (ok5 hx2) (ok5_0 hx2).1 ?_
    refine r_iload (pc := 95) dX4_weigh_95 rfl ?_
    refine r_ialoads (pc := 97) h dX4_weigh_97 (ok5_0 hx2).2 (fun h => ?_)
    refine r_istoreL (ln := fun w => [some (sj_r (some a0)), some (sj_r (some x1)), some (sj_r (some x2)), some (sj_i x3), some (sj_i x4), some (sj_i x5), some (sj_i v1), some (sj_i w), none, none, none]) (pc := 98) h dX4_weigh_98 (Nat.le_of_ble_eq_true rfl) (fun _ => rfl) (fun v2 h => ?_)
    refine r_aload_n (pc := 100) dX4_weigh_100 rfl rfl ?_
    refine r_gRs (b := x2 + 1) (pc := 101) dX4_weigh_101 fw_X4_67 rfl (ok5 hx2) (ok5_0 hx2).1 ?_
    refine r_iload (pc := 104) dX4_weigh_104 rfl ?_
    refine r_iconst (pc := 106) dX4_weigh_106 ?_
    refine r_iadd (pc := 107) dX4_weigh_107 ?_
    refine r_ialoads (pc := 108) h dX4_weigh_108 (ok5_0 hx2).2 (fun h => ?_)
    refine r_istoreL (ln := fun w => [some (sj_r (some a0)), some (sj_r (some x1)), some (sj_r (some x2)), some (sj_i x3), some (sj_i x4), some (sj_i x5), some (sj_i v1), some (sj_i v2), some (sj_i w), none, none]) (pc := 109) h dX4_weigh_109 (Nat.le_of_ble_eq_true rfl) (fun _ => rfl) (fun v3 h => ?_)
    refine r_aload_n (pc := 111) dX4_weigh_111 rfl rfl ?_
    refine r_iload (pc := 112) dX4_weigh_112 rfl ?_
    refine r_iconst (pc := 114) dX4_weigh_114 ?_
    refine r_iadd (pc := 115) dX4_weigh_115 ?_
    refine r_iload (pc := 116) dX4_weigh_116 rfl ?_
    refine r_callVs (pc := 118) (fun v => some (sj_i v)) (As := [sj_i (v1 + 1), sj_i v3]) (rest := []) (b := x1) (ok0 hx1) h dX4_weigh_118 mw_X4_70 vw_X0_weightOn (fun _ _ hc => cg_X0_weightOn hx1 hc) rfl ⟨(Nat.le_of_ble_eq_true rfl), (Nat.le_of_ble_eq_true rfl)⟩ (Nat.le_of_ble_eq_true rfl) rfl (fun v5 V4 h => ?_)
    refine r_istore (ln := [some (sj_r (some a0)), some (sj_r (some x1)), some (sj_r (some x2)), some (sj_i x3), some (sj_i x4), some (sj_i x5), some (sj_i v1), some (sj_i v2), some (sj_i v3), some (sj_i v5), none]) (pc := 121) dX4_weigh_121 (Nat.le_of_ble_eq_true rfl) rfl ?_
    refine r_aload_n (pc := 123) dX4_weigh_123 rfl rfl ?_
    refine r_iload (pc := 124) dX4_weigh_124 rfl ?_
    refine r_iconst (pc := 126) dX4_weigh_126 ?_
    refine r_iadd (pc := 127) dX4_weigh_127 ?_
    refine r_iload (pc := 128) dX4_weigh_128 rfl ?_
    refine r_callVs (pc := 130) (fun v => some (sj_i v)) (As := [sj_i (v1 + 1), sj_i v3]) (rest := []) (b := x1) (ok0 hx1) h dX4_weigh_130 mw_X4_74 vw_X0_headOn (fun _ _ hc => cg_X0_headOn hx1 hc) rfl ⟨(Nat.le_of_ble_eq_true rfl), (Nat.le_of_ble_eq_true rfl)⟩ (Nat.le_of_ble_eq_true rfl) rfl (fun v7 V6 h => ?_)
    refine r_istore (ln := [some (sj_r (some a0)), some (sj_r (some x1)), some (sj_r (some x2)), some (sj_i x3), some (sj_i x4), some (sj_i x5), some (sj_i v1), some (sj_i v2), some (sj_i v3), some (sj_i v5), some (sj_i v7)]) (pc := 133) dX4_weigh_133 (Nat.le_of_ble_eq_true rfl) rfl ?_
    refine r_aload_n (pc := 135) dX4_weigh_135 rfl rfl ?_
    refine r_gRs (b := a0 + 1) (pc := 136) dX4_weigh_136 fw_X4_9 rfl (ok4 ha0) (ok4_0 ha0).1 ?_
    refine r_iload (pc := 139) dX4_weigh_139 rfl ?_
    refine r_aload_n (pc := 141) dX4_weigh_141 rfl rfl ?_
    refine r_gIs (pc := 142) dX4_weigh_142 fw_X4_77 rfl (ok5 hx2) ?_
    refine r_if_eq (pc := 145) (tgt := 156) h dX4_weigh_145 (by decide) (fun h => ?_) (fun h => ?_)
    · refine r_iload (pc := 156) dX4_weigh_156 rfl ?_
      refine r_iload (pc := 158) dX4_weigh_158 rfl ?_
      refine r_isub (pc := 160) dX4_weigh_160 ?_
      exact sj_weak (l2 := [some (sj_r (some a0)), some (sj_r (some x1)), some (sj_r (some x2)), some (sj_i x3), some (sj_i x4), some (sj_i x5), some (sj_i v1), some (sj_i v2), some (sj_i v3), some (sj_i v5), some (sj_i v7)]) (⟨rfl, ⟨rfl, ⟨rfl, ⟨rfl, ⟨rfl, ⟨rfl, ⟨rfl, ⟨rfl, ⟨rfl, ⟨rfl, ⟨rfl, trivial⟩⟩⟩⟩⟩⟩⟩⟩⟩⟩⟩) (st_X4_weigh_161 hk73 a0 x1 x2 x3 x4 x5 v1 v2 v3 v5 v7 (v2 - v3) x5 (a0 + 1) 41 V6 ha0 hx1 hx2 (ok4_0 ha0).2 h)
    · refine r_iload (pc := 148) dX4_weigh_148 rfl ?_
      refine r_iload (pc := 150) dX4_weigh_150 rfl ?_
      refine r_isub (pc := 152) dX4_weigh_152 ?_
      refine r_goto (pc := 153) (tgt := 161) dX4_weigh_153 (by decide) ?_
      exact sj_weak (l2 := [some (sj_r (some a0)), some (sj_r (some x1)), some (sj_r (some x2)), some (sj_i x3), some (sj_i x4), some (sj_i x5), some (sj_i v1), some (sj_i v2), some (sj_i v3), some (sj_i v5), some (sj_i v7)]) (⟨rfl, ⟨rfl, ⟨rfl, ⟨rfl, ⟨rfl, ⟨rfl, ⟨rfl, ⟨rfl, ⟨rfl, ⟨rfl, ⟨rfl, trivial⟩⟩⟩⟩⟩⟩⟩⟩⟩⟩⟩) (st_X4_weigh_161 hk73 a0 x1 x2 x3 x4 x5 v1 v2 v3 v5 v7 (v3 - v2) x5 (a0 + 1) 41 V6 ha0 hx1 hx2 (ok4_0 ha0).2 h)
set_option maxHeartbeats 4000000 in
theorem st_X4_weigh_73 {X : sj_X} {g : sj_G} {s0 : sj_Mem} {N : Nat} {q : Unit × sj_VV} :
    ∀ (n : Nat) (a0 : Nat) (x1 : Nat) (x2 : Nat) (x3 : Int) (x4 : Int) (x5 : Int) (V : sj_VV), OK4 g a0 → OK0 g x1 → OK5 g x2 → g_X4_weigh_73 N n a0 x1 x2 x3 x4 x5 V = some q → sj_T X m_X4_weigh s0 (none, (g, q.2)) 73 [some (sj_r (some a0)), some (sj_r (some x1)), some (sj_r (some x2)), some (sj_i x3), some (sj_i x4), some (sj_i x5), none, none, none, none, none] [] (g, V) := by
  intro n
  induction n with
  | zero => intro a0 x1 x2 x3 x4 x5 V ha0 hx1 hx2 h; exact nomatch h
  | succ n ih => intro a0 x1 x2 x3 x4 x5 V ha0 hx1 hx2 h; exact st_X4_weigh_73_b (N := N) ih a0 x1 x2 x3 x4 x5 V ha0 hx1 hx2 h
set_option maxHeartbeats 4000000 in
theorem st_X4_weigh_0 {X : sj_X} {g : sj_G} {s0 : sj_Mem} {N : Nat} {q : Unit × sj_VV} :
    ∀ (a0 : Nat) (x1 : Nat) (x2 : Nat) (V : sj_VV), OK4 g a0 → OK0 g x1 → OK5 g x2 → g_X4_weigh N a0 x1 x2 V = some q → sj_T X m_X4_weigh s0 (none, (g, q.2)) 0 [some (sj_r (some a0)), some (sj_r (some x1)), some (sj_r (some x2)), none, none, none, none, none, none, none, none] [] (g, V) := by
  intro a0 x1 x2 V ha0 hx1 hx2 h
  unfold g_X4_weigh at h
  refine r_aload_n (pc := 0) dX4_weigh_0 rfl rfl ?_
  refine r_aload_n (pc := 1) dX4_weigh_1 rfl rfl ?_
  refine r_gIs (pc := 2) dX4_weigh_2 fw_X4_37 rfl (ok0 hx1) ?_
  refine r_pIs (pc := 5) h dX4_weigh_5 fw_X4_43 rfl rfl (nf4_9) (ok4 ha0) (fun V1 h => ?_)
  refine r_aload_n (pc := 8) dX4_weigh_8 rfl rfl ?_
  refine r_aload_n (pc := 9) dX4_weigh_9 rfl rfl ?_
  refine r_callVs (pc := 10) (fun v => some (sj_i v)) (As := []) (rest := [(sj_r (some a0))]) (b := x2) (ok5 hx2) h dX4_weigh_10 mw_X4_44 vw_X5_count (fun _ _ hc => cg_X5_count hx2 hc) rfl ⟨(Nat.le_of_ble_eq_true rfl), (Nat.le_of_ble_eq_true rfl)⟩ (Nat.le_of_ble_eq_true rfl) rfl (fun v3 V2 h => ?_)
  refine r_pIs (pc := 13) h dX4_weigh_13 fw_X4_50 rfl rfl (nf4_8) (ok4 ha0) (fun V4 h => ?_)
  refine r_aload_n (pc := 16) dX4_weigh_16 rfl rfl ?_
  refine r_aload_n (pc := 17) dX4_weigh_17 rfl rfl ?_
  refine r_aload_n (pc := 18) dX4_weigh_18 rfl rfl ?_
  refine r_callVs (pc := 19) (fun v => some (sj_j v)) (As := [sj_r (some x2)]) (rest := [(sj_r (some a0))]) (b := x1) (ok0 hx1) h dX4_weigh_19 mw_X4_52 vw_X0_pullsOn (fun _ _ hc => cg_X0_pullsOn hx1 hx2 hc) rfl ⟨(Nat.le_of_ble_eq_true rfl), (Nat.le_of_ble_eq_true rfl)⟩ (Nat.le_of_ble_eq_true rfl) rfl (fun v6 V5 h => ?_)
  refine r_pJs (pc := 22) h dX4_weigh_22 fw_X4_56 rfl rfl (nf4_10) (ok4 ha0) (fun V7 h => ?_)
  refine r_aload_n (pc := 25) dX4_weigh_25 rfl rfl ?_
  refine r_callVs (pc := 26) (fun v => some (sj_i v)) (As := []) (rest := []) (b := x2) (ok5 hx2) h dX4_weigh_26 mw_X4_60 vw_X5_isNone (fun _ _ hc => cg_X5_isNone hx2 hc) rfl ⟨(Nat.le_of_ble_eq_true rfl), (Nat.le_of_ble_eq_true rfl)⟩ (Nat.le_of_ble_eq_true rfl) rfl (fun v9 V8 h => ?_)
  refine r_if_eq (pc := 29) (tgt := 33) h dX4_weigh_29 (by decide) (fun h => ?_) (fun h => ?_)
  · refine r_aload_n (pc := 33) dX4_weigh_33 rfl rfl ?_
    refine r_aload_n (pc := 34) dX4_weigh_34 rfl rfl ?_
    refine r_gIs (pc := 35) dX4_weigh_35 fw_X4_64 rfl (ok5 hx2) ?_
    refine r_aload_n (pc := 38) dX4_weigh_38 rfl rfl ?_
    refine r_gRs (b := x2 + 1) (pc := 39) dX4_weigh_39 fw_X4_67 rfl (ok5 hx2) (ok5_0 hx2).1 ?_
    refine r_aload_n (pc := 42) dX4_weigh_42 rfl rfl ?_
    refine r_gIs (pc := 43) dX4_weigh_43 fw_X4_64 rfl (ok5 hx2) ?_
    refine r_ialoads (pc := 46) h dX4_weigh_46 (ok5_0 hx2).2 (fun h => ?_)
    refine r_callVs (pc := 47) (fun v => some (sj_i v)) (As := [sj_i (V8 x2 1), sj_i (V8 (x2 + 1) (V8 x2 1).toNat)]) (rest := []) (b := x1) (ok0 hx1) h dX4_weigh_47 mw_X4_70 vw_X0_weightOn (fun _ _ hc => cg_X0_weightOn hx1 hc) rfl ⟨(Nat.le_of_ble_eq_true rfl), (Nat.le_of_ble_eq_true rfl)⟩ (Nat.le_of_ble_eq_true rfl) rfl (fun v11 V10 h => ?_)
    refine r_istore_n (ln := [some (sj_r (some a0)), some (sj_r (some x1)), some (sj_r (some x2)), some (sj_i v11), none, none, none, none, none, none, none]) (pc := 50) dX4_weigh_50 rfl (Nat.le_of_ble_eq_true rfl) rfl ?_
    refine r_aload_n (pc := 51) dX4_weigh_51 rfl rfl ?_
    refine r_aload_n (pc := 52) dX4_weigh_52 rfl rfl ?_
    refine r_gIs (pc := 53) dX4_weigh_53 fw_X4_64 rfl (ok5 hx2) ?_
    refine r_aload_n (pc := 56) dX4_weigh_56 rfl rfl ?_
    refine r_gRs (b := x2 + 1) (pc := 57) dX4_weigh_57 fw_X4_67 rfl (ok5 hx2) (ok5_0 hx2).1 ?_
    refine r_aload_n (pc := 60) dX4_weigh_60 rfl rfl ?_
    refine r_gIs (pc := 61) dX4_weigh_61 fw_X4_64 rfl (ok5 hx2) ?_
    refine r_ialoads (pc := 64) h dX4_weigh_64 (ok5_0 hx2).2 (fun h => ?_)
    refine r_callVs (pc := 65) (fun v => some (sj_i v)) (As := [sj_i (V10 x2 1), sj_i (V10 (x2 + 1) (V10 x2 1).toNat)]) (rest := []) (b := x1) (ok0 hx1) h dX4_weigh_65 mw_X4_74 vw_X0_headOn (fun _ _ hc => cg_X0_headOn hx1 hc) rfl ⟨(Nat.le_of_ble_eq_true rfl), (Nat.le_of_ble_eq_true rfl)⟩ (Nat.le_of_ble_eq_true rfl) rfl (fun v13 V12 h => ?_)
    refine r_istore (ln := [some (sj_r (some a0)), some (sj_r (some x1)), some (sj_r (some x2)), some (sj_i v11), some (sj_i v13), none, none, none, none, none, none]) (pc := 68) dX4_weigh_68 (Nat.le_of_ble_eq_true rfl) rfl ?_
    refine r_iconst (pc := 70) dX4_weigh_70 ?_
    refine r_istore (ln := [some (sj_r (some a0)), some (sj_r (some x1)), some (sj_r (some x2)), some (sj_i v11), some (sj_i v13), some (sj_i 0), none, none, none, none, none]) (pc := 71) dX4_weigh_71 (Nat.le_of_ble_eq_true rfl) rfl ?_
    exact sj_weak (l2 := [some (sj_r (some a0)), some (sj_r (some x1)), some (sj_r (some x2)), some (sj_i v11), some (sj_i v13), some (sj_i 0), none, none, none, none, none]) (⟨rfl, ⟨rfl, ⟨rfl, ⟨rfl, ⟨rfl, ⟨rfl, trivial⟩⟩⟩⟩⟩⟩) (st_X4_weigh_73 N a0 x1 x2 v11 v13 0 V12 ha0 hx1 hx2 h)
  · exact r_vrets (pc := 32) h rfl dX4_weigh_32
set_option maxHeartbeats 4000000 in
theorem cg_X4_weigh {X : sj_X} {g : sj_G} {N : Nat} {a0 : Nat} {x1 : Nat} {x2 : Nat} {V : sj_VV} {q : Unit × sj_VV} (ha0 : OK4 g a0) (hx1 : OK0 g x1) (hx2 : OK5 g x2) (h : g_X4_weigh N a0 x1 x2 V = some q) : sj_C X m_X4_weigh [sj_r (some a0), sj_r (some x1), sj_r (some x2)] (g, V) (none, (g, q.2)) :=
  sj_C_of (by decide +kernel) (Nat.le_of_ble_eq_true rfl) (lo := [some (sj_r (some a0)), some (sj_r (some x1)), some (sj_r (some x2)), none, none, none, none, none, none, none, none]) rfl (sj_weak (l2 := [some (sj_r (some a0)), some (sj_r (some x1)), some (sj_r (some x2)), none, none, none, none, none, none, none, none]) (⟨rfl, ⟨rfl, ⟨rfl, trivial⟩⟩⟩) (st_X4_weigh_0 a0 x1 x2 V ha0 hx1 hx2 h))
set_option maxHeartbeats 4000000 in
theorem c_X4_weigh {X : sj_X} {N : Nat} {a0 : Nat} {x1 : Option Nat} {x2 : Option Nat} {s : sj_Mem} {q : Unit × sj_Mem} (h : f_X4_weigh N a0 x1 x2 s = some q) : sj_C X m_X4_weigh [sj_r (some a0), sj_r x1, sj_r x2] s (none, q.2) := by
  obtain ⟨g, V⟩ := s
  unfold f_X4_weigh at h
  obtain ⟨ho, h1⟩ := e_ok_some h
  obtain ⟨q2, h2, rfl⟩ := sj_map_some h1
  obtain ⟨z1, hz1⟩ : ∃ z, x1 = some z := ⟨_, ho.2.1⟩
  subst hz1
  obtain ⟨z2, hz2⟩ : ∃ z, x2 = some z := ⟨_, ho.2.2.2.1⟩
  subst hz2
  exact cg_X4_weigh ho.1 ho.2.2.1 ho.2.2.2.2 h2
theorem dX4_press_0 : decode cX4_press 0 = .ok (.iconst 0, 1) := by decide +kernel
theorem dX4_press_1 : decode cX4_press 1 = .ok (.aload_n 0, 1) := by decide +kernel
theorem dX4_press_2 : decode cX4_press 2 = .ok (.getfield 15, 3) := by decide +kernel
theorem dX4_press_5 : decode cX4_press 5 = .ok (.iload_n 1, 1) := by decide +kernel
theorem dX4_press_6 : decode cX4_press 6 = .ok (.iaload, 1) := by decide +kernel
theorem dX4_press_7 : decode cX4_press 7 = .ok (.aload_n 0, 1) := by decide +kernel
theorem dX4_press_8 : decode cX4_press 8 = .ok (.getfield 18, 3) := by decide +kernel
theorem dX4_press_11 : decode cX4_press 11 = .ok (.iload_n 1, 1) := by decide +kernel
theorem dX4_press_12 : decode cX4_press 12 = .ok (.iaload, 1) := by decide +kernel
theorem dX4_press_13 : decode cX4_press 13 = .ok (.isub, 1) := by decide +kernel
theorem dX4_press_14 : decode cX4_press 14 = .ok (.invokestatic 101, 3) := by decide +kernel
theorem dX4_press_17 : decode cX4_press 17 = .ok (.ireturn, 1) := by decide +kernel
set_option maxHeartbeats 4000000 in
theorem st_X4_press_0 {X : sj_X} {g : sj_G} {s0 : sj_Mem} {N : Nat} {q : Int × sj_VV} :
    ∀ (a0 : Nat) (x1 : Int) (V : sj_VV), OK4 g a0 → g_X4_press N a0 x1 V = some q → sj_T X m_X4_press s0 (some (sj_i q.1), (g, q.2)) 0 [some (sj_r (some a0)), some (sj_i x1)] [] (g, V) := by
  intro a0 x1 V ha0 h
  unfold g_X4_press at h
  refine r_iconst (pc := 0) dX4_press_0 ?_
  refine r_aload_n (pc := 1) dX4_press_1 rfl rfl ?_
  refine r_gRs (b := a0 + 2) (pc := 2) dX4_press_2 fw_X4_15 rfl (ok4 ha0) (ok4_1 ha0).1 ?_
  refine r_iload_n (pc := 5) dX4_press_5 rfl rfl ?_
  refine r_ialoads (pc := 6) h dX4_press_6 (ok4_1 ha0).2 (fun h => ?_)
  refine r_aload_n (pc := 7) dX4_press_7 rfl rfl ?_
  refine r_gRs (b := a0 + 3) (pc := 8) dX4_press_8 fw_X4_18 rfl (ok4 ha0) (ok4_2 ha0).1 ?_
  refine r_iload_n (pc := 11) dX4_press_11 rfl rfl ?_
  refine r_ialoads (pc := 12) h dX4_press_12 (ok4_2 ha0).2 (fun h => ?_)
  refine r_isub (pc := 13) dX4_press_13 ?_
  refine r_mmax (pc := 14) h dX4_press_14 mx_X4_101 (Nat.le_of_ble_eq_true rfl) (Nat.le_of_ble_eq_true rfl) (fun v1 h => ?_)
  exact r_irets (pc := 17) h rfl dX4_press_17
set_option maxHeartbeats 4000000 in
theorem cg_X4_press {X : sj_X} {g : sj_G} {N : Nat} {a0 : Nat} {x1 : Int} {V : sj_VV} {q : Int × sj_VV} (ha0 : OK4 g a0) (h : g_X4_press N a0 x1 V = some q) : sj_C X m_X4_press [sj_r (some a0), sj_i x1] (g, V) (some (sj_i q.1), (g, q.2)) :=
  sj_C_of (by decide +kernel) (Nat.le_of_ble_eq_true rfl) (lo := [some (sj_r (some a0)), some (sj_i x1)]) rfl (sj_weak (l2 := [some (sj_r (some a0)), some (sj_i x1)]) (⟨rfl, ⟨rfl, trivial⟩⟩) (st_X4_press_0 a0 x1 V ha0 h))
set_option maxHeartbeats 4000000 in
theorem c_X4_press {X : sj_X} {N : Nat} {a0 : Nat} {x1 : Int} {s : sj_Mem} {q : Int × sj_Mem} (h : f_X4_press N a0 x1 s = some q) : sj_C X m_X4_press [sj_r (some a0), sj_i x1] s (some (sj_i q.1), q.2) := by
  obtain ⟨g, V⟩ := s
  unfold f_X4_press at h
  obtain ⟨ho, h1⟩ := e_ok_some h
  obtain ⟨q2, h2, rfl⟩ := sj_map_some h1
  exact cg_X4_press ho h2
theorem dX4_settle_0 : decode cX4_settle 0 = .ok (.iconst 0, 1) := by decide +kernel
theorem dX4_settle_1 : decode cX4_settle 1 = .ok (.istore_n 3, 1) := by decide +kernel
theorem dX4_settle_2 : decode cX4_settle 2 = .ok (.iload_n 3, 1) := by decide +kernel
theorem dX4_settle_3 : decode cX4_settle 3 = .ok (.aload_n 0, 1) := by decide +kernel
theorem dX4_settle_4 : decode cX4_settle 4 = .ok (.getfield 50, 3) := by decide +kernel
theorem dX4_settle_7 : decode cX4_settle 7 = .ok (.if_icmp .ge 153, 3) := by decide +kernel
theorem dX4_settle_10 : decode cX4_settle 10 = .ok (.aload_n 1, 1) := by decide +kernel
theorem dX4_settle_11 : decode cX4_settle 11 = .ok (.getfield 84, 3) := by decide +kernel
theorem dX4_settle_14 : decode cX4_settle 14 = .ok (.aload_n 0, 1) := by decide +kernel
theorem dX4_settle_15 : decode cX4_settle 15 = .ok (.getfield 21, 3) := by decide +kernel
theorem dX4_settle_18 : decode cX4_settle 18 = .ok (.iload_n 3, 1) := by decide +kernel
theorem dX4_settle_19 : decode cX4_settle 19 = .ok (.iaload, 1) := by decide +kernel
theorem dX4_settle_20 : decode cX4_settle 20 = .ok (.iaload, 1) := by decide +kernel
theorem dX4_settle_21 : decode cX4_settle 21 = .ok (.istore 4, 2) := by decide +kernel
theorem dX4_settle_23 : decode cX4_settle 23 = .ok (.aload_n 0, 1) := by decide +kernel
theorem dX4_settle_24 : decode cX4_settle 24 = .ok (.getfield 24, 3) := by decide +kernel
theorem dX4_settle_27 : decode cX4_settle 27 = .ok (.iload_n 3, 1) := by decide +kernel
theorem dX4_settle_28 : decode cX4_settle 28 = .ok (.ldc2_w 87, 3) := by decide +kernel
theorem dX4_settle_31 : decode cX4_settle 31 = .ok (.aload_n 1, 1) := by decide +kernel
theorem dX4_settle_32 : decode cX4_settle 32 = .ok (.getfield 89, 3) := by decide +kernel
theorem dX4_settle_35 : decode cX4_settle 35 = .ok (.aload_n 0, 1) := by decide +kernel
theorem dX4_settle_36 : decode cX4_settle 36 = .ok (.getfield 21, 3) := by decide +kernel
theorem dX4_settle_39 : decode cX4_settle 39 = .ok (.iload_n 3, 1) := by decide +kernel
theorem dX4_settle_40 : decode cX4_settle 40 = .ok (.iaload, 1) := by decide +kernel
theorem dX4_settle_41 : decode cX4_settle 41 = .ok (.iaload, 1) := by decide +kernel
theorem dX4_settle_42 : decode cX4_settle 42 = .ok (.iload_n 2, 1) := by decide +kernel
theorem dX4_settle_43 : decode cX4_settle 43 = .ok (.iadd, 1) := by decide +kernel
theorem dX4_settle_44 : decode cX4_settle 44 = .ok (.i2l, 1) := by decide +kernel
theorem dX4_settle_45 : decode cX4_settle 45 = .ok (.lmul, 1) := by decide +kernel
theorem dX4_settle_46 : decode cX4_settle 46 = .ok (.aload_n 0, 1) := by decide +kernel
theorem dX4_settle_47 : decode cX4_settle 47 = .ok (.getfield 43, 3) := by decide +kernel
theorem dX4_settle_50 : decode cX4_settle 50 = .ok (.i2l, 1) := by decide +kernel
theorem dX4_settle_51 : decode cX4_settle 51 = .ok (.lmul, 1) := by decide +kernel
theorem dX4_settle_52 : decode cX4_settle 52 = .ok (.aload_n 0, 1) := by decide +kernel
theorem dX4_settle_53 : decode cX4_settle 53 = .ok (.iload_n 3, 1) := by decide +kernel
theorem dX4_settle_54 : decode cX4_settle 54 = .ok (.invokevirtual 92, 3) := by decide +kernel
theorem dX4_settle_57 : decode cX4_settle 57 = .ok (.i2l, 1) := by decide +kernel
theorem dX4_settle_58 : decode cX4_settle 58 = .ok (.iload 4, 2) := by decide +kernel
theorem dX4_settle_60 : decode cX4_settle 60 = .ok (.i2l, 1) := by decide +kernel
theorem dX4_settle_61 : decode cX4_settle 61 = .ok (.lmul, 1) := by decide +kernel
theorem dX4_settle_62 : decode cX4_settle 62 = .ok (.ladd, 1) := by decide +kernel
theorem dX4_settle_63 : decode cX4_settle 63 = .ok (.lastore, 1) := by decide +kernel
theorem dX4_settle_64 : decode cX4_settle 64 = .ok (.aload_n 0, 1) := by decide +kernel
theorem dX4_settle_65 : decode cX4_settle 65 = .ok (.getfield 28, 3) := by decide +kernel
theorem dX4_settle_68 : decode cX4_settle 68 = .ok (.iload_n 3, 1) := by decide +kernel
theorem dX4_settle_69 : decode cX4_settle 69 = .ok (.aload_n 0, 1) := by decide +kernel
theorem dX4_settle_70 : decode cX4_settle 70 = .ok (.getfield 15, 3) := by decide +kernel
theorem dX4_settle_73 : decode cX4_settle 73 = .ok (.iload_n 3, 1) := by decide +kernel
theorem dX4_settle_74 : decode cX4_settle 74 = .ok (.iaload, 1) := by decide +kernel
theorem dX4_settle_75 : decode cX4_settle 75 = .ok (.i2l, 1) := by decide +kernel
theorem dX4_settle_76 : decode cX4_settle 76 = .ok (.ldc2_w 96, 3) := by decide +kernel
theorem dX4_settle_79 : decode cX4_settle 79 = .ok (.aload_n 0, 1) := by decide +kernel
theorem dX4_settle_80 : decode cX4_settle 80 = .ok (.getfield 9, 3) := by decide +kernel
theorem dX4_settle_83 : decode cX4_settle 83 = .ok (.iload_n 3, 1) := by decide +kernel
theorem dX4_settle_84 : decode cX4_settle 84 = .ok (.iaload, 1) := by decide +kernel
theorem dX4_settle_85 : decode cX4_settle 85 = .ok (.i2l, 1) := by decide +kernel
theorem dX4_settle_86 : decode cX4_settle 86 = .ok (.lmul, 1) := by decide +kernel
theorem dX4_settle_87 : decode cX4_settle 87 = .ok (.aload_n 1, 1) := by decide +kernel
theorem dX4_settle_88 : decode cX4_settle 88 = .ok (.getfield 98, 3) := by decide +kernel
theorem dX4_settle_91 : decode cX4_settle 91 = .ok (.aload_n 0, 1) := by decide +kernel
theorem dX4_settle_92 : decode cX4_settle 92 = .ok (.getfield 43, 3) := by decide +kernel
theorem dX4_settle_95 : decode cX4_settle 95 = .ok (.imul, 1) := by decide +kernel
theorem dX4_settle_96 : decode cX4_settle 96 = .ok (.i2l, 1) := by decide +kernel
theorem dX4_settle_97 : decode cX4_settle 97 = .ok (.ladd, 1) := by decide +kernel
theorem dX4_settle_98 : decode cX4_settle 98 = .ok (.lmul, 1) := by decide +kernel
theorem dX4_settle_99 : decode cX4_settle 99 = .ok (.lastore, 1) := by decide +kernel
theorem dX4_settle_100 : decode cX4_settle 100 = .ok (.aload_n 0, 1) := by decide +kernel
theorem dX4_settle_101 : decode cX4_settle 101 = .ok (.getfield 31, 3) := by decide +kernel
theorem dX4_settle_104 : decode cX4_settle 104 = .ok (.iload_n 3, 1) := by decide +kernel
theorem dX4_settle_105 : decode cX4_settle 105 = .ok (.aload_n 0, 1) := by decide +kernel
theorem dX4_settle_106 : decode cX4_settle 106 = .ok (.getfield 24, 3) := by decide +kernel
theorem dX4_settle_109 : decode cX4_settle 109 = .ok (.iload_n 3, 1) := by decide +kernel
theorem dX4_settle_110 : decode cX4_settle 110 = .ok (.laload, 1) := by decide +kernel
theorem dX4_settle_111 : decode cX4_settle 111 = .ok (.aload_n 0, 1) := by decide +kernel
theorem dX4_settle_112 : decode cX4_settle 112 = .ok (.getfield 43, 3) := by decide +kernel
theorem dX4_settle_115 : decode cX4_settle 115 = .ok (.aload_n 0, 1) := by decide +kernel
theorem dX4_settle_116 : decode cX4_settle 116 = .ok (.getfield 43, 3) := by decide +kernel
theorem dX4_settle_119 : decode cX4_settle 119 = .ok (.imul, 1) := by decide +kernel
theorem dX4_settle_120 : decode cX4_settle 120 = .ok (.aload_n 0, 1) := by decide +kernel
theorem dX4_settle_121 : decode cX4_settle 121 = .ok (.getfield 9, 3) := by decide +kernel
theorem dX4_settle_124 : decode cX4_settle 124 = .ok (.iload_n 3, 1) := by decide +kernel
theorem dX4_settle_125 : decode cX4_settle 125 = .ok (.iaload, 1) := by decide +kernel
theorem dX4_settle_126 : decode cX4_settle 126 = .ok (.aload_n 0, 1) := by decide +kernel
theorem dX4_settle_127 : decode cX4_settle 127 = .ok (.getfield 9, 3) := by decide +kernel
theorem dX4_settle_130 : decode cX4_settle 130 = .ok (.iload_n 3, 1) := by decide +kernel
theorem dX4_settle_131 : decode cX4_settle 131 = .ok (.iaload, 1) := by decide +kernel
theorem dX4_settle_132 : decode cX4_settle 132 = .ok (.imul, 1) := by decide +kernel
theorem dX4_settle_133 : decode cX4_settle 133 = .ok (.iadd, 1) := by decide +kernel
theorem dX4_settle_134 : decode cX4_settle 134 = .ok (.i2l, 1) := by decide +kernel
theorem dX4_settle_135 : decode cX4_settle 135 = .ok (.lmul, 1) := by decide +kernel
theorem dX4_settle_136 : decode cX4_settle 136 = .ok (.lastore, 1) := by decide +kernel
theorem dX4_settle_137 : decode cX4_settle 137 = .ok (.aload_n 0, 1) := by decide +kernel
theorem dX4_settle_138 : decode cX4_settle 138 = .ok (.getfield 34, 3) := by decide +kernel
theorem dX4_settle_141 : decode cX4_settle 141 = .ok (.iload_n 3, 1) := by decide +kernel
theorem dX4_settle_142 : decode cX4_settle 142 = .ok (.aload_n 0, 1) := by decide +kernel
theorem dX4_settle_143 : decode cX4_settle 143 = .ok (.getfield 9, 3) := by decide +kernel
theorem dX4_settle_146 : decode cX4_settle 146 = .ok (.iload_n 3, 1) := by decide +kernel
theorem dX4_settle_147 : decode cX4_settle 147 = .ok (.iaload, 1) := by decide +kernel
theorem dX4_settle_148 : decode cX4_settle 148 = .ok (.i2l, 1) := by decide +kernel
theorem dX4_settle_149 : decode cX4_settle 149 = .ok (.iload 4, 2) := by decide +kernel
theorem dX4_settle_151 : decode cX4_settle 151 = .ok (.i2l, 1) := by decide +kernel
theorem dX4_settle_152 : decode cX4_settle 152 = .ok (.lmul, 1) := by decide +kernel
theorem dX4_settle_153 : decode cX4_settle 153 = .ok (.lastore, 1) := by decide +kernel
theorem dX4_settle_154 : decode cX4_settle 154 = .ok (.iinc 3 1, 3) := by decide +kernel
theorem dX4_settle_157 : decode cX4_settle 157 = .ok (.goto (-155), 3) := by decide +kernel
theorem dX4_settle_160 : decode cX4_settle 160 = .ok (.return_, 1) := by decide +kernel
set_option maxHeartbeats 4000000 in
theorem st_X4_settle_2_b {X : sj_X} {g : sj_G} {s0 : sj_Mem} {N : Nat} {q : Unit × sj_VV} {k2 : Nat → Nat → Int → Int → sj_VV → Option (Unit × sj_VV)} (hk2 : ∀ (a0 : Nat) (x1 : Nat) (x2 : Int) (x3 : Int) (V : sj_VV), OK4 g a0 → OK0 g x1 → k2 a0 x1 x2 x3 V = some q → sj_T X m_X4_settle s0 (none, (g, q.2)) 2 [some (sj_r (some a0)), some (sj_r (some x1)), some (sj_i x2), some (sj_i x3), none] [] (g, V)) :
    ∀ (a0 : Nat) (x1 : Nat) (x2 : Int) (x3 : Int) (V : sj_VV), OK4 g a0 → OK0 g x1 → g_X4_settle_2_b N k2 a0 x1 x2 x3 V = some q → sj_T X m_X4_settle s0 (none, (g, q.2)) 2 [some (sj_r (some a0)), some (sj_r (some x1)), some (sj_i x2), some (sj_i x3), none] [] (g, V) := by
  intro a0 x1 x2 x3 V ha0 hx1 h
  unfold g_X4_settle_2_b at h
  refine r_iload_n (pc := 2) dX4_settle_2 rfl rfl ?_
  refine r_aload_n (pc := 3) dX4_settle_3 rfl rfl ?_
  refine r_gIs (pc := 4) dX4_settle_4 fw_X4_50 rfl (ok4 ha0) ?_
  refine r_icmp_ge (pc := 7) (tgt := 160) h dX4_settle_7 (by decide) (fun h => ?_) (fun h => ?_)
  · exact r_vrets (pc := 160) h rfl dX4_settle_160
  · refine r_aload_n (pc := 10) dX4_settle_10 rfl rfl ?_
    refine r_gRs (b := x1 + 8) (pc := 11) dX4_settle_11 fw_X4_84 rfl (ok0 hx1) (ok0_10 hx1).1 ?_
    refine r_aload_n (pc := 14) dX4_settle_14 rfl rfl ?_
    refine r_gRs (b := a0 + 4) (pc := 15) dX4_settle_15 fw_X4_21 rfl (ok4 ha0) (ok4_3 ha0).1 ?_
    refine r_iload_n (pc := 18) dX4_settle_18 rfl rfl ?_
    refine r_ialoads (pc := 19) h dX4_settle_19 (ok4_3 ha0).2 (fun h => ?_)
    refine r_ialoads (pc := 20) h dX4_settle_20 (ok0_10 hx1).2 (fun h => ?_)
    refine r_istoreL (ln := fun w => [some (sj_r (some a0)), some (sj_r (some x1)), some (sj_i x2), some (sj_i x3), some (sj_i w)]) (pc := 21) h dX4_settle_21 (Nat.le_of_ble_eq_true rfl) (fun _ => rfl) (fun v1 h => ?_)
    refine r_aload_n (pc := 23) dX4_settle_23 rfl rfl ?_
    refine r_gRs (b := a0 + 5) (pc := 24) dX4_settle_24 fw_X4_24 rfl (ok4 ha0) (ok4_4 ha0).1 ?_
    refine r_iload_n (pc := 27) dX4_settle_27 rfl rfl ?_
    refine r_ldc2 (n := 2000) (pc := 28) dX4_settle_28 kc_X4_87 ?_
    refine r_aload_n (pc := 31) dX4_settle_31 rfl rfl ?_
    refine r_gRs (b := x1 + 7) (pc := 32) dX4_settle_32 fw_X4_89 rfl (ok0 hx1) (ok0_9 hx1).1 ?_
    refine r_aload_n (pc := 35) dX4_settle_35 rfl rfl ?_
    refine r_gRs (b := a0 + 4) (pc := 36) dX4_settle_36 fw_X4_21 rfl (ok4 ha0) (ok4_3 ha0).1 ?_
    refine r_iload_n (pc := 39) dX4_settle_39 rfl rfl ?_
    refine r_ialoads (pc := 40) h dX4_settle_40 (ok4_3 ha0).2 (fun h => ?_)
    refine r_ialoads (pc := 41) h dX4_settle_41 (ok0_9 hx1).2 (fun h => ?_)
    refine r_iload_n (pc := 42) dX4_settle_42 rfl rfl ?_
    refine r_iadd (pc := 43) dX4_settle_43 ?_
    refine r_i2l (pc := 44) h dX4_settle_44 (fun v2 h => ?_)
    refine r_lmul (pc := 45) dX4_settle_45 ?_
    refine r_aload_n (pc := 46) dX4_settle_46 rfl rfl ?_
    refine r_gIs (pc := 47) dX4_settle_47 fw_X4_43 rfl (ok4 ha0) ?_
    refine r_i2l (pc := 50) h dX4_settle_50 (fun v3 h => ?_)
    refine r_lmul (pc := 51) dX4_settle_51 ?_
    refine r_aload_n (pc := 52) dX4_settle_52 rfl rfl ?_
    refine r_iload_n (pc := 53) dX4_settle_53 rfl rfl ?_
    refine r_callVs (pc := 54) (fun v => some (sj_i v)) (As := [sj_i x3]) (rest := [(sj_j ((2000 * v2) * v3)), (sj_i x3), (sj_r (some (a0 + 5)))]) (b := a0) (ok4 ha0) h dX4_settle_54 mw_X4_92 vw_X4_press (fun _ _ hc => cg_X4_press ha0 hc) rfl ⟨(Nat.le_of_ble_eq_true rfl), (Nat.le_of_ble_eq_true rfl)⟩ (Nat.le_of_ble_eq_true rfl) rfl (fun v5 V4 h => ?_)
    refine r_i2l (pc := 57) h dX4_settle_57 (fun v6 h => ?_)
    refine r_iload (pc := 58) dX4_settle_58 rfl ?_
    refine r_i2l (pc := 60) h dX4_settle_60 (fun v7 h => ?_)
    refine r_lmul (pc := 61) dX4_settle_61 ?_
    refine r_ladd (pc := 62) dX4_settle_62 ?_
    refine r_lastores (pc := 63) h dX4_settle_63 (ok4_4 ha0).2 (fun V8 h => ?_)
    refine r_aload_n (pc := 64) dX4_settle_64 rfl rfl ?_
    refine r_gRs (b := a0 + 6) (pc := 65) dX4_settle_65 fw_X4_28 rfl (ok4 ha0) (ok4_5 ha0).1 ?_
    refine r_iload_n (pc := 68) dX4_settle_68 rfl rfl ?_
    refine r_aload_n (pc := 69) dX4_settle_69 rfl rfl ?_
    refine r_gRs (b := a0 + 2) (pc := 70) dX4_settle_70 fw_X4_15 rfl (ok4 ha0) (ok4_1 ha0).1 ?_
    refine r_iload_n (pc := 73) dX4_settle_73 rfl rfl ?_
    refine r_ialoads (pc := 74) h dX4_settle_74 (ok4_1 ha0).2 (fun h => ?_)
    refine r_i2l (pc := 75) h dX4_settle_75 (fun v9 h => ?_)
    refine r_ldc2 (n := 1000) (pc := 76) dX4_settle_76 kc_X4_96 ?_
    refine r_aload_n (pc := 79) dX4_settle_79 rfl rfl ?_
    refine r_gRs (b := a0 + 1) (pc := 80) dX4_settle_80 fw_X4_9 rfl (ok4 ha0) (ok4_0 ha0).1 ?_
    refine r_iload_n (pc := 83) dX4_settle_83 rfl rfl ?_
    refine r_ialoads (pc := 84) h dX4_settle_84 (ok4_0 ha0).2 (fun h => ?_)
    refine r_i2l (pc := 85) h dX4_settle_85 (fun v10 h => ?_)
    refine r_lmul (pc := 86) dX4_settle_86 ?_
    refine r_aload_n (pc := 87) dX4_settle_87 rfl rfl ?_
    refine r_gIs (pc := 88) dX4_settle_88 fw_X4_98 rfl (ok0 hx1) ?_
    refine r_aload_n (pc := 91) dX4_settle_91 rfl rfl ?_
    refine r_gIs (pc := 92) dX4_settle_92 fw_X4_43 rfl (ok4 ha0) ?_
    refine r_imul (pc := 95) dX4_settle_95 ?_
    refine r_i2l (pc := 96) h dX4_settle_96 (fun v11 h => ?_)
    refine r_ladd (pc := 97) dX4_settle_97 ?_
    refine r_lmul (pc := 98) dX4_settle_98 ?_
    refine r_lastores (pc := 99) h dX4_settle_99 (ok4_5 ha0).2 (fun V12 h => ?_)
    refine r_aload_n (pc := 100) dX4_settle_100 rfl rfl ?_
    refine r_gRs (b := a0 + 7) (pc := 101) dX4_settle_101 fw_X4_31 rfl (ok4 ha0) (ok4_6 ha0).1 ?_
    refine r_iload_n (pc := 104) dX4_settle_104 rfl rfl ?_
    refine r_aload_n (pc := 105) dX4_settle_105 rfl rfl ?_
    refine r_gRs (b := a0 + 5) (pc := 106) dX4_settle_106 fw_X4_24 rfl (ok4 ha0) (ok4_4 ha0).1 ?_
    refine r_iload_n (pc := 109) dX4_settle_109 rfl rfl ?_
    refine r_laloads (pc := 110) h dX4_settle_110 (ok4_4 ha0).2 (fun h => ?_)
    refine r_aload_n (pc := 111) dX4_settle_111 rfl rfl ?_
    refine r_gIs (pc := 112) dX4_settle_112 fw_X4_43 rfl (ok4 ha0) ?_
    refine r_aload_n (pc := 115) dX4_settle_115 rfl rfl ?_
    refine r_gIs (pc := 116) dX4_settle_116 fw_X4_43 rfl (ok4 ha0) ?_
    refine r_imul (pc := 119) dX4_settle_119 ?_
    refine r_aload_n (pc := 120) dX4_settle_120 rfl rfl ?_
    refine r_gRs (b := a0 + 1) (pc := 121) dX4_settle_121 fw_X4_9 rfl (ok4 ha0) (ok4_0 ha0).1 ?_
    refine r_iload_n (pc := 124) dX4_settle_124 rfl rfl ?_
    refine r_ialoads (pc := 125) h dX4_settle_125 (ok4_0 ha0).2 (fun h => ?_)
    refine r_aload_n (pc := 126) dX4_settle_126 rfl rfl ?_
    refine r_gRs (b := a0 + 1) (pc := 127) dX4_settle_127 fw_X4_9 rfl (ok4 ha0) (ok4_0 ha0).1 ?_
    refine r_iload_n (pc := 130) dX4_settle_130 rfl rfl ?_
    refine r_ialoads (pc := 131) h dX4_settle_131 (ok4_0 ha0).2 (fun h => ?_)
    refine r_imul (pc := 132) dX4_settle_132 ?_
    refine r_iadd (pc := 133) dX4_settle_133 ?_
    refine r_i2l (pc := 134) h dX4_settle_134 (fun v13 h => ?_)
    refine r_lmul (pc := 135) dX4_settle_135 ?_
    refine r_lastores (pc := 136) h dX4_settle_136 (ok4_6 ha0).2 (fun V14 h => ?_)
    refine r_aload_n (pc := 137) dX4_settle_137 rfl rfl ?_
    refine r_gRs (b := a0 + 8) (pc := 138) dX4_settle_138 fw_X4_34 rfl (ok4 ha0) (ok4_7 ha0).1 ?_
    refine r_iload_n (pc := 141) dX4_settle_141 rfl rfl ?_
    refine r_aload_n (pc := 142) dX4_settle_142 rfl rfl ?_
    refine r_gRs (b := a0 + 1) (pc := 143) dX4_settle_143 fw_X4_9 rfl (ok4 ha0) (ok4_0 ha0).1 ?_
    refine r_iload_n (pc := 146) dX4_settle_146 rfl rfl ?_
    refine r_ialoads (pc := 147) h dX4_settle_147 (ok4_0 ha0).2 (fun h => ?_)
    refine r_i2l (pc := 148) h dX4_settle_148 (fun v15 h => ?_)
    refine r_iload (pc := 149) dX4_settle_149 rfl ?_
    refine r_i2l (pc := 151) h dX4_settle_151 (fun v16 h => ?_)
    refine r_lmul (pc := 152) dX4_settle_152 ?_
    refine r_lastores (pc := 153) h dX4_settle_153 (ok4_7 ha0).2 (fun V17 h => ?_)
    refine r_iinc (ln := fun w => [some (sj_r (some a0)), some (sj_r (some x1)), some (sj_i x2), some (sj_i w), some (sj_i v1)]) (pc := 154) h dX4_settle_154 rfl (Nat.le_of_ble_eq_true rfl) (fun _ => rfl) (fun v18 h => ?_)
    refine r_goto (pc := 157) (tgt := 2) dX4_settle_157 (by decide) ?_
    exact sj_weak (l2 := [some (sj_r (some a0)), some (sj_r (some x1)), some (sj_i x2), some (sj_i v18), none]) (⟨rfl, ⟨rfl, ⟨rfl, ⟨rfl, trivial⟩⟩⟩⟩) (hk2 a0 x1 x2 v18 V17 ha0 hx1 h)
set_option maxHeartbeats 4000000 in
theorem st_X4_settle_2 {X : sj_X} {g : sj_G} {s0 : sj_Mem} {N : Nat} {q : Unit × sj_VV} :
    ∀ (n : Nat) (a0 : Nat) (x1 : Nat) (x2 : Int) (x3 : Int) (V : sj_VV), OK4 g a0 → OK0 g x1 → g_X4_settle_2 N n a0 x1 x2 x3 V = some q → sj_T X m_X4_settle s0 (none, (g, q.2)) 2 [some (sj_r (some a0)), some (sj_r (some x1)), some (sj_i x2), some (sj_i x3), none] [] (g, V) := by
  intro n
  induction n with
  | zero => intro a0 x1 x2 x3 V ha0 hx1 h; exact nomatch h
  | succ n ih => intro a0 x1 x2 x3 V ha0 hx1 h; exact st_X4_settle_2_b (N := N) ih a0 x1 x2 x3 V ha0 hx1 h
set_option maxHeartbeats 4000000 in
theorem st_X4_settle_0 {X : sj_X} {g : sj_G} {s0 : sj_Mem} {N : Nat} {q : Unit × sj_VV} :
    ∀ (a0 : Nat) (x1 : Nat) (x2 : Int) (V : sj_VV), OK4 g a0 → OK0 g x1 → g_X4_settle N a0 x1 x2 V = some q → sj_T X m_X4_settle s0 (none, (g, q.2)) 0 [some (sj_r (some a0)), some (sj_r (some x1)), some (sj_i x2), none, none] [] (g, V) := by
  intro a0 x1 x2 V ha0 hx1 h
  unfold g_X4_settle at h
  refine r_iconst (pc := 0) dX4_settle_0 ?_
  refine r_istore_n (ln := [some (sj_r (some a0)), some (sj_r (some x1)), some (sj_i x2), some (sj_i 0), none]) (pc := 1) dX4_settle_1 rfl (Nat.le_of_ble_eq_true rfl) rfl ?_
  exact sj_weak (l2 := [some (sj_r (some a0)), some (sj_r (some x1)), some (sj_i x2), some (sj_i 0), none]) (⟨rfl, ⟨rfl, ⟨rfl, ⟨rfl, trivial⟩⟩⟩⟩) (st_X4_settle_2 N a0 x1 x2 0 V ha0 hx1 h)
set_option maxHeartbeats 4000000 in
theorem cg_X4_settle {X : sj_X} {g : sj_G} {N : Nat} {a0 : Nat} {x1 : Nat} {x2 : Int} {V : sj_VV} {q : Unit × sj_VV} (ha0 : OK4 g a0) (hx1 : OK0 g x1) (h : g_X4_settle N a0 x1 x2 V = some q) : sj_C X m_X4_settle [sj_r (some a0), sj_r (some x1), sj_i x2] (g, V) (none, (g, q.2)) :=
  sj_C_of (by decide +kernel) (Nat.le_of_ble_eq_true rfl) (lo := [some (sj_r (some a0)), some (sj_r (some x1)), some (sj_i x2), none, none]) rfl (sj_weak (l2 := [some (sj_r (some a0)), some (sj_r (some x1)), some (sj_i x2), none, none]) (⟨rfl, ⟨rfl, ⟨rfl, trivial⟩⟩⟩) (st_X4_settle_0 a0 x1 x2 V ha0 hx1 h))
set_option maxHeartbeats 4000000 in
theorem c_X4_settle {X : sj_X} {N : Nat} {a0 : Nat} {x1 : Option Nat} {x2 : Int} {s : sj_Mem} {q : Unit × sj_Mem} (h : f_X4_settle N a0 x1 x2 s = some q) : sj_C X m_X4_settle [sj_r (some a0), sj_r x1, sj_i x2] s (none, q.2) := by
  obtain ⟨g, V⟩ := s
  unfold f_X4_settle at h
  obtain ⟨ho, h1⟩ := e_ok_some h
  obtain ⟨q2, h2, rfl⟩ := sj_map_some h1
  obtain ⟨z1, hz1⟩ : ∃ z, x1 = some z := ⟨_, ho.2.1⟩
  subst hz1
  exact cg_X4_settle ho.1 ho.2.2 h2
theorem dX4_lack_0 : decode cX4_lack 0 = .ok (.aload_n 0, 1) := by decide +kernel
theorem dX4_lack_1 : decode cX4_lack 1 = .ok (.getfield 43, 3) := by decide +kernel
theorem dX4_lack_4 : decode cX4_lack 4 = .ok (.i2l, 1) := by decide +kernel
theorem dX4_lack_5 : decode cX4_lack 5 = .ok (.iload_n 1, 1) := by decide +kernel
theorem dX4_lack_6 : decode cX4_lack 6 = .ok (.i2l, 1) := by decide +kernel
theorem dX4_lack_7 : decode cX4_lack 7 = .ok (.lmul, 1) := by decide +kernel
theorem dX4_lack_8 : decode cX4_lack 8 = .ok (.lstore_n 2, 1) := by decide +kernel
theorem dX4_lack_9 : decode cX4_lack 9 = .ok (.lconst 0, 1) := by decide +kernel
theorem dX4_lack_10 : decode cX4_lack 10 = .ok (.lstore 4, 2) := by decide +kernel
theorem dX4_lack_12 : decode cX4_lack 12 = .ok (.aload_n 0, 1) := by decide +kernel
theorem dX4_lack_13 : decode cX4_lack 13 = .ok (.getfield 56, 3) := by decide +kernel
theorem dX4_lack_16 : decode cX4_lack 16 = .ok (.lneg, 1) := by decide +kernel
theorem dX4_lack_17 : decode cX4_lack 17 = .ok (.lstore 6, 2) := by decide +kernel
theorem dX4_lack_19 : decode cX4_lack 19 = .ok (.iconst 0, 1) := by decide +kernel
theorem dX4_lack_20 : decode cX4_lack 20 = .ok (.istore 8, 2) := by decide +kernel
theorem dX4_lack_22 : decode cX4_lack 22 = .ok (.iload 8, 2) := by decide +kernel
theorem dX4_lack_24 : decode cX4_lack 24 = .ok (.aload_n 0, 1) := by decide +kernel
theorem dX4_lack_25 : decode cX4_lack 25 = .ok (.getfield 50, 3) := by decide +kernel
theorem dX4_lack_28 : decode cX4_lack 28 = .ok (.if_icmp .ge 59, 3) := by decide +kernel
theorem dX4_lack_31 : decode cX4_lack 31 = .ok (.lload_n 2, 1) := by decide +kernel
theorem dX4_lack_32 : decode cX4_lack 32 = .ok (.aload_n 0, 1) := by decide +kernel
theorem dX4_lack_33 : decode cX4_lack 33 = .ok (.getfield 34, 3) := by decide +kernel
theorem dX4_lack_36 : decode cX4_lack 36 = .ok (.iload 8, 2) := by decide +kernel
theorem dX4_lack_38 : decode cX4_lack 38 = .ok (.laload, 1) := by decide +kernel
theorem dX4_lack_39 : decode cX4_lack 39 = .ok (.ladd, 1) := by decide +kernel
theorem dX4_lack_40 : decode cX4_lack 40 = .ok (.lstore 9, 2) := by decide +kernel
theorem dX4_lack_42 : decode cX4_lack 42 = .ok (.lload 9, 2) := by decide +kernel
theorem dX4_lack_44 : decode cX4_lack 44 = .ok (.lconst 0, 1) := by decide +kernel
theorem dX4_lack_45 : decode cX4_lack 45 = .ok (.lcmp, 1) := by decide +kernel
theorem dX4_lack_46 : decode cX4_lack 46 = .ok (.ifCond .gt 5, 3) := by decide +kernel
theorem dX4_lack_49 : decode cX4_lack 49 = .ok (.lconst 0, 1) := by decide +kernel
theorem dX4_lack_50 : decode cX4_lack 50 = .ok (.lreturn, 1) := by decide +kernel
theorem dX4_lack_51 : decode cX4_lack 51 = .ok (.lload 4, 2) := by decide +kernel
theorem dX4_lack_53 : decode cX4_lack 53 = .ok (.aload_n 0, 1) := by decide +kernel
theorem dX4_lack_54 : decode cX4_lack 54 = .ok (.getfield 31, 3) := by decide +kernel
theorem dX4_lack_57 : decode cX4_lack 57 = .ok (.iload 8, 2) := by decide +kernel
theorem dX4_lack_59 : decode cX4_lack 59 = .ok (.laload, 1) := by decide +kernel
theorem dX4_lack_60 : decode cX4_lack 60 = .ok (.iload_n 1, 1) := by decide +kernel
theorem dX4_lack_61 : decode cX4_lack 61 = .ok (.i2l, 1) := by decide +kernel
theorem dX4_lack_62 : decode cX4_lack 62 = .ok (.lmul, 1) := by decide +kernel
theorem dX4_lack_63 : decode cX4_lack 63 = .ok (.lload 9, 2) := by decide +kernel
theorem dX4_lack_65 : decode cX4_lack 65 = .ok (.ldiv, 1) := by decide +kernel
theorem dX4_lack_66 : decode cX4_lack 66 = .ok (.ladd, 1) := by decide +kernel
theorem dX4_lack_67 : decode cX4_lack 67 = .ok (.lstore 4, 2) := by decide +kernel
theorem dX4_lack_69 : decode cX4_lack 69 = .ok (.lload 6, 2) := by decide +kernel
theorem dX4_lack_71 : decode cX4_lack 71 = .ok (.aload_n 0, 1) := by decide +kernel
theorem dX4_lack_72 : decode cX4_lack 72 = .ok (.getfield 28, 3) := by decide +kernel
theorem dX4_lack_75 : decode cX4_lack 75 = .ok (.iload 8, 2) := by decide +kernel
theorem dX4_lack_77 : decode cX4_lack 77 = .ok (.laload, 1) := by decide +kernel
theorem dX4_lack_78 : decode cX4_lack 78 = .ok (.ladd, 1) := by decide +kernel
theorem dX4_lack_79 : decode cX4_lack 79 = .ok (.lstore 6, 2) := by decide +kernel
theorem dX4_lack_81 : decode cX4_lack 81 = .ok (.iinc 8 1, 3) := by decide +kernel
theorem dX4_lack_84 : decode cX4_lack 84 = .ok (.goto (-62), 3) := by decide +kernel
theorem dX4_lack_87 : decode cX4_lack 87 = .ok (.lload 4, 2) := by decide +kernel
theorem dX4_lack_89 : decode cX4_lack 89 = .ok (.ldc2_w 116, 3) := by decide +kernel
theorem dX4_lack_92 : decode cX4_lack 92 = .ok (.lcmp, 1) := by decide +kernel
theorem dX4_lack_93 : decode cX4_lack 93 = .ok (.ifCond .le 7, 3) := by decide +kernel
theorem dX4_lack_96 : decode cX4_lack 96 = .ok (.lconst 0, 1) := by decide +kernel
theorem dX4_lack_97 : decode cX4_lack 97 = .ok (.goto 15, 3) := by decide +kernel
theorem dX4_lack_100 : decode cX4_lack 100 = .ok (.iload_n 1, 1) := by decide +kernel
theorem dX4_lack_101 : decode cX4_lack 101 = .ok (.i2l, 1) := by decide +kernel
theorem dX4_lack_102 : decode cX4_lack 102 = .ok (.lload 6, 2) := by decide +kernel
theorem dX4_lack_104 : decode cX4_lack 104 = .ok (.lmul, 1) := by decide +kernel
theorem dX4_lack_105 : decode cX4_lack 105 = .ok (.ldc2_w 96, 3) := by decide +kernel
theorem dX4_lack_108 : decode cX4_lack 108 = .ok (.lload 4, 2) := by decide +kernel
theorem dX4_lack_110 : decode cX4_lack 110 = .ok (.lmul, 1) := by decide +kernel
theorem dX4_lack_111 : decode cX4_lack 111 = .ok (.lsub, 1) := by decide +kernel
theorem dX4_lack_112 : decode cX4_lack 112 = .ok (.lreturn, 1) := by decide +kernel
set_option maxHeartbeats 4000000 in
theorem st_X4_lack_22_b {X : sj_X} {g : sj_G} {s0 : sj_Mem} {N : Nat} {q : Int × sj_VV} {k22 : Nat → Int → Int → Int → Int → Int → sj_VV → Option (Int × sj_VV)} (hk22 : ∀ (a0 : Nat) (x1 : Int) (x2 : Int) (x4 : Int) (x6 : Int) (x8 : Int) (V : sj_VV), OK4 g a0 → k22 a0 x1 x2 x4 x6 x8 V = some q → sj_T X m_X4_lack s0 (some (sj_j q.1), (g, q.2)) 22 [some (sj_r (some a0)), some (sj_i x1), some (sj_j x2), none, some (sj_j x4), none, some (sj_j x6), none, some (sj_i x8), none, none] [] (g, V)) :
    ∀ (a0 : Nat) (x1 : Int) (x2 : Int) (x4 : Int) (x6 : Int) (x8 : Int) (V : sj_VV), OK4 g a0 → g_X4_lack_22_b N k22 a0 x1 x2 x4 x6 x8 V = some q → sj_T X m_X4_lack s0 (some (sj_j q.1), (g, q.2)) 22 [some (sj_r (some a0)), some (sj_i x1), some (sj_j x2), none, some (sj_j x4), none, some (sj_j x6), none, some (sj_i x8), none, none] [] (g, V) := by
  intro a0 x1 x2 x4 x6 x8 V ha0 h
  unfold g_X4_lack_22_b at h
  refine r_iload (pc := 22) dX4_lack_22 rfl ?_
  refine r_aload_n (pc := 24) dX4_lack_24 rfl rfl ?_
  refine r_gIs (pc := 25) dX4_lack_25 fw_X4_50 rfl (ok4 ha0) ?_
  refine r_icmp_ge (pc := 28) (tgt := 87) h dX4_lack_28 (by decide) (fun h => ?_) (fun h => ?_)
  · refine r_lload (pc := 87) dX4_lack_87 rfl ?_
    refine r_ldc2 (n := 1000000000000000) (pc := 89) dX4_lack_89 kc_X4_116 ?_
    refine r_lle (pc := 92) (tgt := 100) h dX4_lack_92 rfl dX4_lack_93 (by decide) (fun h => ?_) (fun h => ?_)
    · refine r_iload_n (pc := 100) dX4_lack_100 rfl rfl ?_
      refine r_i2l (pc := 101) h dX4_lack_101 (fun v1 h => ?_)
      refine r_lload (pc := 102) dX4_lack_102 rfl ?_
      refine r_lmul (pc := 104) dX4_lack_104 ?_
      refine r_ldc2 (n := 1000) (pc := 105) dX4_lack_105 kc_X4_96 ?_
      refine r_lload (pc := 108) dX4_lack_108 rfl ?_
      refine r_lmul (pc := 110) dX4_lack_110 ?_
      refine r_lsub (pc := 111) dX4_lack_111 ?_
      exact r_lrets (pc := 112) h rfl dX4_lack_112
    · refine r_lconst0 (pc := 96) dX4_lack_96 ?_
      refine r_goto (pc := 97) (tgt := 112) dX4_lack_97 (by decide) ?_
      exact r_lrets (pc := 112) h rfl dX4_lack_112
  · refine r_lload_n (pc := 31) dX4_lack_31 rfl rfl ?_
    refine r_aload_n (pc := 32) dX4_lack_32 rfl rfl ?_
    refine r_gRs (b := a0 + 8) (pc := 33) dX4_lack_33 fw_X4_34 rfl (ok4 ha0) (ok4_7 ha0).1 ?_
    refine r_iload (pc := 36) dX4_lack_36 rfl ?_
    refine r_laloads (pc := 38) h dX4_lack_38 (ok4_7 ha0).2 (fun h => ?_)
    refine r_ladd (pc := 39) dX4_lack_39 ?_
    refine r_lstoreL (ln := fun w => [some (sj_r (some a0)), some (sj_i x1), some (sj_j x2), none, some (sj_j x4), none, some (sj_j x6), none, some (sj_i x8), some (sj_j w), none]) (pc := 40) h dX4_lack_40 (Nat.le_of_ble_eq_true rfl) (fun _ => rfl) (fun v2 h => ?_)
    refine r_lload (pc := 42) dX4_lack_42 rfl ?_
    refine r_lconst0 (pc := 44) dX4_lack_44 ?_
    refine r_lgt (pc := 45) (tgt := 51) h dX4_lack_45 rfl dX4_lack_46 (by decide) (fun h => ?_) (fun h => ?_)
    · refine r_lload (pc := 51) dX4_lack_51 rfl ?_
      refine r_aload_n (pc := 53) dX4_lack_53 rfl rfl ?_
      refine r_gRs (b := a0 + 7) (pc := 54) dX4_lack_54 fw_X4_31 rfl (ok4 ha0) (ok4_6 ha0).1 ?_
      refine r_iload (pc := 57) dX4_lack_57 rfl ?_
      refine r_laloads (pc := 59) h dX4_lack_59 (ok4_6 ha0).2 (fun h => ?_)
      refine r_iload_n (pc := 60) dX4_lack_60 rfl rfl ?_
      refine r_i2l (pc := 61) h dX4_lack_61 (fun v3 h => ?_)
      refine r_lmul (pc := 62) dX4_lack_62 ?_
      refine r_lload (pc := 63) dX4_lack_63 rfl ?_
      refine r_ldiv (pc := 65) h dX4_lack_65 (fun v4 h => ?_)
      refine r_ladd (pc := 66) dX4_lack_66 ?_
      refine r_lstoreL (ln := fun w => [some (sj_r (some a0)), some (sj_i x1), some (sj_j x2), none, some (sj_j w), none, some (sj_j x6), none, some (sj_i x8), some (sj_j v2), none]) (pc := 67) h dX4_lack_67 (Nat.le_of_ble_eq_true rfl) (fun _ => rfl) (fun v5 h => ?_)
      refine r_lload (pc := 69) dX4_lack_69 rfl ?_
      refine r_aload_n (pc := 71) dX4_lack_71 rfl rfl ?_
      refine r_gRs (b := a0 + 6) (pc := 72) dX4_lack_72 fw_X4_28 rfl (ok4 ha0) (ok4_5 ha0).1 ?_
      refine r_iload (pc := 75) dX4_lack_75 rfl ?_
      refine r_laloads (pc := 77) h dX4_lack_77 (ok4_5 ha0).2 (fun h => ?_)
      refine r_ladd (pc := 78) dX4_lack_78 ?_
      refine r_lstoreL (ln := fun w => [some (sj_r (some a0)), some (sj_i x1), some (sj_j x2), none, some (sj_j v5), none, some (sj_j w), none, some (sj_i x8), some (sj_j v2), none]) (pc := 79) h dX4_lack_79 (Nat.le_of_ble_eq_true rfl) (fun _ => rfl) (fun v6 h => ?_)
      refine r_iinc (ln := fun w => [some (sj_r (some a0)), some (sj_i x1), some (sj_j x2), none, some (sj_j v5), none, some (sj_j v6), none, some (sj_i w), some (sj_j v2), none]) (pc := 81) h dX4_lack_81 rfl (Nat.le_of_ble_eq_true rfl) (fun _ => rfl) (fun v7 h => ?_)
      refine r_goto (pc := 84) (tgt := 22) dX4_lack_84 (by decide) ?_
      exact sj_weak (l2 := [some (sj_r (some a0)), some (sj_i x1), some (sj_j x2), none, some (sj_j v5), none, some (sj_j v6), none, some (sj_i v7), none, none]) (⟨rfl, ⟨rfl, ⟨rfl, ⟨rfl, ⟨rfl, ⟨rfl, trivial⟩⟩⟩⟩⟩⟩) (hk22 a0 x1 x2 v5 v6 v7 V ha0 h)
    · refine r_lconst0 (pc := 49) dX4_lack_49 ?_
      exact r_lrets (pc := 50) h rfl dX4_lack_50
set_option maxHeartbeats 4000000 in
theorem st_X4_lack_22 {X : sj_X} {g : sj_G} {s0 : sj_Mem} {N : Nat} {q : Int × sj_VV} :
    ∀ (n : Nat) (a0 : Nat) (x1 : Int) (x2 : Int) (x4 : Int) (x6 : Int) (x8 : Int) (V : sj_VV), OK4 g a0 → g_X4_lack_22 N n a0 x1 x2 x4 x6 x8 V = some q → sj_T X m_X4_lack s0 (some (sj_j q.1), (g, q.2)) 22 [some (sj_r (some a0)), some (sj_i x1), some (sj_j x2), none, some (sj_j x4), none, some (sj_j x6), none, some (sj_i x8), none, none] [] (g, V) := by
  intro n
  induction n with
  | zero => intro a0 x1 x2 x4 x6 x8 V ha0 h; exact nomatch h
  | succ n ih => intro a0 x1 x2 x4 x6 x8 V ha0 h; exact st_X4_lack_22_b (N := N) ih a0 x1 x2 x4 x6 x8 V ha0 h
set_option maxHeartbeats 4000000 in
theorem st_X4_lack_0 {X : sj_X} {g : sj_G} {s0 : sj_Mem} {N : Nat} {q : Int × sj_VV} :
    ∀ (a0 : Nat) (x1 : Int) (V : sj_VV), OK4 g a0 → g_X4_lack N a0 x1 V = some q → sj_T X m_X4_lack s0 (some (sj_j q.1), (g, q.2)) 0 [some (sj_r (some a0)), some (sj_i x1), none, none, none, none, none, none, none, none, none] [] (g, V) := by
  intro a0 x1 V ha0 h
  unfold g_X4_lack at h
  refine r_aload_n (pc := 0) dX4_lack_0 rfl rfl ?_
  refine r_gIs (pc := 1) dX4_lack_1 fw_X4_43 rfl (ok4 ha0) ?_
  refine r_i2l (pc := 4) h dX4_lack_4 (fun v1 h => ?_)
  refine r_iload_n (pc := 5) dX4_lack_5 rfl rfl ?_
  refine r_i2l (pc := 6) h dX4_lack_6 (fun v2 h => ?_)
  refine r_lmul (pc := 7) dX4_lack_7 ?_
  refine r_lstore_nL (ln := fun w => [some (sj_r (some a0)), some (sj_i x1), some (sj_j w), none, none, none, none, none, none, none, none]) (pc := 8) h dX4_lack_8 rfl (Nat.le_of_ble_eq_true rfl) (fun _ => rfl) (fun v3 h => ?_)
  refine r_lconst0 (pc := 9) dX4_lack_9 ?_
  refine r_lstore (ln := [some (sj_r (some a0)), some (sj_i x1), some (sj_j v3), none, some (sj_j 0), none, none, none, none, none, none]) (pc := 10) dX4_lack_10 (Nat.le_of_ble_eq_true rfl) rfl ?_
  refine r_aload_n (pc := 12) dX4_lack_12 rfl rfl ?_
  refine r_gJs (pc := 13) dX4_lack_13 fw_X4_56 rfl (ok4 ha0) ?_
  refine r_lneg (pc := 16) dX4_lack_16 ?_
  refine r_lstoreL (ln := fun w => [some (sj_r (some a0)), some (sj_i x1), some (sj_j v3), none, some (sj_j 0), none, some (sj_j w), none, none, none, none]) (pc := 17) h dX4_lack_17 (Nat.le_of_ble_eq_true rfl) (fun _ => rfl) (fun v4 h => ?_)
  refine r_iconst (pc := 19) dX4_lack_19 ?_
  refine r_istore (ln := [some (sj_r (some a0)), some (sj_i x1), some (sj_j v3), none, some (sj_j 0), none, some (sj_j v4), none, some (sj_i 0), none, none]) (pc := 20) dX4_lack_20 (Nat.le_of_ble_eq_true rfl) rfl ?_
  exact sj_weak (l2 := [some (sj_r (some a0)), some (sj_i x1), some (sj_j v3), none, some (sj_j 0), none, some (sj_j v4), none, some (sj_i 0), none, none]) (⟨rfl, ⟨rfl, ⟨rfl, ⟨rfl, ⟨rfl, ⟨rfl, trivial⟩⟩⟩⟩⟩⟩) (st_X4_lack_22 N a0 x1 v3 0 v4 0 V ha0 h)
set_option maxHeartbeats 4000000 in
theorem cg_X4_lack {X : sj_X} {g : sj_G} {N : Nat} {a0 : Nat} {x1 : Int} {V : sj_VV} {q : Int × sj_VV} (ha0 : OK4 g a0) (h : g_X4_lack N a0 x1 V = some q) : sj_C X m_X4_lack [sj_r (some a0), sj_i x1] (g, V) (some (sj_j q.1), (g, q.2)) :=
  sj_C_of (by decide +kernel) (Nat.le_of_ble_eq_true rfl) (lo := [some (sj_r (some a0)), some (sj_i x1), none, none, none, none, none, none, none, none, none]) rfl (sj_weak (l2 := [some (sj_r (some a0)), some (sj_i x1), none, none, none, none, none, none, none, none, none]) (⟨rfl, ⟨rfl, trivial⟩⟩) (st_X4_lack_0 a0 x1 V ha0 h))
set_option maxHeartbeats 4000000 in
theorem c_X4_lack {X : sj_X} {N : Nat} {a0 : Nat} {x1 : Int} {s : sj_Mem} {q : Int × sj_Mem} (h : f_X4_lack N a0 x1 s = some q) : sj_C X m_X4_lack [sj_r (some a0), sj_i x1] s (some (sj_j q.1), q.2) := by
  obtain ⟨g, V⟩ := s
  unfold f_X4_lack at h
  obtain ⟨ho, h1⟩ := e_ok_some h
  obtain ⟨q2, h2, rfl⟩ := sj_map_some h1
  exact cg_X4_lack ho h2
theorem dX4_hold_0 : decode cX4_hold 0 = .ok (.aload_n 0, 1) := by decide +kernel
theorem dX4_hold_1 : decode cX4_hold 1 = .ok (.iload_n 1, 1) := by decide +kernel
theorem dX4_hold_2 : decode cX4_hold 2 = .ok (.invokevirtual 118, 3) := by decide +kernel
theorem dX4_hold_5 : decode cX4_hold 5 = .ok (.lconst 0, 1) := by decide +kernel
theorem dX4_hold_6 : decode cX4_hold 6 = .ok (.lcmp, 1) := by decide +kernel
theorem dX4_hold_7 : decode cX4_hold 7 = .ok (.ifCond .gt 7, 3) := by decide +kernel
theorem dX4_hold_10 : decode cX4_hold 10 = .ok (.iconst 1, 1) := by decide +kernel
theorem dX4_hold_11 : decode cX4_hold 11 = .ok (.goto 4, 3) := by decide +kernel
theorem dX4_hold_14 : decode cX4_hold 14 = .ok (.iconst 0, 1) := by decide +kernel
theorem dX4_hold_15 : decode cX4_hold 15 = .ok (.ireturn, 1) := by decide +kernel
set_option maxHeartbeats 4000000 in
theorem st_X4_hold_0 {X : sj_X} {g : sj_G} {s0 : sj_Mem} {N : Nat} {q : Int × sj_VV} :
    ∀ (a0 : Nat) (x1 : Int) (V : sj_VV), OK4 g a0 → g_X4_hold N a0 x1 V = some q → sj_T X m_X4_hold s0 (some (sj_i q.1), (g, q.2)) 0 [some (sj_r (some a0)), some (sj_i x1)] [] (g, V) := by
  intro a0 x1 V ha0 h
  unfold g_X4_hold at h
  refine r_aload_n (pc := 0) dX4_hold_0 rfl rfl ?_
  refine r_iload_n (pc := 1) dX4_hold_1 rfl rfl ?_
  refine r_callVs (pc := 2) (fun v => some (sj_j v)) (As := [sj_i x1]) (rest := []) (b := a0) (ok4 ha0) h dX4_hold_2 mw_X4_118 vw_X4_lack (fun _ _ hc => cg_X4_lack ha0 hc) rfl ⟨(Nat.le_of_ble_eq_true rfl), (Nat.le_of_ble_eq_true rfl)⟩ (Nat.le_of_ble_eq_true rfl) rfl (fun v2 V1 h => ?_)
  refine r_lconst0 (pc := 5) dX4_hold_5 ?_
  refine r_lgt (pc := 6) (tgt := 14) h dX4_hold_6 rfl dX4_hold_7 (by decide) (fun h => ?_) (fun h => ?_)
  · refine r_iconst (pc := 14) dX4_hold_14 ?_
    exact r_zrets (pc := 15) h rfl dX4_hold_15
  · refine r_iconst (pc := 10) dX4_hold_10 ?_
    refine r_goto (pc := 11) (tgt := 15) dX4_hold_11 (by decide) ?_
    exact r_zrets (pc := 15) h rfl dX4_hold_15
set_option maxHeartbeats 4000000 in
theorem cg_X4_hold {X : sj_X} {g : sj_G} {N : Nat} {a0 : Nat} {x1 : Int} {V : sj_VV} {q : Int × sj_VV} (ha0 : OK4 g a0) (h : g_X4_hold N a0 x1 V = some q) : sj_C X m_X4_hold [sj_r (some a0), sj_i x1] (g, V) (some (sj_i q.1), (g, q.2)) :=
  sj_C_of (by decide +kernel) (Nat.le_of_ble_eq_true rfl) (lo := [some (sj_r (some a0)), some (sj_i x1)]) rfl (sj_weak (l2 := [some (sj_r (some a0)), some (sj_i x1)]) (⟨rfl, ⟨rfl, trivial⟩⟩) (st_X4_hold_0 a0 x1 V ha0 h))
set_option maxHeartbeats 4000000 in
theorem c_X4_hold {X : sj_X} {N : Nat} {a0 : Nat} {x1 : Int} {s : sj_Mem} {q : Int × sj_Mem} (h : f_X4_hold N a0 x1 s = some q) : sj_C X m_X4_hold [sj_r (some a0), sj_i x1] s (some (sj_i q.1), q.2) := by
  obtain ⟨g, V⟩ := s
  unfold f_X4_hold at h
  obtain ⟨ho, h1⟩ := e_ok_some h
  obtain ⟨q2, h2, rfl⟩ := sj_map_some h1
  exact cg_X4_hold ho h2
theorem dX4_leastBound_0 : decode cX4_leastBound 0 = .ok (.iconst 0, 1) := by decide +kernel
theorem dX4_leastBound_1 : decode cX4_leastBound 1 = .ok (.istore_n 2, 1) := by decide +kernel
theorem dX4_leastBound_2 : decode cX4_leastBound 2 = .ok (.sipush 20001, 3) := by decide +kernel
theorem dX4_leastBound_5 : decode cX4_leastBound 5 = .ok (.istore_n 3, 1) := by decide +kernel
theorem dX4_leastBound_6 : decode cX4_leastBound 6 = .ok (.iconst 0, 1) := by decide +kernel
theorem dX4_leastBound_7 : decode cX4_leastBound 7 = .ok (.istore 4, 2) := by decide +kernel
theorem dX4_leastBound_9 : decode cX4_leastBound 9 = .ok (.iload 4, 2) := by decide +kernel
theorem dX4_leastBound_11 : decode cX4_leastBound 11 = .ok (.bipush 15, 2) := by decide +kernel
theorem dX4_leastBound_13 : decode cX4_leastBound 13 = .ok (.if_icmp .ge 46, 3) := by decide +kernel
theorem dX4_leastBound_16 : decode cX4_leastBound 16 = .ok (.iload_n 3, 1) := by decide +kernel
theorem dX4_leastBound_17 : decode cX4_leastBound 17 = .ok (.iload_n 2, 1) := by decide +kernel
theorem dX4_leastBound_18 : decode cX4_leastBound 18 = .ok (.isub, 1) := by decide +kernel
theorem dX4_leastBound_19 : decode cX4_leastBound 19 = .ok (.iconst 1, 1) := by decide +kernel
theorem dX4_leastBound_20 : decode cX4_leastBound 20 = .ok (.if_icmp .le 39, 3) := by decide +kernel
theorem dX4_leastBound_23 : decode cX4_leastBound 23 = .ok (.iload_n 2, 1) := by decide +kernel
theorem dX4_leastBound_24 : decode cX4_leastBound 24 = .ok (.iload_n 1, 1) := by decide +kernel
theorem dX4_leastBound_25 : decode cX4_leastBound 25 = .ok (.if_icmp .ge 34, 3) := by decide +kernel
theorem dX4_leastBound_28 : decode cX4_leastBound 28 = .ok (.iload_n 2, 1) := by decide +kernel
theorem dX4_leastBound_29 : decode cX4_leastBound 29 = .ok (.iload_n 3, 1) := by decide +kernel
theorem dX4_leastBound_30 : decode cX4_leastBound 30 = .ok (.iadd, 1) := by decide +kernel
theorem dX4_leastBound_31 : decode cX4_leastBound 31 = .ok (.iconst 2, 1) := by decide +kernel
theorem dX4_leastBound_32 : decode cX4_leastBound 32 = .ok (.idiv, 1) := by decide +kernel
theorem dX4_leastBound_33 : decode cX4_leastBound 33 = .ok (.istore 5, 2) := by decide +kernel
theorem dX4_leastBound_35 : decode cX4_leastBound 35 = .ok (.aload_n 0, 1) := by decide +kernel
theorem dX4_leastBound_36 : decode cX4_leastBound 36 = .ok (.iload 5, 2) := by decide +kernel
theorem dX4_leastBound_38 : decode cX4_leastBound 38 = .ok (.invokevirtual 122, 3) := by decide +kernel
theorem dX4_leastBound_41 : decode cX4_leastBound 41 = .ok (.ifCond .eq 9, 3) := by decide +kernel
theorem dX4_leastBound_44 : decode cX4_leastBound 44 = .ok (.iload 5, 2) := by decide +kernel
theorem dX4_leastBound_46 : decode cX4_leastBound 46 = .ok (.istore_n 2, 1) := by decide +kernel
theorem dX4_leastBound_47 : decode cX4_leastBound 47 = .ok (.goto 6, 3) := by decide +kernel
theorem dX4_leastBound_50 : decode cX4_leastBound 50 = .ok (.iload 5, 2) := by decide +kernel
theorem dX4_leastBound_52 : decode cX4_leastBound 52 = .ok (.istore_n 3, 1) := by decide +kernel
theorem dX4_leastBound_53 : decode cX4_leastBound 53 = .ok (.iinc 4 1, 3) := by decide +kernel
theorem dX4_leastBound_56 : decode cX4_leastBound 56 = .ok (.goto (-47), 3) := by decide +kernel
theorem dX4_leastBound_59 : decode cX4_leastBound 59 = .ok (.iload_n 2, 1) := by decide +kernel
theorem dX4_leastBound_60 : decode cX4_leastBound 60 = .ok (.ireturn, 1) := by decide +kernel
set_option maxHeartbeats 4000000 in
theorem st_X4_leastBound_53 {X : sj_X} {g : sj_G} {s0 : sj_Mem} {N : Nat} {q : Int × sj_VV} {k9 : Nat → Int → Int → Int → Int → sj_VV → Option (Int × sj_VV)} (hk9 : ∀ (a0 : Nat) (x1 : Int) (x2 : Int) (x3 : Int) (x4 : Int) (V : sj_VV), OK4 g a0 → k9 a0 x1 x2 x3 x4 V = some q → sj_T X m_X4_leastBound s0 (some (sj_i q.1), (g, q.2)) 9 [some (sj_r (some a0)), some (sj_i x1), some (sj_i x2), some (sj_i x3), some (sj_i x4), none] [] (g, V)) :
    ∀ (a0 : Nat) (x1 : Int) (x2 : Int) (x3 : Int) (x4 : Int) (V : sj_VV), OK4 g a0 → g_X4_leastBound_53 N k9 a0 x1 x2 x3 x4 V = some q → sj_T X m_X4_leastBound s0 (some (sj_i q.1), (g, q.2)) 53 [some (sj_r (some a0)), some (sj_i x1), some (sj_i x2), some (sj_i x3), some (sj_i x4), none] [] (g, V) := by
  intro a0 x1 x2 x3 x4 V ha0 h
  unfold g_X4_leastBound_53 at h
  refine r_iinc (ln := fun w => [some (sj_r (some a0)), some (sj_i x1), some (sj_i x2), some (sj_i x3), some (sj_i w), none]) (pc := 53) h dX4_leastBound_53 rfl (Nat.le_of_ble_eq_true rfl) (fun _ => rfl) (fun v1 h => ?_)
  refine r_goto (pc := 56) (tgt := 9) dX4_leastBound_56 (by decide) ?_
  exact sj_weak (l2 := [some (sj_r (some a0)), some (sj_i x1), some (sj_i x2), some (sj_i x3), some (sj_i v1), none]) (⟨rfl, ⟨rfl, ⟨rfl, ⟨rfl, ⟨rfl, trivial⟩⟩⟩⟩⟩) (hk9 a0 x1 x2 x3 v1 V ha0 h)
set_option maxHeartbeats 4000000 in
theorem st_X4_leastBound_9_b {X : sj_X} {g : sj_G} {s0 : sj_Mem} {N : Nat} {q : Int × sj_VV} {k9 : Nat → Int → Int → Int → Int → sj_VV → Option (Int × sj_VV)} (hk9 : ∀ (a0 : Nat) (x1 : Int) (x2 : Int) (x3 : Int) (x4 : Int) (V : sj_VV), OK4 g a0 → k9 a0 x1 x2 x3 x4 V = some q → sj_T X m_X4_leastBound s0 (some (sj_i q.1), (g, q.2)) 9 [some (sj_r (some a0)), some (sj_i x1), some (sj_i x2), some (sj_i x3), some (sj_i x4), none] [] (g, V)) :
    ∀ (a0 : Nat) (x1 : Int) (x2 : Int) (x3 : Int) (x4 : Int) (V : sj_VV), OK4 g a0 → g_X4_leastBound_9_b N k9 a0 x1 x2 x3 x4 V = some q → sj_T X m_X4_leastBound s0 (some (sj_i q.1), (g, q.2)) 9 [some (sj_r (some a0)), some (sj_i x1), some (sj_i x2), some (sj_i x3), some (sj_i x4), none] [] (g, V) := by
  intro a0 x1 x2 x3 x4 V ha0 h
  unfold g_X4_leastBound_9_b at h
  refine r_iload (pc := 9) dX4_leastBound_9 rfl ?_
  refine r_bipush (pc := 11) dX4_leastBound_11 ⟨by decide, by decide⟩ ?_
  refine r_icmp_ge (pc := 13) (tgt := 59) h dX4_leastBound_13 (by decide) (fun h => ?_) (fun h => ?_)
  · refine r_iload_n (pc := 59) dX4_leastBound_59 rfl rfl ?_
    exact r_irets (pc := 60) h rfl dX4_leastBound_60
  · refine r_iload_n (pc := 16) dX4_leastBound_16 rfl rfl ?_
    refine r_iload_n (pc := 17) dX4_leastBound_17 rfl rfl ?_
    refine r_isub (pc := 18) dX4_leastBound_18 ?_
    refine r_iconst (pc := 19) dX4_leastBound_19 ?_
    refine r_icmp_le (pc := 20) (tgt := 59) h dX4_leastBound_20 (by decide) (fun h => ?_) (fun h => ?_)
    · refine r_iload_n (pc := 59) dX4_leastBound_59 rfl rfl ?_
      exact r_irets (pc := 60) h rfl dX4_leastBound_60
    · refine r_iload_n (pc := 23) dX4_leastBound_23 rfl rfl ?_
      refine r_iload_n (pc := 24) dX4_leastBound_24 rfl rfl ?_
      refine r_icmp_ge (pc := 25) (tgt := 59) h dX4_leastBound_25 (by decide) (fun h => ?_) (fun h => ?_)
      · refine r_iload_n (pc := 59) dX4_leastBound_59 rfl rfl ?_
        exact r_irets (pc := 60) h rfl dX4_leastBound_60
      · refine r_iload_n (pc := 28) dX4_leastBound_28 rfl rfl ?_
        refine r_iload_n (pc := 29) dX4_leastBound_29 rfl rfl ?_
        refine r_iadd (pc := 30) dX4_leastBound_30 ?_
        refine r_iconst (pc := 31) dX4_leastBound_31 ?_
        refine r_idiv (pc := 32) h dX4_leastBound_32 (fun v1 h => ?_)
        refine r_istore (ln := [some (sj_r (some a0)), some (sj_i x1), some (sj_i x2), some (sj_i x3), some (sj_i x4), some (sj_i v1)]) (pc := 33) dX4_leastBound_33 (Nat.le_of_ble_eq_true rfl) rfl ?_
        refine r_aload_n (pc := 35) dX4_leastBound_35 rfl rfl ?_
        refine r_iload (pc := 36) dX4_leastBound_36 rfl ?_
        refine r_callVs (pc := 38) (fun v => some (sj_i v)) (As := [sj_i v1]) (rest := []) (b := a0) (ok4 ha0) h dX4_leastBound_38 mw_X4_122 vw_X4_hold (fun _ _ hc => cg_X4_hold ha0 hc) rfl ⟨(Nat.le_of_ble_eq_true rfl), (Nat.le_of_ble_eq_true rfl)⟩ (Nat.le_of_ble_eq_true rfl) rfl (fun v3 V2 h => ?_)
        refine r_if_eq (pc := 41) (tgt := 50) h dX4_leastBound_41 (by decide) (fun h => ?_) (fun h => ?_)
        · refine r_iload (pc := 50) dX4_leastBound_50 rfl ?_
          refine r_istore_n (ln := [some (sj_r (some a0)), some (sj_i x1), some (sj_i x2), some (sj_i v1), some (sj_i x4), some (sj_i v1)]) (pc := 52) dX4_leastBound_52 rfl (Nat.le_of_ble_eq_true rfl) rfl ?_
          exact sj_weak (l2 := [some (sj_r (some a0)), some (sj_i x1), some (sj_i x2), some (sj_i v1), some (sj_i x4), none]) (⟨rfl, ⟨rfl, ⟨rfl, ⟨rfl, ⟨rfl, trivial⟩⟩⟩⟩⟩) (st_X4_leastBound_53 hk9 a0 x1 x2 v1 x4 V2 ha0 h)
        · refine r_iload (pc := 44) dX4_leastBound_44 rfl ?_
          refine r_istore_n (ln := [some (sj_r (some a0)), some (sj_i x1), some (sj_i v1), some (sj_i x3), some (sj_i x4), some (sj_i v1)]) (pc := 46) dX4_leastBound_46 rfl (Nat.le_of_ble_eq_true rfl) rfl ?_
          refine r_goto (pc := 47) (tgt := 53) dX4_leastBound_47 (by decide) ?_
          exact sj_weak (l2 := [some (sj_r (some a0)), some (sj_i x1), some (sj_i v1), some (sj_i x3), some (sj_i x4), none]) (⟨rfl, ⟨rfl, ⟨rfl, ⟨rfl, ⟨rfl, trivial⟩⟩⟩⟩⟩) (st_X4_leastBound_53 hk9 a0 x1 v1 x3 x4 V2 ha0 h)
set_option maxHeartbeats 4000000 in
theorem st_X4_leastBound_9 {X : sj_X} {g : sj_G} {s0 : sj_Mem} {N : Nat} {q : Int × sj_VV} :
    ∀ (n : Nat) (a0 : Nat) (x1 : Int) (x2 : Int) (x3 : Int) (x4 : Int) (V : sj_VV), OK4 g a0 → g_X4_leastBound_9 N n a0 x1 x2 x3 x4 V = some q → sj_T X m_X4_leastBound s0 (some (sj_i q.1), (g, q.2)) 9 [some (sj_r (some a0)), some (sj_i x1), some (sj_i x2), some (sj_i x3), some (sj_i x4), none] [] (g, V) := by
  intro n
  induction n with
  | zero => intro a0 x1 x2 x3 x4 V ha0 h; exact nomatch h
  | succ n ih => intro a0 x1 x2 x3 x4 V ha0 h; exact st_X4_leastBound_9_b (N := N) ih a0 x1 x2 x3 x4 V ha0 h
set_option maxHeartbeats 4000000 in
theorem st_X4_leastBound_0 {X : sj_X} {g : sj_G} {s0 : sj_Mem} {N : Nat} {q : Int × sj_VV} :
    ∀ (a0 : Nat) (x1 : Int) (V : sj_VV), OK4 g a0 → g_X4_leastBound N a0 x1 V = some q → sj_T X m_X4_leastBound s0 (some (sj_i q.1), (g, q.2)) 0 [some (sj_r (some a0)), some (sj_i x1), none, none, none, none] [] (g, V) := by
  intro a0 x1 V ha0 h
  unfold g_X4_leastBound at h
  refine r_iconst (pc := 0) dX4_leastBound_0 ?_
  refine r_istore_n (ln := [some (sj_r (some a0)), some (sj_i x1), some (sj_i 0), none, none, none]) (pc := 1) dX4_leastBound_1 rfl (Nat.le_of_ble_eq_true rfl) rfl ?_
  refine r_sipush (pc := 2) dX4_leastBound_2 ⟨by decide, by decide⟩ ?_
  refine r_istore_n (ln := [some (sj_r (some a0)), some (sj_i x1), some (sj_i 0), some (sj_i 20001), none, none]) (pc := 5) dX4_leastBound_5 rfl (Nat.le_of_ble_eq_true rfl) rfl ?_
  refine r_iconst (pc := 6) dX4_leastBound_6 ?_
  refine r_istore (ln := [some (sj_r (some a0)), some (sj_i x1), some (sj_i 0), some (sj_i 20001), some (sj_i 0), none]) (pc := 7) dX4_leastBound_7 (Nat.le_of_ble_eq_true rfl) rfl ?_
  exact sj_weak (l2 := [some (sj_r (some a0)), some (sj_i x1), some (sj_i 0), some (sj_i 20001), some (sj_i 0), none]) (⟨rfl, ⟨rfl, ⟨rfl, ⟨rfl, ⟨rfl, trivial⟩⟩⟩⟩⟩) (st_X4_leastBound_9 N a0 x1 0 20001 0 V ha0 h)
set_option maxHeartbeats 4000000 in
theorem cg_X4_leastBound {X : sj_X} {g : sj_G} {N : Nat} {a0 : Nat} {x1 : Int} {V : sj_VV} {q : Int × sj_VV} (ha0 : OK4 g a0) (h : g_X4_leastBound N a0 x1 V = some q) : sj_C X m_X4_leastBound [sj_r (some a0), sj_i x1] (g, V) (some (sj_i q.1), (g, q.2)) :=
  sj_C_of (by decide +kernel) (Nat.le_of_ble_eq_true rfl) (lo := [some (sj_r (some a0)), some (sj_i x1), none, none, none, none]) rfl (sj_weak (l2 := [some (sj_r (some a0)), some (sj_i x1), none, none, none, none]) (⟨rfl, ⟨rfl, trivial⟩⟩) (st_X4_leastBound_0 a0 x1 V ha0 h))
set_option maxHeartbeats 4000000 in
theorem c_X4_leastBound {X : sj_X} {N : Nat} {a0 : Nat} {x1 : Int} {s : sj_Mem} {q : Int × sj_Mem} (h : f_X4_leastBound N a0 x1 s = some q) : sj_C X m_X4_leastBound [sj_r (some a0), sj_i x1] s (some (sj_i q.1), q.2) := by
  obtain ⟨g, V⟩ := s
  unfold f_X4_leastBound at h
  obtain ⟨ho, h1⟩ := e_ok_some h
  obtain ⟨q2, h2, rfl⟩ := sj_map_some h1
  exact cg_X4_leastBound ho h2
theorem dX3_ask_0 : decode cX3_ask 0 = .ok (.iload_n 2, 1) := by decide +kernel
theorem dX3_ask_1 : decode cX3_ask 1 = .ok (.iload_n 3, 1) := by decide +kernel
theorem dX3_ask_2 : decode cX3_ask 2 = .ok (.iload 4, 2) := by decide +kernel
theorem dX3_ask_4 : decode cX3_ask 4 = .ok (.invokestatic 25, 3) := by decide +kernel
theorem dX3_ask_7 : decode cX3_ask 7 = .ok (.ifCond .eq 20, 3) := by decide +kernel
theorem dX3_ask_10 : decode cX3_ask 10 = .ok (.aload_n 0, 1) := by decide +kernel
theorem dX3_ask_11 : decode cX3_ask 11 = .ok (.getfield 12, 3) := by decide +kernel
theorem dX3_ask_14 : decode cX3_ask 14 = .ok (.aload_n 1, 1) := by decide +kernel
theorem dX3_ask_15 : decode cX3_ask 15 = .ok (.iload_n 2, 1) := by decide +kernel
theorem dX3_ask_16 : decode cX3_ask 16 = .ok (.iload_n 3, 1) := by decide +kernel
theorem dX3_ask_17 : decode cX3_ask 17 = .ok (.iload 4, 2) := by decide +kernel
theorem dX3_ask_19 : decode cX3_ask 19 = .ok (.iload 5, 2) := by decide +kernel
theorem dX3_ask_21 : decode cX3_ask 21 = .ok (.invokevirtual 29, 3) := by decide +kernel
theorem dX3_ask_24 : decode cX3_ask 24 = .ok (.ifCond .ne 5, 3) := by decide +kernel
theorem dX3_ask_27 : decode cX3_ask 27 = .ok (.iconst (-1), 1) := by decide +kernel
theorem dX3_ask_28 : decode cX3_ask 28 = .ok (.ireturn, 1) := by decide +kernel
theorem dX3_ask_29 : decode cX3_ask 29 = .ok (.aload_n 0, 1) := by decide +kernel
theorem dX3_ask_30 : decode cX3_ask 30 = .ok (.getfield 21, 3) := by decide +kernel
theorem dX3_ask_33 : decode cX3_ask 33 = .ok (.aload_n 1, 1) := by decide +kernel
theorem dX3_ask_34 : decode cX3_ask 34 = .ok (.aload_n 0, 1) := by decide +kernel
theorem dX3_ask_35 : decode cX3_ask 35 = .ok (.getfield 12, 3) := by decide +kernel
theorem dX3_ask_38 : decode cX3_ask 38 = .ok (.invokevirtual 33, 3) := by decide +kernel
theorem dX3_ask_41 : decode cX3_ask 41 = .ok (.aload_n 0, 1) := by decide +kernel
theorem dX3_ask_42 : decode cX3_ask 42 = .ok (.getfield 21, 3) := by decide +kernel
theorem dX3_ask_45 : decode cX3_ask 45 = .ok (.aload_n 1, 1) := by decide +kernel
theorem dX3_ask_46 : decode cX3_ask 46 = .ok (.iconst 0, 1) := by decide +kernel
theorem dX3_ask_47 : decode cX3_ask 47 = .ok (.invokevirtual 37, 3) := by decide +kernel
theorem dX3_ask_50 : decode cX3_ask 50 = .ok (.aload_n 0, 1) := by decide +kernel
theorem dX3_ask_51 : decode cX3_ask 51 = .ok (.getfield 21, 3) := by decide +kernel
theorem dX3_ask_54 : decode cX3_ask 54 = .ok (.iload 6, 2) := by decide +kernel
theorem dX3_ask_56 : decode cX3_ask 56 = .ok (.invokevirtual 41, 3) := by decide +kernel
theorem dX3_ask_59 : decode cX3_ask 59 = .ok (.ireturn, 1) := by decide +kernel
set_option maxHeartbeats 4000000 in
theorem st_X3_ask_0 {X : sj_X} {g : sj_G} {s0 : sj_Mem} {N : Nat} {q : Int × sj_VV} :
    ∀ (a0 : Nat) (x1 : Nat) (x2 : Int) (x3 : Int) (x4 : Int) (x5 : Int) (x6 : Int) (V : sj_VV), OK3 g a0 → OK0 g x1 → g_X3_ask N a0 x1 x2 x3 x4 x5 x6 V = some q → sj_T X m_X3_ask s0 (some (sj_i q.1), (g, q.2)) 0 [some (sj_r (some a0)), some (sj_r (some x1)), some (sj_i x2), some (sj_i x3), some (sj_i x4), some (sj_i x5), some (sj_i x6)] [] (g, V) := by
  intro a0 x1 x2 x3 x4 x5 x6 V ha0 hx1 h
  unfold g_X3_ask at h
  refine r_iload_n (pc := 0) dX3_ask_0 rfl rfl ?_
  refine r_iload_n (pc := 1) dX3_ask_1 rfl rfl ?_
  refine r_iload (pc := 2) dX3_ask_2 rfl ?_
  refine r_callSs (pc := 4) (fun v => some (sj_i v)) (As := [sj_i x2, sj_i x3, sj_i x4]) (rest := []) h dX3_ask_4 mw_X3_25 kw_600 (fun _ _ hc => cg_X8_isCircle  hc) rfl ⟨(Nat.le_of_ble_eq_true rfl), (Nat.le_of_ble_eq_true rfl)⟩ (Nat.le_of_ble_eq_true rfl) rfl (fun v2 V1 h => ?_)
  refine r_if_eq (pc := 7) (tgt := 27) h dX3_ask_7 (by decide) (fun h => ?_) (fun h => ?_)
  · refine r_iconst (pc := 27) dX3_ask_27 ?_
    exact r_irets (pc := 28) h rfl dX3_ask_28
  · refine r_aload_n (pc := 10) dX3_ask_10 rfl rfl ?_
    refine r_gRs (b := a0 + 1) (pc := 11) dX3_ask_11 fw_X3_12 rfl (ok3 ha0) (ok3_0 ha0).1 ?_
    refine r_aload_n (pc := 14) dX3_ask_14 rfl rfl ?_
    refine r_iload_n (pc := 15) dX3_ask_15 rfl rfl ?_
    refine r_iload_n (pc := 16) dX3_ask_16 rfl rfl ?_
    refine r_iload (pc := 17) dX3_ask_17 rfl ?_
    refine r_iload (pc := 19) dX3_ask_19 rfl ?_
    refine r_callVs (pc := 21) (fun v => some (sj_i v)) (As := [sj_r (some x1), sj_i x2, sj_i x3, sj_i x4, sj_i x5]) (rest := []) (b := (a0 + 1)) (ok5 (ok3_0 ha0).2) h dX3_ask_21 mw_X3_29 vw_X5_cut (fun _ _ hc => cg_X5_cut (ok3_0 ha0).2 hx1 hc) rfl ⟨(Nat.le_of_ble_eq_true rfl), (Nat.le_of_ble_eq_true rfl)⟩ (Nat.le_of_ble_eq_true rfl) rfl (fun v4 V3 h => ?_)
    refine r_if_ne (pc := 24) (tgt := 29) h dX3_ask_24 (by decide) (fun h => ?_) (fun h => ?_)
    · refine r_iconst (pc := 27) dX3_ask_27 ?_
      exact r_irets (pc := 28) h rfl dX3_ask_28
    · refine r_aload_n (pc := 29) dX3_ask_29 rfl rfl ?_
      refine r_gRs (b := a0 + 3) (pc := 30) dX3_ask_30 fw_X3_21 rfl (ok3 ha0) (ok3_1 ha0).1 ?_
      refine r_aload_n (pc := 33) dX3_ask_33 rfl rfl ?_
      refine r_aload_n (pc := 34) dX3_ask_34 rfl rfl ?_
      refine r_gRs (b := a0 + 1) (pc := 35) dX3_ask_35 fw_X3_12 rfl (ok3 ha0) (ok3_0 ha0).1 ?_
      refine r_callVs (pc := 38) (fun _ => none) (As := [sj_r (some x1), sj_r (some (a0 + 1))]) (rest := []) (b := (a0 + 3)) (ok4 (ok3_1 ha0).2) h dX3_ask_38 mw_X3_33 vw_X4_weigh (fun _ _ hc => cg_X4_weigh (ok3_1 ha0).2 hx1 (ok3_0 ha0).2 hc) rfl ⟨(Nat.le_of_ble_eq_true rfl), (Nat.le_of_ble_eq_true rfl)⟩ (Nat.le_of_ble_eq_true rfl) rfl (fun _u V5 h => ?_)
      refine r_aload_n (pc := 41) dX3_ask_41 rfl rfl ?_
      refine r_gRs (b := a0 + 3) (pc := 42) dX3_ask_42 fw_X3_21 rfl (ok3 ha0) (ok3_1 ha0).1 ?_
      refine r_aload_n (pc := 45) dX3_ask_45 rfl rfl ?_
      refine r_iconst (pc := 46) dX3_ask_46 ?_
      refine r_callVs (pc := 47) (fun _ => none) (As := [sj_r (some x1), sj_i 0]) (rest := []) (b := (a0 + 3)) (ok4 (ok3_1 ha0).2) h dX3_ask_47 mw_X3_37 vw_X4_settle (fun _ _ hc => cg_X4_settle (ok3_1 ha0).2 hx1 hc) rfl ⟨(Nat.le_of_ble_eq_true rfl), (Nat.le_of_ble_eq_true rfl)⟩ (Nat.le_of_ble_eq_true rfl) rfl (fun _u V6 h => ?_)
      refine r_aload_n (pc := 50) dX3_ask_50 rfl rfl ?_
      refine r_gRs (b := a0 + 3) (pc := 51) dX3_ask_51 fw_X3_21 rfl (ok3 ha0) (ok3_1 ha0).1 ?_
      refine r_iload (pc := 54) dX3_ask_54 rfl ?_
      refine r_callVs (pc := 56) (fun v => some (sj_i v)) (As := [sj_i x6]) (rest := []) (b := (a0 + 3)) (ok4 (ok3_1 ha0).2) h dX3_ask_56 mw_X3_41 vw_X4_leastBound (fun _ _ hc => cg_X4_leastBound (ok3_1 ha0).2 hc) rfl ⟨(Nat.le_of_ble_eq_true rfl), (Nat.le_of_ble_eq_true rfl)⟩ (Nat.le_of_ble_eq_true rfl) rfl (fun v8 V7 h => ?_)
      exact r_irets (pc := 59) h rfl dX3_ask_59
set_option maxHeartbeats 4000000 in
theorem cg_X3_ask {X : sj_X} {g : sj_G} {N : Nat} {a0 : Nat} {x1 : Nat} {x2 : Int} {x3 : Int} {x4 : Int} {x5 : Int} {x6 : Int} {V : sj_VV} {q : Int × sj_VV} (ha0 : OK3 g a0) (hx1 : OK0 g x1) (h : g_X3_ask N a0 x1 x2 x3 x4 x5 x6 V = some q) : sj_C X m_X3_ask [sj_r (some a0), sj_r (some x1), sj_i x2, sj_i x3, sj_i x4, sj_i x5, sj_i x6] (g, V) (some (sj_i q.1), (g, q.2)) :=
  sj_C_of (by decide +kernel) (Nat.le_of_ble_eq_true rfl) (lo := [some (sj_r (some a0)), some (sj_r (some x1)), some (sj_i x2), some (sj_i x3), some (sj_i x4), some (sj_i x5), some (sj_i x6)]) rfl (sj_weak (l2 := [some (sj_r (some a0)), some (sj_r (some x1)), some (sj_i x2), some (sj_i x3), some (sj_i x4), some (sj_i x5), some (sj_i x6)]) (⟨rfl, ⟨rfl, ⟨rfl, ⟨rfl, ⟨rfl, ⟨rfl, ⟨rfl, trivial⟩⟩⟩⟩⟩⟩⟩) (st_X3_ask_0 a0 x1 x2 x3 x4 x5 x6 V ha0 hx1 h))
set_option maxHeartbeats 4000000 in
theorem c_X3_ask {X : sj_X} {N : Nat} {a0 : Nat} {x1 : Option Nat} {x2 : Int} {x3 : Int} {x4 : Int} {x5 : Int} {x6 : Int} {s : sj_Mem} {q : Int × sj_Mem} (h : f_X3_ask N a0 x1 x2 x3 x4 x5 x6 s = some q) : sj_C X m_X3_ask [sj_r (some a0), sj_r x1, sj_i x2, sj_i x3, sj_i x4, sj_i x5, sj_i x6] s (some (sj_i q.1), q.2) := by
  obtain ⟨g, V⟩ := s
  unfold f_X3_ask at h
  obtain ⟨ho, h1⟩ := e_ok_some h
  obtain ⟨q2, h2, rfl⟩ := sj_map_some h1
  obtain ⟨z1, hz1⟩ : ∃ z, x1 = some z := ⟨_, ho.2.1⟩
  subst hz1
  exact cg_X3_ask ho.1 ho.2.2 h2
theorem dX3_off_0 : decode cX3_off 0 = .ok (.iload_n 0, 1) := by decide +kernel
theorem dX3_off_1 : decode cX3_off 1 = .ok (.iconst 1, 1) := by decide +kernel
theorem dX3_off_2 : decode cX3_off 2 = .ok (.isub, 1) := by decide +kernel
theorem dX3_off_3 : decode cX3_off 3 = .ok (.iload_n 1, 1) := by decide +kernel
theorem dX3_off_4 : decode cX3_off 4 = .ok (.imul, 1) := by decide +kernel
theorem dX3_off_5 : decode cX3_off 5 = .ok (.ireturn, 1) := by decide +kernel
set_option maxHeartbeats 4000000 in
theorem st_X3_off_0 {X : sj_X} {g : sj_G} {s0 : sj_Mem} {N : Nat} {q : Int × sj_VV} :
    ∀ (x0 : Int) (x1 : Int) (V : sj_VV), g_X3_off N x0 x1 V = some q → sj_T X m_X3_off s0 (some (sj_i q.1), (g, q.2)) 0 [some (sj_i x0), some (sj_i x1)] [] (g, V) := by
  intro x0 x1 V  h
  unfold g_X3_off at h
  refine r_iload_n (pc := 0) dX3_off_0 rfl rfl ?_
  refine r_iconst (pc := 1) dX3_off_1 ?_
  refine r_isub (pc := 2) dX3_off_2 ?_
  refine r_iload_n (pc := 3) dX3_off_3 rfl rfl ?_
  refine r_imul (pc := 4) dX3_off_4 ?_
  exact r_irets (pc := 5) h rfl dX3_off_5
set_option maxHeartbeats 4000000 in
theorem cg_X3_off {X : sj_X} {g : sj_G} {N : Nat} {x0 : Int} {x1 : Int} {V : sj_VV} {q : Int × sj_VV} (h : g_X3_off N x0 x1 V = some q) : sj_C X m_X3_off [sj_i x0, sj_i x1] (g, V) (some (sj_i q.1), (g, q.2)) :=
  sj_C_of (by decide +kernel) (Nat.le_of_ble_eq_true rfl) (lo := [some (sj_i x0), some (sj_i x1)]) rfl (sj_weak (l2 := [some (sj_i x0), some (sj_i x1)]) (⟨rfl, ⟨rfl, trivial⟩⟩) (st_X3_off_0 x0 x1 V h))
set_option maxHeartbeats 4000000 in
theorem c_X3_off {X : sj_X} {N : Nat} {x0 : Int} {x1 : Int} {s : sj_Mem} {q : Int × sj_Mem} (h : f_X3_off N x0 x1 s = some q) : sj_C X m_X3_off [sj_i x0, sj_i x1] s (some (sj_i q.1), q.2) := by
  obtain ⟨g, V⟩ := s
  unfold f_X3_off at h
  obtain ⟨ho, h1⟩ := e_ok_some h
  obtain ⟨q2, h2, rfl⟩ := sj_map_some h1
  exact cg_X3_off  h2
theorem dX3_goOn_0 : decode cX3_goOn 0 = .ok (.iconst (-1), 1) := by decide +kernel
theorem dX3_goOn_1 : decode cX3_goOn 1 = .ok (.istore 4, 2) := by decide +kernel
theorem dX3_goOn_3 : decode cX3_goOn 3 = .ok (.iconst 0, 1) := by decide +kernel
theorem dX3_goOn_4 : decode cX3_goOn 4 = .ok (.istore 5, 2) := by decide +kernel
theorem dX3_goOn_6 : decode cX3_goOn 6 = .ok (.iload 5, 2) := by decide +kernel
theorem dX3_goOn_8 : decode cX3_goOn 8 = .ok (.bipush 27, 2) := by decide +kernel
theorem dX3_goOn_10 : decode cX3_goOn 10 = .ok (.if_icmp .ge 88, 3) := by decide +kernel
theorem dX3_goOn_13 : decode cX3_goOn 13 = .ok (.aload_n 0, 1) := by decide +kernel
theorem dX3_goOn_14 : decode cX3_goOn 14 = .ok (.aload_n 1, 1) := by decide +kernel
theorem dX3_goOn_15 : decode cX3_goOn 15 = .ok (.aload_n 0, 1) := by decide +kernel
theorem dX3_goOn_16 : decode cX3_goOn 16 = .ok (.getfield 45, 3) := by decide +kernel
theorem dX3_goOn_19 : decode cX3_goOn 19 = .ok (.iload 5, 2) := by decide +kernel
theorem dX3_goOn_21 : decode cX3_goOn 21 = .ok (.bipush 9, 2) := by decide +kernel
theorem dX3_goOn_23 : decode cX3_goOn 23 = .ok (.idiv, 1) := by decide +kernel
theorem dX3_goOn_24 : decode cX3_goOn 24 = .ok (.iload_n 2, 1) := by decide +kernel
theorem dX3_goOn_25 : decode cX3_goOn 25 = .ok (.invokestatic 69, 3) := by decide +kernel
theorem dX3_goOn_28 : decode cX3_goOn 28 = .ok (.iadd, 1) := by decide +kernel
theorem dX3_goOn_29 : decode cX3_goOn 29 = .ok (.aload_n 0, 1) := by decide +kernel
theorem dX3_goOn_30 : decode cX3_goOn 30 = .ok (.getfield 49, 3) := by decide +kernel
theorem dX3_goOn_33 : decode cX3_goOn 33 = .ok (.iload 5, 2) := by decide +kernel
theorem dX3_goOn_35 : decode cX3_goOn 35 = .ok (.iconst 3, 1) := by decide +kernel
theorem dX3_goOn_36 : decode cX3_goOn 36 = .ok (.idiv, 1) := by decide +kernel
theorem dX3_goOn_37 : decode cX3_goOn 37 = .ok (.iconst 3, 1) := by decide +kernel
theorem dX3_goOn_38 : decode cX3_goOn 38 = .ok (.irem, 1) := by decide +kernel
theorem dX3_goOn_39 : decode cX3_goOn 39 = .ok (.iload_n 2, 1) := by decide +kernel
theorem dX3_goOn_40 : decode cX3_goOn 40 = .ok (.invokestatic 69, 3) := by decide +kernel
theorem dX3_goOn_43 : decode cX3_goOn 43 = .ok (.iadd, 1) := by decide +kernel
theorem dX3_goOn_44 : decode cX3_goOn 44 = .ok (.aload_n 0, 1) := by decide +kernel
theorem dX3_goOn_45 : decode cX3_goOn 45 = .ok (.getfield 52, 3) := by decide +kernel
theorem dX3_goOn_48 : decode cX3_goOn 48 = .ok (.iload 5, 2) := by decide +kernel
theorem dX3_goOn_50 : decode cX3_goOn 50 = .ok (.iconst 3, 1) := by decide +kernel
theorem dX3_goOn_51 : decode cX3_goOn 51 = .ok (.irem, 1) := by decide +kernel
theorem dX3_goOn_52 : decode cX3_goOn 52 = .ok (.iload_n 2, 1) := by decide +kernel
theorem dX3_goOn_53 : decode cX3_goOn 53 = .ok (.invokestatic 69, 3) := by decide +kernel
theorem dX3_goOn_56 : decode cX3_goOn 56 = .ok (.iadd, 1) := by decide +kernel
theorem dX3_goOn_57 : decode cX3_goOn 57 = .ok (.iload_n 3, 1) := by decide +kernel
theorem dX3_goOn_58 : decode cX3_goOn 58 = .ok (.aload_n 0, 1) := by decide +kernel
theorem dX3_goOn_59 : decode cX3_goOn 59 = .ok (.getfield 59, 3) := by decide +kernel
theorem dX3_goOn_62 : decode cX3_goOn 62 = .ok (.invokevirtual 55, 3) := by decide +kernel
theorem dX3_goOn_65 : decode cX3_goOn 65 = .ok (.istore 6, 2) := by decide +kernel
theorem dX3_goOn_67 : decode cX3_goOn 67 = .ok (.iload 6, 2) := by decide +kernel
theorem dX3_goOn_69 : decode cX3_goOn 69 = .ok (.iconst (-1), 1) := by decide +kernel
theorem dX3_goOn_70 : decode cX3_goOn 70 = .ok (.if_icmp .eq 22, 3) := by decide +kernel
theorem dX3_goOn_73 : decode cX3_goOn 73 = .ok (.iload 6, 2) := by decide +kernel
theorem dX3_goOn_75 : decode cX3_goOn 75 = .ok (.aload_n 0, 1) := by decide +kernel
theorem dX3_goOn_76 : decode cX3_goOn 76 = .ok (.getfield 59, 3) := by decide +kernel
theorem dX3_goOn_79 : decode cX3_goOn 79 = .ok (.if_icmp .ge 13, 3) := by decide +kernel
theorem dX3_goOn_82 : decode cX3_goOn 82 = .ok (.aload_n 0, 1) := by decide +kernel
theorem dX3_goOn_83 : decode cX3_goOn 83 = .ok (.iload 6, 2) := by decide +kernel
theorem dX3_goOn_85 : decode cX3_goOn 85 = .ok (.putfield 59, 3) := by decide +kernel
theorem dX3_goOn_88 : decode cX3_goOn 88 = .ok (.iload 5, 2) := by decide +kernel
theorem dX3_goOn_90 : decode cX3_goOn 90 = .ok (.istore 4, 2) := by decide +kernel
theorem dX3_goOn_92 : decode cX3_goOn 92 = .ok (.iinc 5 1, 3) := by decide +kernel
theorem dX3_goOn_95 : decode cX3_goOn 95 = .ok (.goto (-89), 3) := by decide +kernel
theorem dX3_goOn_98 : decode cX3_goOn 98 = .ok (.iload 4, 2) := by decide +kernel
theorem dX3_goOn_100 : decode cX3_goOn 100 = .ok (.iconst (-1), 1) := by decide +kernel
theorem dX3_goOn_101 : decode cX3_goOn 101 = .ok (.if_icmp .ne 5, 3) := by decide +kernel
theorem dX3_goOn_104 : decode cX3_goOn 104 = .ok (.iconst 0, 1) := by decide +kernel
theorem dX3_goOn_105 : decode cX3_goOn 105 = .ok (.ireturn, 1) := by decide +kernel
theorem dX3_goOn_106 : decode cX3_goOn 106 = .ok (.aload_n 0, 1) := by decide +kernel
theorem dX3_goOn_107 : decode cX3_goOn 107 = .ok (.dup, 1) := by decide +kernel
theorem dX3_goOn_108 : decode cX3_goOn 108 = .ok (.getfield 45, 3) := by decide +kernel
theorem dX3_goOn_111 : decode cX3_goOn 111 = .ok (.iload 4, 2) := by decide +kernel
theorem dX3_goOn_113 : decode cX3_goOn 113 = .ok (.bipush 9, 2) := by decide +kernel
theorem dX3_goOn_115 : decode cX3_goOn 115 = .ok (.idiv, 1) := by decide +kernel
theorem dX3_goOn_116 : decode cX3_goOn 116 = .ok (.iload_n 2, 1) := by decide +kernel
theorem dX3_goOn_117 : decode cX3_goOn 117 = .ok (.invokestatic 69, 3) := by decide +kernel
theorem dX3_goOn_120 : decode cX3_goOn 120 = .ok (.iadd, 1) := by decide +kernel
theorem dX3_goOn_121 : decode cX3_goOn 121 = .ok (.putfield 45, 3) := by decide +kernel
theorem dX3_goOn_124 : decode cX3_goOn 124 = .ok (.aload_n 0, 1) := by decide +kernel
theorem dX3_goOn_125 : decode cX3_goOn 125 = .ok (.dup, 1) := by decide +kernel
theorem dX3_goOn_126 : decode cX3_goOn 126 = .ok (.getfield 49, 3) := by decide +kernel
theorem dX3_goOn_129 : decode cX3_goOn 129 = .ok (.iload 4, 2) := by decide +kernel
theorem dX3_goOn_131 : decode cX3_goOn 131 = .ok (.iconst 3, 1) := by decide +kernel
theorem dX3_goOn_132 : decode cX3_goOn 132 = .ok (.idiv, 1) := by decide +kernel
theorem dX3_goOn_133 : decode cX3_goOn 133 = .ok (.iconst 3, 1) := by decide +kernel
theorem dX3_goOn_134 : decode cX3_goOn 134 = .ok (.irem, 1) := by decide +kernel
theorem dX3_goOn_135 : decode cX3_goOn 135 = .ok (.iload_n 2, 1) := by decide +kernel
theorem dX3_goOn_136 : decode cX3_goOn 136 = .ok (.invokestatic 69, 3) := by decide +kernel
theorem dX3_goOn_139 : decode cX3_goOn 139 = .ok (.iadd, 1) := by decide +kernel
theorem dX3_goOn_140 : decode cX3_goOn 140 = .ok (.putfield 49, 3) := by decide +kernel
theorem dX3_goOn_143 : decode cX3_goOn 143 = .ok (.aload_n 0, 1) := by decide +kernel
theorem dX3_goOn_144 : decode cX3_goOn 144 = .ok (.dup, 1) := by decide +kernel
theorem dX3_goOn_145 : decode cX3_goOn 145 = .ok (.getfield 52, 3) := by decide +kernel
theorem dX3_goOn_148 : decode cX3_goOn 148 = .ok (.iload 4, 2) := by decide +kernel
theorem dX3_goOn_150 : decode cX3_goOn 150 = .ok (.iconst 3, 1) := by decide +kernel
theorem dX3_goOn_151 : decode cX3_goOn 151 = .ok (.irem, 1) := by decide +kernel
theorem dX3_goOn_152 : decode cX3_goOn 152 = .ok (.iload_n 2, 1) := by decide +kernel
theorem dX3_goOn_153 : decode cX3_goOn 153 = .ok (.invokestatic 69, 3) := by decide +kernel
theorem dX3_goOn_156 : decode cX3_goOn 156 = .ok (.iadd, 1) := by decide +kernel
theorem dX3_goOn_157 : decode cX3_goOn 157 = .ok (.putfield 52, 3) := by decide +kernel
theorem dX3_goOn_160 : decode cX3_goOn 160 = .ok (.iconst 1, 1) := by decide +kernel
theorem dX3_goOn_161 : decode cX3_goOn 161 = .ok (.ireturn, 1) := by decide +kernel
set_option maxHeartbeats 4000000 in
theorem st_X3_goOn_92 {X : sj_X} {g : sj_G} {s0 : sj_Mem} {N : Nat} {q : Int × sj_VV} {k6 : Nat → Nat → Int → Int → Int → Int → sj_VV → Option (Int × sj_VV)} (hk6 : ∀ (a0 : Nat) (x1 : Nat) (x2 : Int) (x3 : Int) (x4 : Int) (x5 : Int) (V : sj_VV), OK3 g a0 → OK0 g x1 → k6 a0 x1 x2 x3 x4 x5 V = some q → sj_T X m_X3_goOn s0 (some (sj_i q.1), (g, q.2)) 6 [some (sj_r (some a0)), some (sj_r (some x1)), some (sj_i x2), some (sj_i x3), some (sj_i x4), some (sj_i x5), none] [] (g, V)) :
    ∀ (a0 : Nat) (x1 : Nat) (x2 : Int) (x3 : Int) (x4 : Int) (x5 : Int) (V : sj_VV), OK3 g a0 → OK0 g x1 → g_X3_goOn_92 N k6 a0 x1 x2 x3 x4 x5 V = some q → sj_T X m_X3_goOn s0 (some (sj_i q.1), (g, q.2)) 92 [some (sj_r (some a0)), some (sj_r (some x1)), some (sj_i x2), some (sj_i x3), some (sj_i x4), some (sj_i x5), none] [] (g, V) := by
  intro a0 x1 x2 x3 x4 x5 V ha0 hx1 h
  unfold g_X3_goOn_92 at h
  refine r_iinc (ln := fun w => [some (sj_r (some a0)), some (sj_r (some x1)), some (sj_i x2), some (sj_i x3), some (sj_i x4), some (sj_i w), none]) (pc := 92) h dX3_goOn_92 rfl (Nat.le_of_ble_eq_true rfl) (fun _ => rfl) (fun v1 h => ?_)
  refine r_goto (pc := 95) (tgt := 6) dX3_goOn_95 (by decide) ?_
  exact sj_weak (l2 := [some (sj_r (some a0)), some (sj_r (some x1)), some (sj_i x2), some (sj_i x3), some (sj_i x4), some (sj_i v1), none]) (⟨rfl, ⟨rfl, ⟨rfl, ⟨rfl, ⟨rfl, ⟨rfl, trivial⟩⟩⟩⟩⟩⟩) (hk6 a0 x1 x2 x3 x4 v1 V ha0 hx1 h)
set_option maxHeartbeats 4000000 in
theorem st_X3_goOn_6_b {X : sj_X} {g : sj_G} {s0 : sj_Mem} {N : Nat} {q : Int × sj_VV} {k6 : Nat → Nat → Int → Int → Int → Int → sj_VV → Option (Int × sj_VV)} (hk6 : ∀ (a0 : Nat) (x1 : Nat) (x2 : Int) (x3 : Int) (x4 : Int) (x5 : Int) (V : sj_VV), OK3 g a0 → OK0 g x1 → k6 a0 x1 x2 x3 x4 x5 V = some q → sj_T X m_X3_goOn s0 (some (sj_i q.1), (g, q.2)) 6 [some (sj_r (some a0)), some (sj_r (some x1)), some (sj_i x2), some (sj_i x3), some (sj_i x4), some (sj_i x5), none] [] (g, V)) :
    ∀ (a0 : Nat) (x1 : Nat) (x2 : Int) (x3 : Int) (x4 : Int) (x5 : Int) (V : sj_VV), OK3 g a0 → OK0 g x1 → g_X3_goOn_6_b N k6 a0 x1 x2 x3 x4 x5 V = some q → sj_T X m_X3_goOn s0 (some (sj_i q.1), (g, q.2)) 6 [some (sj_r (some a0)), some (sj_r (some x1)), some (sj_i x2), some (sj_i x3), some (sj_i x4), some (sj_i x5), none] [] (g, V) := by
  intro a0 x1 x2 x3 x4 x5 V ha0 hx1 h
  unfold g_X3_goOn_6_b at h
  refine r_iload (pc := 6) dX3_goOn_6 rfl ?_
  refine r_bipush (pc := 8) dX3_goOn_8 ⟨by decide, by decide⟩ ?_
  refine r_icmp_ge (pc := 10) (tgt := 98) h dX3_goOn_10 (by decide) (fun h => ?_) (fun h => ?_)
  · refine r_iload (pc := 98) dX3_goOn_98 rfl ?_
    refine r_iconst (pc := 100) dX3_goOn_100 ?_
    refine r_icmp_ne (pc := 101) (tgt := 106) h dX3_goOn_101 (by decide) (fun h => ?_) (fun h => ?_)
    · refine r_iconst (pc := 104) dX3_goOn_104 ?_
      exact r_zrets (pc := 105) h rfl dX3_goOn_105
    · refine r_aload_n (pc := 106) dX3_goOn_106 rfl rfl ?_
      refine r_dup (pc := 107) dX3_goOn_107 rfl ?_
      refine r_gIs (pc := 108) dX3_goOn_108 fw_X3_45 rfl (ok3 ha0) ?_
      refine r_iload (pc := 111) dX3_goOn_111 rfl ?_
      refine r_bipush (pc := 113) dX3_goOn_113 ⟨by decide, by decide⟩ ?_
      refine r_idiv (pc := 115) h dX3_goOn_115 (fun v1 h => ?_)
      refine r_iload_n (pc := 116) dX3_goOn_116 rfl rfl ?_
      refine r_callSs (pc := 117) (fun v => some (sj_i v)) (As := [sj_i v1, sj_i x2]) (rest := [(sj_i (V a0 2)), (sj_r (some a0))]) h dX3_goOn_117 mw_X3_69 kw_1042 (fun _ _ hc => cg_X3_off  hc) rfl ⟨(Nat.le_of_ble_eq_true rfl), (Nat.le_of_ble_eq_true rfl)⟩ (Nat.le_of_ble_eq_true rfl) rfl (fun v3 V2 h => ?_)
      refine r_iadd (pc := 120) dX3_goOn_120 ?_
      refine r_pIs (pc := 121) h dX3_goOn_121 fw_X3_45 rfl rfl (nf3_2) (ok3 ha0) (fun V4 h => ?_)
      refine r_aload_n (pc := 124) dX3_goOn_124 rfl rfl ?_
      refine r_dup (pc := 125) dX3_goOn_125 rfl ?_
      refine r_gIs (pc := 126) dX3_goOn_126 fw_X3_49 rfl (ok3 ha0) ?_
      refine r_iload (pc := 129) dX3_goOn_129 rfl ?_
      refine r_iconst (pc := 131) dX3_goOn_131 ?_
      refine r_idiv (pc := 132) h dX3_goOn_132 (fun v5 h => ?_)
      refine r_iconst (pc := 133) dX3_goOn_133 ?_
      refine r_irem (pc := 134) h dX3_goOn_134 (fun v6 h => ?_)
      refine r_iload_n (pc := 135) dX3_goOn_135 rfl rfl ?_
      refine r_callSs (pc := 136) (fun v => some (sj_i v)) (As := [sj_i v6, sj_i x2]) (rest := [(sj_i (V4 a0 3)), (sj_r (some a0))]) h dX3_goOn_136 mw_X3_69 kw_1042 (fun _ _ hc => cg_X3_off  hc) rfl ⟨(Nat.le_of_ble_eq_true rfl), (Nat.le_of_ble_eq_true rfl)⟩ (Nat.le_of_ble_eq_true rfl) rfl (fun v8 V7 h => ?_)
      refine r_iadd (pc := 139) dX3_goOn_139 ?_
      refine r_pIs (pc := 140) h dX3_goOn_140 fw_X3_49 rfl rfl (nf3_3) (ok3 ha0) (fun V9 h => ?_)
      refine r_aload_n (pc := 143) dX3_goOn_143 rfl rfl ?_
      refine r_dup (pc := 144) dX3_goOn_144 rfl ?_
      refine r_gIs (pc := 145) dX3_goOn_145 fw_X3_52 rfl (ok3 ha0) ?_
      refine r_iload (pc := 148) dX3_goOn_148 rfl ?_
      refine r_iconst (pc := 150) dX3_goOn_150 ?_
      refine r_irem (pc := 151) h dX3_goOn_151 (fun v10 h => ?_)
      refine r_iload_n (pc := 152) dX3_goOn_152 rfl rfl ?_
      refine r_callSs (pc := 153) (fun v => some (sj_i v)) (As := [sj_i v10, sj_i x2]) (rest := [(sj_i (V9 a0 4)), (sj_r (some a0))]) h dX3_goOn_153 mw_X3_69 kw_1042 (fun _ _ hc => cg_X3_off  hc) rfl ⟨(Nat.le_of_ble_eq_true rfl), (Nat.le_of_ble_eq_true rfl)⟩ (Nat.le_of_ble_eq_true rfl) rfl (fun v12 V11 h => ?_)
      refine r_iadd (pc := 156) dX3_goOn_156 ?_
      refine r_pIs (pc := 157) h dX3_goOn_157 fw_X3_52 rfl rfl (nf3_4) (ok3 ha0) (fun V13 h => ?_)
      refine r_iconst (pc := 160) dX3_goOn_160 ?_
      exact r_zrets (pc := 161) h rfl dX3_goOn_161
  · refine r_aload_n (pc := 13) dX3_goOn_13 rfl rfl ?_
    refine r_aload_n (pc := 14) dX3_goOn_14 rfl rfl ?_
    refine r_aload_n (pc := 15) dX3_goOn_15 rfl rfl ?_
    refine r_gIs (pc := 16) dX3_goOn_16 fw_X3_45 rfl (ok3 ha0) ?_
    refine r_iload (pc := 19) dX3_goOn_19 rfl ?_
    refine r_bipush (pc := 21) dX3_goOn_21 ⟨by decide, by decide⟩ ?_
    refine r_idiv (pc := 23) h dX3_goOn_23 (fun v14 h => ?_)
    refine r_iload_n (pc := 24) dX3_goOn_24 rfl rfl ?_
    refine r_callSs (pc := 25) (fun v => some (sj_i v)) (As := [sj_i v14, sj_i x2]) (rest := [(sj_i (V a0 2)), (sj_r (some x1)), (sj_r (some a0))]) h dX3_goOn_25 mw_X3_69 kw_1042 (fun _ _ hc => cg_X3_off  hc) rfl ⟨(Nat.le_of_ble_eq_true rfl), (Nat.le_of_ble_eq_true rfl)⟩ (Nat.le_of_ble_eq_true rfl) rfl (fun v16 V15 h => ?_)
    refine r_iadd (pc := 28) dX3_goOn_28 ?_
    refine r_aload_n (pc := 29) dX3_goOn_29 rfl rfl ?_
    refine r_gIs (pc := 30) dX3_goOn_30 fw_X3_49 rfl (ok3 ha0) ?_
    refine r_iload (pc := 33) dX3_goOn_33 rfl ?_
    refine r_iconst (pc := 35) dX3_goOn_35 ?_
    refine r_idiv (pc := 36) h dX3_goOn_36 (fun v17 h => ?_)
    refine r_iconst (pc := 37) dX3_goOn_37 ?_
    refine r_irem (pc := 38) h dX3_goOn_38 (fun v18 h => ?_)
    refine r_iload_n (pc := 39) dX3_goOn_39 rfl rfl ?_
    refine r_callSs (pc := 40) (fun v => some (sj_i v)) (As := [sj_i v18, sj_i x2]) (rest := [(sj_i (V15 a0 3)), (sj_i ((V a0 2) + v16)), (sj_r (some x1)), (sj_r (some a0))]) h dX3_goOn_40 mw_X3_69 kw_1042 (fun _ _ hc => cg_X3_off  hc) rfl ⟨(Nat.le_of_ble_eq_true rfl), (Nat.le_of_ble_eq_true rfl)⟩ (Nat.le_of_ble_eq_true rfl) rfl (fun v20 V19 h => ?_)
    refine r_iadd (pc := 43) dX3_goOn_43 ?_
    refine r_aload_n (pc := 44) dX3_goOn_44 rfl rfl ?_
    refine r_gIs (pc := 45) dX3_goOn_45 fw_X3_52 rfl (ok3 ha0) ?_
    refine r_iload (pc := 48) dX3_goOn_48 rfl ?_
    refine r_iconst (pc := 50) dX3_goOn_50 ?_
    refine r_irem (pc := 51) h dX3_goOn_51 (fun v21 h => ?_)
    refine r_iload_n (pc := 52) dX3_goOn_52 rfl rfl ?_
    refine r_callSs (pc := 53) (fun v => some (sj_i v)) (As := [sj_i v21, sj_i x2]) (rest := [(sj_i (V19 a0 4)), (sj_i ((V15 a0 3) + v20)), (sj_i ((V a0 2) + v16)), (sj_r (some x1)), (sj_r (some a0))]) h dX3_goOn_53 mw_X3_69 kw_1042 (fun _ _ hc => cg_X3_off  hc) rfl ⟨(Nat.le_of_ble_eq_true rfl), (Nat.le_of_ble_eq_true rfl)⟩ (Nat.le_of_ble_eq_true rfl) rfl (fun v23 V22 h => ?_)
    refine r_iadd (pc := 56) dX3_goOn_56 ?_
    refine r_iload_n (pc := 57) dX3_goOn_57 rfl rfl ?_
    refine r_aload_n (pc := 58) dX3_goOn_58 rfl rfl ?_
    refine r_gIs (pc := 59) dX3_goOn_59 fw_X3_59 rfl (ok3 ha0) ?_
    refine r_callVs (pc := 62) (fun v => some (sj_i v)) (As := [sj_r (some x1), sj_i ((V a0 2) + v16), sj_i ((V15 a0 3) + v20), sj_i ((V19 a0 4) + v23), sj_i x3, sj_i (V22 a0 5)]) (rest := []) (b := a0) (ok3 ha0) h dX3_goOn_62 mw_X3_55 vw_X3_ask (fun _ _ hc => cg_X3_ask ha0 hx1 hc) rfl ⟨(Nat.le_of_ble_eq_true rfl), (Nat.le_of_ble_eq_true rfl)⟩ (Nat.le_of_ble_eq_true rfl) rfl (fun v25 V24 h => ?_)
    refine r_istore (ln := [some (sj_r (some a0)), some (sj_r (some x1)), some (sj_i x2), some (sj_i x3), some (sj_i x4), some (sj_i x5), some (sj_i v25)]) (pc := 65) dX3_goOn_65 (Nat.le_of_ble_eq_true rfl) rfl ?_
    refine r_iload (pc := 67) dX3_goOn_67 rfl ?_
    refine r_iconst (pc := 69) dX3_goOn_69 ?_
    refine r_icmp_eq (pc := 70) (tgt := 92) h dX3_goOn_70 (by decide) (fun h => ?_) (fun h => ?_)
    · exact sj_weak (l2 := [some (sj_r (some a0)), some (sj_r (some x1)), some (sj_i x2), some (sj_i x3), some (sj_i x4), some (sj_i x5), none]) (⟨rfl, ⟨rfl, ⟨rfl, ⟨rfl, ⟨rfl, ⟨rfl, trivial⟩⟩⟩⟩⟩⟩) (st_X3_goOn_92 hk6 a0 x1 x2 x3 x4 x5 V24 ha0 hx1 h)
    · refine r_iload (pc := 73) dX3_goOn_73 rfl ?_
      refine r_aload_n (pc := 75) dX3_goOn_75 rfl rfl ?_
      refine r_gIs (pc := 76) dX3_goOn_76 fw_X3_59 rfl (ok3 ha0) ?_
      refine r_icmp_ge (pc := 79) (tgt := 92) h dX3_goOn_79 (by decide) (fun h => ?_) (fun h => ?_)
      · exact sj_weak (l2 := [some (sj_r (some a0)), some (sj_r (some x1)), some (sj_i x2), some (sj_i x3), some (sj_i x4), some (sj_i x5), none]) (⟨rfl, ⟨rfl, ⟨rfl, ⟨rfl, ⟨rfl, ⟨rfl, trivial⟩⟩⟩⟩⟩⟩) (st_X3_goOn_92 hk6 a0 x1 x2 x3 x4 x5 V24 ha0 hx1 h)
      · refine r_aload_n (pc := 82) dX3_goOn_82 rfl rfl ?_
        refine r_iload (pc := 83) dX3_goOn_83 rfl ?_
        refine r_pIs (pc := 85) h dX3_goOn_85 fw_X3_59 rfl rfl (nf3_5) (ok3 ha0) (fun V26 h => ?_)
        refine r_iload (pc := 88) dX3_goOn_88 rfl ?_
        refine r_istore (ln := [some (sj_r (some a0)), some (sj_r (some x1)), some (sj_i x2), some (sj_i x3), some (sj_i x5), some (sj_i x5), some (sj_i v25)]) (pc := 90) dX3_goOn_90 (Nat.le_of_ble_eq_true rfl) rfl ?_
        exact sj_weak (l2 := [some (sj_r (some a0)), some (sj_r (some x1)), some (sj_i x2), some (sj_i x3), some (sj_i x5), some (sj_i x5), none]) (⟨rfl, ⟨rfl, ⟨rfl, ⟨rfl, ⟨rfl, ⟨rfl, trivial⟩⟩⟩⟩⟩⟩) (st_X3_goOn_92 hk6 a0 x1 x2 x3 x5 x5 V26 ha0 hx1 h)
set_option maxHeartbeats 4000000 in
theorem st_X3_goOn_6 {X : sj_X} {g : sj_G} {s0 : sj_Mem} {N : Nat} {q : Int × sj_VV} :
    ∀ (n : Nat) (a0 : Nat) (x1 : Nat) (x2 : Int) (x3 : Int) (x4 : Int) (x5 : Int) (V : sj_VV), OK3 g a0 → OK0 g x1 → g_X3_goOn_6 N n a0 x1 x2 x3 x4 x5 V = some q → sj_T X m_X3_goOn s0 (some (sj_i q.1), (g, q.2)) 6 [some (sj_r (some a0)), some (sj_r (some x1)), some (sj_i x2), some (sj_i x3), some (sj_i x4), some (sj_i x5), none] [] (g, V) := by
  intro n
  induction n with
  | zero => intro a0 x1 x2 x3 x4 x5 V ha0 hx1 h; exact nomatch h
  | succ n ih => intro a0 x1 x2 x3 x4 x5 V ha0 hx1 h; exact st_X3_goOn_6_b (N := N) ih a0 x1 x2 x3 x4 x5 V ha0 hx1 h
set_option maxHeartbeats 4000000 in
theorem st_X3_goOn_0 {X : sj_X} {g : sj_G} {s0 : sj_Mem} {N : Nat} {q : Int × sj_VV} :
    ∀ (a0 : Nat) (x1 : Nat) (x2 : Int) (x3 : Int) (V : sj_VV), OK3 g a0 → OK0 g x1 → g_X3_goOn N a0 x1 x2 x3 V = some q → sj_T X m_X3_goOn s0 (some (sj_i q.1), (g, q.2)) 0 [some (sj_r (some a0)), some (sj_r (some x1)), some (sj_i x2), some (sj_i x3), none, none, none] [] (g, V) := by
  intro a0 x1 x2 x3 V ha0 hx1 h
  unfold g_X3_goOn at h
  refine r_iconst (pc := 0) dX3_goOn_0 ?_
  refine r_istore (ln := [some (sj_r (some a0)), some (sj_r (some x1)), some (sj_i x2), some (sj_i x3), some (sj_i ((-1))), none, none]) (pc := 1) dX3_goOn_1 (Nat.le_of_ble_eq_true rfl) rfl ?_
  refine r_iconst (pc := 3) dX3_goOn_3 ?_
  refine r_istore (ln := [some (sj_r (some a0)), some (sj_r (some x1)), some (sj_i x2), some (sj_i x3), some (sj_i ((-1))), some (sj_i 0), none]) (pc := 4) dX3_goOn_4 (Nat.le_of_ble_eq_true rfl) rfl ?_
  exact sj_weak (l2 := [some (sj_r (some a0)), some (sj_r (some x1)), some (sj_i x2), some (sj_i x3), some (sj_i ((-1))), some (sj_i 0), none]) (⟨rfl, ⟨rfl, ⟨rfl, ⟨rfl, ⟨rfl, ⟨rfl, trivial⟩⟩⟩⟩⟩⟩) (st_X3_goOn_6 N a0 x1 x2 x3 ((-1)) 0 V ha0 hx1 h)
set_option maxHeartbeats 4000000 in
theorem cg_X3_goOn {X : sj_X} {g : sj_G} {N : Nat} {a0 : Nat} {x1 : Nat} {x2 : Int} {x3 : Int} {V : sj_VV} {q : Int × sj_VV} (ha0 : OK3 g a0) (hx1 : OK0 g x1) (h : g_X3_goOn N a0 x1 x2 x3 V = some q) : sj_C X m_X3_goOn [sj_r (some a0), sj_r (some x1), sj_i x2, sj_i x3] (g, V) (some (sj_i q.1), (g, q.2)) :=
  sj_C_of (by decide +kernel) (Nat.le_of_ble_eq_true rfl) (lo := [some (sj_r (some a0)), some (sj_r (some x1)), some (sj_i x2), some (sj_i x3), none, none, none]) rfl (sj_weak (l2 := [some (sj_r (some a0)), some (sj_r (some x1)), some (sj_i x2), some (sj_i x3), none, none, none]) (⟨rfl, ⟨rfl, ⟨rfl, ⟨rfl, trivial⟩⟩⟩⟩) (st_X3_goOn_0 a0 x1 x2 x3 V ha0 hx1 h))
set_option maxHeartbeats 4000000 in
theorem c_X3_goOn {X : sj_X} {N : Nat} {a0 : Nat} {x1 : Option Nat} {x2 : Int} {x3 : Int} {s : sj_Mem} {q : Int × sj_Mem} (h : f_X3_goOn N a0 x1 x2 x3 s = some q) : sj_C X m_X3_goOn [sj_r (some a0), sj_r x1, sj_i x2, sj_i x3] s (some (sj_i q.1), q.2) := by
  obtain ⟨g, V⟩ := s
  unfold f_X3_goOn at h
  obtain ⟨ho, h1⟩ := e_ok_some h
  obtain ⟨q2, h2, rfl⟩ := sj_map_some h1
  obtain ⟨z1, hz1⟩ : ∃ z, x1 = some z := ⟨_, ho.2.1⟩
  subst hz1
  exact cg_X3_goOn ho.1 ho.2.2 h2
theorem dX3_seek_0 : decode cX3_seek 0 = .ok (.aload_n 0, 1) := by decide +kernel
theorem dX3_seek_1 : decode cX3_seek 1 = .ok (.iload_n 2, 1) := by decide +kernel
theorem dX3_seek_2 : decode cX3_seek 2 = .ok (.putfield 45, 3) := by decide +kernel
theorem dX3_seek_5 : decode cX3_seek 5 = .ok (.aload_n 0, 1) := by decide +kernel
theorem dX3_seek_6 : decode cX3_seek 6 = .ok (.iload_n 3, 1) := by decide +kernel
theorem dX3_seek_7 : decode cX3_seek 7 = .ok (.putfield 49, 3) := by decide +kernel
theorem dX3_seek_10 : decode cX3_seek 10 = .ok (.aload_n 0, 1) := by decide +kernel
theorem dX3_seek_11 : decode cX3_seek 11 = .ok (.iload 4, 2) := by decide +kernel
theorem dX3_seek_13 : decode cX3_seek 13 = .ok (.putfield 52, 3) := by decide +kernel
theorem dX3_seek_16 : decode cX3_seek 16 = .ok (.aload_n 0, 1) := by decide +kernel
theorem dX3_seek_17 : decode cX3_seek 17 = .ok (.aload_n 1, 1) := by decide +kernel
theorem dX3_seek_18 : decode cX3_seek 18 = .ok (.aload_n 0, 1) := by decide +kernel
theorem dX3_seek_19 : decode cX3_seek 19 = .ok (.getfield 45, 3) := by decide +kernel
theorem dX3_seek_22 : decode cX3_seek 22 = .ok (.aload_n 0, 1) := by decide +kernel
theorem dX3_seek_23 : decode cX3_seek 23 = .ok (.getfield 49, 3) := by decide +kernel
theorem dX3_seek_26 : decode cX3_seek 26 = .ok (.aload_n 0, 1) := by decide +kernel
theorem dX3_seek_27 : decode cX3_seek 27 = .ok (.getfield 52, 3) := by decide +kernel
theorem dX3_seek_30 : decode cX3_seek 30 = .ok (.iload 6, 2) := by decide +kernel
theorem dX3_seek_32 : decode cX3_seek 32 = .ok (.sipush 20001, 3) := by decide +kernel
theorem dX3_seek_35 : decode cX3_seek 35 = .ok (.invokevirtual 55, 3) := by decide +kernel
theorem dX3_seek_38 : decode cX3_seek 38 = .ok (.istore 7, 2) := by decide +kernel
theorem dX3_seek_40 : decode cX3_seek 40 = .ok (.aload_n 0, 1) := by decide +kernel
theorem dX3_seek_41 : decode cX3_seek 41 = .ok (.iload 7, 2) := by decide +kernel
theorem dX3_seek_43 : decode cX3_seek 43 = .ok (.iconst (-1), 1) := by decide +kernel
theorem dX3_seek_44 : decode cX3_seek 44 = .ok (.if_icmp .ne 9, 3) := by decide +kernel
theorem dX3_seek_47 : decode cX3_seek 47 = .ok (.sipush 20001, 3) := by decide +kernel
theorem dX3_seek_50 : decode cX3_seek 50 = .ok (.goto 5, 3) := by decide +kernel
theorem dX3_seek_53 : decode cX3_seek 53 = .ok (.iload 7, 2) := by decide +kernel
theorem dX3_seek_55 : decode cX3_seek 55 = .ok (.putfield 59, 3) := by decide +kernel
theorem dX3_seek_58 : decode cX3_seek 58 = .ok (.iload 5, 2) := by decide +kernel
theorem dX3_seek_60 : decode cX3_seek 60 = .ok (.istore 8, 2) := by decide +kernel
theorem dX3_seek_62 : decode cX3_seek 62 = .ok (.aload_n 0, 1) := by decide +kernel
theorem dX3_seek_63 : decode cX3_seek 63 = .ok (.iconst 0, 1) := by decide +kernel
theorem dX3_seek_64 : decode cX3_seek 64 = .ok (.putfield 62, 3) := by decide +kernel
theorem dX3_seek_67 : decode cX3_seek 67 = .ok (.aload_n 0, 1) := by decide +kernel
theorem dX3_seek_68 : decode cX3_seek 68 = .ok (.getfield 62, 3) := by decide +kernel
theorem dX3_seek_71 : decode cX3_seek 71 = .ok (.bipush 60, 2) := by decide +kernel
theorem dX3_seek_73 : decode cX3_seek 73 = .ok (.if_icmp .ge 39, 3) := by decide +kernel
theorem dX3_seek_76 : decode cX3_seek 76 = .ok (.iload 8, 2) := by decide +kernel
theorem dX3_seek_78 : decode cX3_seek 78 = .ok (.ifCond .le 34, 3) := by decide +kernel
theorem dX3_seek_81 : decode cX3_seek 81 = .ok (.aload_n 0, 1) := by decide +kernel
theorem dX3_seek_82 : decode cX3_seek 82 = .ok (.aload_n 1, 1) := by decide +kernel
theorem dX3_seek_83 : decode cX3_seek 83 = .ok (.iload 8, 2) := by decide +kernel
theorem dX3_seek_85 : decode cX3_seek 85 = .ok (.iload 6, 2) := by decide +kernel
theorem dX3_seek_87 : decode cX3_seek 87 = .ok (.invokevirtual 65, 3) := by decide +kernel
theorem dX3_seek_90 : decode cX3_seek 90 = .ok (.ifCond .ne 9, 3) := by decide +kernel
theorem dX3_seek_93 : decode cX3_seek 93 = .ok (.iload 8, 2) := by decide +kernel
theorem dX3_seek_95 : decode cX3_seek 95 = .ok (.iconst 2, 1) := by decide +kernel
theorem dX3_seek_96 : decode cX3_seek 96 = .ok (.idiv, 1) := by decide +kernel
theorem dX3_seek_97 : decode cX3_seek 97 = .ok (.istore 8, 2) := by decide +kernel
theorem dX3_seek_99 : decode cX3_seek 99 = .ok (.aload_n 0, 1) := by decide +kernel
theorem dX3_seek_100 : decode cX3_seek 100 = .ok (.dup, 1) := by decide +kernel
theorem dX3_seek_101 : decode cX3_seek 101 = .ok (.getfield 62, 3) := by decide +kernel
theorem dX3_seek_104 : decode cX3_seek 104 = .ok (.iconst 1, 1) := by decide +kernel
theorem dX3_seek_105 : decode cX3_seek 105 = .ok (.iadd, 1) := by decide +kernel
theorem dX3_seek_106 : decode cX3_seek 106 = .ok (.putfield 62, 3) := by decide +kernel
theorem dX3_seek_109 : decode cX3_seek 109 = .ok (.goto (-42), 3) := by decide +kernel
theorem dX3_seek_112 : decode cX3_seek 112 = .ok (.aload_n 0, 1) := by decide +kernel
theorem dX3_seek_113 : decode cX3_seek 113 = .ok (.getfield 59, 3) := by decide +kernel
theorem dX3_seek_116 : decode cX3_seek 116 = .ok (.sipush 20000, 3) := by decide +kernel
theorem dX3_seek_119 : decode cX3_seek 119 = .ok (.if_icmp .gt 7, 3) := by decide +kernel
theorem dX3_seek_122 : decode cX3_seek 122 = .ok (.iconst 1, 1) := by decide +kernel
theorem dX3_seek_123 : decode cX3_seek 123 = .ok (.goto 4, 3) := by decide +kernel
theorem dX3_seek_126 : decode cX3_seek 126 = .ok (.iconst 0, 1) := by decide +kernel
theorem dX3_seek_127 : decode cX3_seek 127 = .ok (.ireturn, 1) := by decide +kernel
set_option maxHeartbeats 4000000 in
theorem st_X3_seek_99 {X : sj_X} {g : sj_G} {s0 : sj_Mem} {N : Nat} {q : Int × sj_VV} {k67 : Nat → Nat → Int → Int → sj_VV → Option (Int × sj_VV)} (hk67 : ∀ (a0 : Nat) (x1 : Nat) (x6 : Int) (x8 : Int) (V : sj_VV), OK3 g a0 → OK0 g x1 → k67 a0 x1 x6 x8 V = some q → sj_T X m_X3_seek s0 (some (sj_i q.1), (g, q.2)) 67 [some (sj_r (some a0)), some (sj_r (some x1)), none, none, none, none, some (sj_i x6), none, some (sj_i x8)] [] (g, V)) :
    ∀ (a0 : Nat) (x1 : Nat) (x6 : Int) (x8 : Int) (V : sj_VV), OK3 g a0 → OK0 g x1 → g_X3_seek_99 N k67 a0 x1 x6 x8 V = some q → sj_T X m_X3_seek s0 (some (sj_i q.1), (g, q.2)) 99 [some (sj_r (some a0)), some (sj_r (some x1)), none, none, none, none, some (sj_i x6), none, some (sj_i x8)] [] (g, V) := by
  intro a0 x1 x6 x8 V ha0 hx1 h
  unfold g_X3_seek_99 at h
  refine r_aload_n (pc := 99) dX3_seek_99 rfl rfl ?_
  refine r_dup (pc := 100) dX3_seek_100 rfl ?_
  refine r_gIs (pc := 101) dX3_seek_101 fw_X3_62 rfl (ok3 ha0) ?_
  refine r_iconst (pc := 104) dX3_seek_104 ?_
  refine r_iadd (pc := 105) dX3_seek_105 ?_
  refine r_pIs (pc := 106) h dX3_seek_106 fw_X3_62 rfl rfl (nf3_6) (ok3 ha0) (fun V1 h => ?_)
  refine r_goto (pc := 109) (tgt := 67) dX3_seek_109 (by decide) ?_
  exact sj_weak (l2 := [some (sj_r (some a0)), some (sj_r (some x1)), none, none, none, none, some (sj_i x6), none, some (sj_i x8)]) (⟨rfl, ⟨rfl, ⟨rfl, ⟨rfl, trivial⟩⟩⟩⟩) (hk67 a0 x1 x6 x8 V1 ha0 hx1 h)
set_option maxHeartbeats 4000000 in
theorem st_X3_seek_112 {X : sj_X} {g : sj_G} {s0 : sj_Mem} {N : Nat} {q : Int × sj_VV} :
    ∀ (a0 : Nat) (V : sj_VV), OK3 g a0 → g_X3_seek_112 N a0 V = some q → sj_T X m_X3_seek s0 (some (sj_i q.1), (g, q.2)) 112 [some (sj_r (some a0)), none, none, none, none, none, none, none, none] [] (g, V) := by
  intro a0 V ha0 h
  unfold g_X3_seek_112 at h
  refine r_aload_n (pc := 112) dX3_seek_112 rfl rfl ?_
  refine r_gIs (pc := 113) dX3_seek_113 fw_X3_59 rfl (ok3 ha0) ?_
  refine r_sipush (pc := 116) dX3_seek_116 ⟨by decide, by decide⟩ ?_
  refine r_icmp_gt (pc := 119) (tgt := 126) h dX3_seek_119 (by decide) (fun h => ?_) (fun h => ?_)
  · refine r_iconst (pc := 126) dX3_seek_126 ?_
    exact r_zrets (pc := 127) h rfl dX3_seek_127
  · refine r_iconst (pc := 122) dX3_seek_122 ?_
    refine r_goto (pc := 123) (tgt := 127) dX3_seek_123 (by decide) ?_
    exact r_zrets (pc := 127) h rfl dX3_seek_127
set_option maxHeartbeats 4000000 in
theorem st_X3_seek_67_b {X : sj_X} {g : sj_G} {s0 : sj_Mem} {N : Nat} {q : Int × sj_VV} {k67 : Nat → Nat → Int → Int → sj_VV → Option (Int × sj_VV)} (hk67 : ∀ (a0 : Nat) (x1 : Nat) (x6 : Int) (x8 : Int) (V : sj_VV), OK3 g a0 → OK0 g x1 → k67 a0 x1 x6 x8 V = some q → sj_T X m_X3_seek s0 (some (sj_i q.1), (g, q.2)) 67 [some (sj_r (some a0)), some (sj_r (some x1)), none, none, none, none, some (sj_i x6), none, some (sj_i x8)] [] (g, V)) :
    ∀ (a0 : Nat) (x1 : Nat) (x6 : Int) (x8 : Int) (V : sj_VV), OK3 g a0 → OK0 g x1 → g_X3_seek_67_b N k67 a0 x1 x6 x8 V = some q → sj_T X m_X3_seek s0 (some (sj_i q.1), (g, q.2)) 67 [some (sj_r (some a0)), some (sj_r (some x1)), none, none, none, none, some (sj_i x6), none, some (sj_i x8)] [] (g, V) := by
  intro a0 x1 x6 x8 V ha0 hx1 h
  unfold g_X3_seek_67_b at h
  refine r_aload_n (pc := 67) dX3_seek_67 rfl rfl ?_
  refine r_gIs (pc := 68) dX3_seek_68 fw_X3_62 rfl (ok3 ha0) ?_
  refine r_bipush (pc := 71) dX3_seek_71 ⟨by decide, by decide⟩ ?_
  refine r_icmp_ge (pc := 73) (tgt := 112) h dX3_seek_73 (by decide) (fun h => ?_) (fun h => ?_)
  · exact sj_weak (l2 := [some (sj_r (some a0)), none, none, none, none, none, none, none, none]) (⟨rfl, trivial⟩) (st_X3_seek_112 a0 V ha0 h)
  · refine r_iload (pc := 76) dX3_seek_76 rfl ?_
    refine r_if_le (pc := 78) (tgt := 112) h dX3_seek_78 (by decide) (fun h => ?_) (fun h => ?_)
    · exact sj_weak (l2 := [some (sj_r (some a0)), none, none, none, none, none, none, none, none]) (⟨rfl, trivial⟩) (st_X3_seek_112 a0 V ha0 h)
    · refine r_aload_n (pc := 81) dX3_seek_81 rfl rfl ?_
      refine r_aload_n (pc := 82) dX3_seek_82 rfl rfl ?_
      refine r_iload (pc := 83) dX3_seek_83 rfl ?_
      refine r_iload (pc := 85) dX3_seek_85 rfl ?_
      refine r_callVs (pc := 87) (fun v => some (sj_i v)) (As := [sj_r (some x1), sj_i x8, sj_i x6]) (rest := []) (b := a0) (ok3 ha0) h dX3_seek_87 mw_X3_65 vw_X3_goOn (fun _ _ hc => cg_X3_goOn ha0 hx1 hc) rfl ⟨(Nat.le_of_ble_eq_true rfl), (Nat.le_of_ble_eq_true rfl)⟩ (Nat.le_of_ble_eq_true rfl) rfl (fun v2 V1 h => ?_)
      refine r_if_ne (pc := 90) (tgt := 99) h dX3_seek_90 (by decide) (fun h => ?_) (fun h => ?_)
      · refine r_iload (pc := 93) dX3_seek_93 rfl ?_
        refine r_iconst (pc := 95) dX3_seek_95 ?_
        refine r_idiv (pc := 96) h dX3_seek_96 (fun v3 h => ?_)
        refine r_istore (ln := [some (sj_r (some a0)), some (sj_r (some x1)), none, none, none, none, some (sj_i x6), none, some (sj_i v3)]) (pc := 97) dX3_seek_97 (Nat.le_of_ble_eq_true rfl) rfl ?_
        exact sj_weak (l2 := [some (sj_r (some a0)), some (sj_r (some x1)), none, none, none, none, some (sj_i x6), none, some (sj_i v3)]) (⟨rfl, ⟨rfl, ⟨rfl, ⟨rfl, trivial⟩⟩⟩⟩) (st_X3_seek_99 hk67 a0 x1 x6 v3 V1 ha0 hx1 h)
      · exact sj_weak (l2 := [some (sj_r (some a0)), some (sj_r (some x1)), none, none, none, none, some (sj_i x6), none, some (sj_i x8)]) (⟨rfl, ⟨rfl, ⟨rfl, ⟨rfl, trivial⟩⟩⟩⟩) (st_X3_seek_99 hk67 a0 x1 x6 x8 V1 ha0 hx1 h)
set_option maxHeartbeats 4000000 in
theorem st_X3_seek_67 {X : sj_X} {g : sj_G} {s0 : sj_Mem} {N : Nat} {q : Int × sj_VV} :
    ∀ (n : Nat) (a0 : Nat) (x1 : Nat) (x6 : Int) (x8 : Int) (V : sj_VV), OK3 g a0 → OK0 g x1 → g_X3_seek_67 N n a0 x1 x6 x8 V = some q → sj_T X m_X3_seek s0 (some (sj_i q.1), (g, q.2)) 67 [some (sj_r (some a0)), some (sj_r (some x1)), none, none, none, none, some (sj_i x6), none, some (sj_i x8)] [] (g, V) := by
  intro n
  induction n with
  | zero => intro a0 x1 x6 x8 V ha0 hx1 h; exact nomatch h
  | succ n ih => intro a0 x1 x6 x8 V ha0 hx1 h; exact st_X3_seek_67_b (N := N) ih a0 x1 x6 x8 V ha0 hx1 h
set_option maxHeartbeats 4000000 in
theorem st_X3_seek_55 {X : sj_X} {g : sj_G} {s0 : sj_Mem} {N : Nat} {q : Int × sj_VV} :
    ∀ (a0 : Nat) (x1 : Nat) (x5 : Int) (x6 : Int) (y0 : Int) (y1 : Nat) (V : sj_VV), OK3 g a0 → OK0 g x1 → OK3 g y1 → g_X3_seek_55 N a0 x1 x5 x6 y0 y1 V = some q → sj_T X m_X3_seek s0 (some (sj_i q.1), (g, q.2)) 55 [some (sj_r (some a0)), some (sj_r (some x1)), none, none, none, some (sj_i x5), some (sj_i x6), none, none] [(sj_i y0), (sj_r (some y1))] (g, V) := by
  intro a0 x1 x5 x6 y0 y1 V ha0 hx1 hy1 h
  unfold g_X3_seek_55 at h
  refine r_pIs (pc := 55) h dX3_seek_55 fw_X3_59 rfl rfl (nf3_5) (ok3 hy1) (fun V1 h => ?_)
  refine r_iload (pc := 58) dX3_seek_58 rfl ?_
  refine r_istore (ln := [some (sj_r (some a0)), some (sj_r (some x1)), none, none, none, some (sj_i x5), some (sj_i x6), none, some (sj_i x5)]) (pc := 60) dX3_seek_60 (Nat.le_of_ble_eq_true rfl) rfl ?_
  refine r_aload_n (pc := 62) dX3_seek_62 rfl rfl ?_
  refine r_iconst (pc := 63) dX3_seek_63 ?_
  refine r_pIs (pc := 64) h dX3_seek_64 fw_X3_62 rfl rfl (nf3_6) (ok3 ha0) (fun V2 h => ?_)
  exact sj_weak (l2 := [some (sj_r (some a0)), some (sj_r (some x1)), none, none, none, none, some (sj_i x6), none, some (sj_i x5)]) (⟨rfl, ⟨rfl, ⟨rfl, ⟨rfl, trivial⟩⟩⟩⟩) (st_X3_seek_67 N a0 x1 x6 x5 V2 ha0 hx1 h)
set_option maxHeartbeats 4000000 in
theorem st_X3_seek_0 {X : sj_X} {g : sj_G} {s0 : sj_Mem} {N : Nat} {q : Int × sj_VV} :
    ∀ (a0 : Nat) (x1 : Nat) (x2 : Int) (x3 : Int) (x4 : Int) (x5 : Int) (x6 : Int) (V : sj_VV), OK3 g a0 → OK0 g x1 → g_X3_seek N a0 x1 x2 x3 x4 x5 x6 V = some q → sj_T X m_X3_seek s0 (some (sj_i q.1), (g, q.2)) 0 [some (sj_r (some a0)), some (sj_r (some x1)), some (sj_i x2), some (sj_i x3), some (sj_i x4), some (sj_i x5), some (sj_i x6), none, none] [] (g, V) := by
  intro a0 x1 x2 x3 x4 x5 x6 V ha0 hx1 h
  unfold g_X3_seek at h
  refine r_aload_n (pc := 0) dX3_seek_0 rfl rfl ?_
  refine r_iload_n (pc := 1) dX3_seek_1 rfl rfl ?_
  refine r_pIs (pc := 2) h dX3_seek_2 fw_X3_45 rfl rfl (nf3_2) (ok3 ha0) (fun V1 h => ?_)
  refine r_aload_n (pc := 5) dX3_seek_5 rfl rfl ?_
  refine r_iload_n (pc := 6) dX3_seek_6 rfl rfl ?_
  refine r_pIs (pc := 7) h dX3_seek_7 fw_X3_49 rfl rfl (nf3_3) (ok3 ha0) (fun V2 h => ?_)
  refine r_aload_n (pc := 10) dX3_seek_10 rfl rfl ?_
  refine r_iload (pc := 11) dX3_seek_11 rfl ?_
  refine r_pIs (pc := 13) h dX3_seek_13 fw_X3_52 rfl rfl (nf3_4) (ok3 ha0) (fun V3 h => ?_)
  refine r_aload_n (pc := 16) dX3_seek_16 rfl rfl ?_
  refine r_aload_n (pc := 17) dX3_seek_17 rfl rfl ?_
  refine r_aload_n (pc := 18) dX3_seek_18 rfl rfl ?_
  refine r_gIs (pc := 19) dX3_seek_19 fw_X3_45 rfl (ok3 ha0) ?_
  refine r_aload_n (pc := 22) dX3_seek_22 rfl rfl ?_
  refine r_gIs (pc := 23) dX3_seek_23 fw_X3_49 rfl (ok3 ha0) ?_
  refine r_aload_n (pc := 26) dX3_seek_26 rfl rfl ?_
  refine r_gIs (pc := 27) dX3_seek_27 fw_X3_52 rfl (ok3 ha0) ?_
  refine r_iload (pc := 30) dX3_seek_30 rfl ?_
  refine r_sipush (pc := 32) dX3_seek_32 ⟨by decide, by decide⟩ ?_
  refine r_callVs (pc := 35) (fun v => some (sj_i v)) (As := [sj_r (some x1), sj_i (V3 a0 2), sj_i (V3 a0 3), sj_i (V3 a0 4), sj_i x6, sj_i 20001]) (rest := []) (b := a0) (ok3 ha0) h dX3_seek_35 mw_X3_55 vw_X3_ask (fun _ _ hc => cg_X3_ask ha0 hx1 hc) rfl ⟨(Nat.le_of_ble_eq_true rfl), (Nat.le_of_ble_eq_true rfl)⟩ (Nat.le_of_ble_eq_true rfl) rfl (fun v5 V4 h => ?_)
  refine r_istore (ln := [some (sj_r (some a0)), some (sj_r (some x1)), some (sj_i x2), some (sj_i x3), some (sj_i x4), some (sj_i x5), some (sj_i x6), some (sj_i v5), none]) (pc := 38) dX3_seek_38 (Nat.le_of_ble_eq_true rfl) rfl ?_
  refine r_aload_n (pc := 40) dX3_seek_40 rfl rfl ?_
  refine r_iload (pc := 41) dX3_seek_41 rfl ?_
  refine r_iconst (pc := 43) dX3_seek_43 ?_
  refine r_icmp_ne (pc := 44) (tgt := 53) h dX3_seek_44 (by decide) (fun h => ?_) (fun h => ?_)
  · refine r_sipush (pc := 47) dX3_seek_47 ⟨by decide, by decide⟩ ?_
    refine r_goto (pc := 50) (tgt := 55) dX3_seek_50 (by decide) ?_
    exact sj_weak (l2 := [some (sj_r (some a0)), some (sj_r (some x1)), none, none, none, some (sj_i x5), some (sj_i x6), none, none]) (⟨rfl, ⟨rfl, ⟨rfl, ⟨rfl, trivial⟩⟩⟩⟩) (st_X3_seek_55 a0 x1 x5 x6 20001 a0 V4 ha0 hx1 ha0 h)
  · refine r_iload (pc := 53) dX3_seek_53 rfl ?_
    exact sj_weak (l2 := [some (sj_r (some a0)), some (sj_r (some x1)), none, none, none, some (sj_i x5), some (sj_i x6), none, none]) (⟨rfl, ⟨rfl, ⟨rfl, ⟨rfl, trivial⟩⟩⟩⟩) (st_X3_seek_55 a0 x1 x5 x6 v5 a0 V4 ha0 hx1 ha0 h)
set_option maxHeartbeats 4000000 in
theorem cg_X3_seek {X : sj_X} {g : sj_G} {N : Nat} {a0 : Nat} {x1 : Nat} {x2 : Int} {x3 : Int} {x4 : Int} {x5 : Int} {x6 : Int} {V : sj_VV} {q : Int × sj_VV} (ha0 : OK3 g a0) (hx1 : OK0 g x1) (h : g_X3_seek N a0 x1 x2 x3 x4 x5 x6 V = some q) : sj_C X m_X3_seek [sj_r (some a0), sj_r (some x1), sj_i x2, sj_i x3, sj_i x4, sj_i x5, sj_i x6] (g, V) (some (sj_i q.1), (g, q.2)) :=
  sj_C_of (by decide +kernel) (Nat.le_of_ble_eq_true rfl) (lo := [some (sj_r (some a0)), some (sj_r (some x1)), some (sj_i x2), some (sj_i x3), some (sj_i x4), some (sj_i x5), some (sj_i x6), none, none]) rfl (sj_weak (l2 := [some (sj_r (some a0)), some (sj_r (some x1)), some (sj_i x2), some (sj_i x3), some (sj_i x4), some (sj_i x5), some (sj_i x6), none, none]) (⟨rfl, ⟨rfl, ⟨rfl, ⟨rfl, ⟨rfl, ⟨rfl, ⟨rfl, trivial⟩⟩⟩⟩⟩⟩⟩) (st_X3_seek_0 a0 x1 x2 x3 x4 x5 x6 V ha0 hx1 h))
set_option maxHeartbeats 4000000 in
theorem c_X3_seek {X : sj_X} {N : Nat} {a0 : Nat} {x1 : Option Nat} {x2 : Int} {x3 : Int} {x4 : Int} {x5 : Int} {x6 : Int} {s : sj_Mem} {q : Int × sj_Mem} (h : f_X3_seek N a0 x1 x2 x3 x4 x5 x6 s = some q) : sj_C X m_X3_seek [sj_r (some a0), sj_r x1, sj_i x2, sj_i x3, sj_i x4, sj_i x5, sj_i x6] s (some (sj_i q.1), q.2) := by
  obtain ⟨g, V⟩ := s
  unfold f_X3_seek at h
  obtain ⟨ho, h1⟩ := e_ok_some h
  obtain ⟨q2, h2, rfl⟩ := sj_map_some h1
  obtain ⟨z1, hz1⟩ : ∃ z, x1 = some z := ⟨_, ho.2.1⟩
  subst hz1
  exact cg_X3_seek ho.1 ho.2.2 h2
theorem dX4_burden_0 : decode cX4_burden 0 = .ok (.iconst 0, 1) := by decide +kernel
theorem dX4_burden_1 : decode cX4_burden 1 = .ok (.istore 4, 2) := by decide +kernel
theorem dX4_burden_3 : decode cX4_burden 3 = .ok (.iload 4, 2) := by decide +kernel
theorem dX4_burden_5 : decode cX4_burden 5 = .ok (.aload_n 0, 1) := by decide +kernel
theorem dX4_burden_6 : decode cX4_burden 6 = .ok (.getfield 50, 3) := by decide +kernel
theorem dX4_burden_9 : decode cX4_burden 9 = .ok (.if_icmp .ge 71, 3) := by decide +kernel
theorem dX4_burden_12 : decode cX4_burden 12 = .ok (.iload_n 1, 1) := by decide +kernel
theorem dX4_burden_13 : decode cX4_burden 13 = .ok (.iload 4, 2) := by decide +kernel
theorem dX4_burden_15 : decode cX4_burden 15 = .ok (.iadd, 1) := by decide +kernel
theorem dX4_burden_16 : decode cX4_burden 16 = .ok (.istore 5, 2) := by decide +kernel
theorem dX4_burden_18 : decode cX4_burden 18 = .ok (.iload 5, 2) := by decide +kernel
theorem dX4_burden_20 : decode cX4_burden 20 = .ok (.iload_n 2, 1) := by decide +kernel
theorem dX4_burden_21 : decode cX4_burden 21 = .ok (.if_icmp .lt 23, 3) := by decide +kernel
theorem dX4_burden_24 : decode cX4_burden 24 = .ok (.iload 5, 2) := by decide +kernel
theorem dX4_burden_26 : decode cX4_burden 26 = .ok (.iload_n 3, 1) := by decide +kernel
theorem dX4_burden_27 : decode cX4_burden 27 = .ok (.if_icmp .gt 17, 3) := by decide +kernel
theorem dX4_burden_30 : decode cX4_burden 30 = .ok (.aload_n 0, 1) := by decide +kernel
theorem dX4_burden_31 : decode cX4_burden 31 = .ok (.getfield 15, 3) := by decide +kernel
theorem dX4_burden_34 : decode cX4_burden 34 = .ok (.iload 4, 2) := by decide +kernel
theorem dX4_burden_36 : decode cX4_burden 36 = .ok (.dup2, 1) := by decide +kernel
theorem dX4_burden_37 : decode cX4_burden 37 = .ok (.iaload, 1) := by decide +kernel
theorem dX4_burden_38 : decode cX4_burden 38 = .ok (.aload_n 0, 1) := by decide +kernel
theorem dX4_burden_39 : decode cX4_burden 39 = .ok (.getfield 43, 3) := by decide +kernel
theorem dX4_burden_42 : decode cX4_burden 42 = .ok (.iadd, 1) := by decide +kernel
theorem dX4_burden_43 : decode cX4_burden 43 = .ok (.iastore, 1) := by decide +kernel
theorem dX4_burden_44 : decode cX4_burden 44 = .ok (.iload 5, 2) := by decide +kernel
theorem dX4_burden_46 : decode cX4_burden 46 = .ok (.iconst 1, 1) := by decide +kernel
theorem dX4_burden_47 : decode cX4_burden 47 = .ok (.iadd, 1) := by decide +kernel
theorem dX4_burden_48 : decode cX4_burden 48 = .ok (.iload_n 2, 1) := by decide +kernel
theorem dX4_burden_49 : decode cX4_burden 49 = .ok (.if_icmp .lt 25, 3) := by decide +kernel
theorem dX4_burden_52 : decode cX4_burden 52 = .ok (.iload 5, 2) := by decide +kernel
theorem dX4_burden_54 : decode cX4_burden 54 = .ok (.iconst 1, 1) := by decide +kernel
theorem dX4_burden_55 : decode cX4_burden 55 = .ok (.iadd, 1) := by decide +kernel
theorem dX4_burden_56 : decode cX4_burden 56 = .ok (.iload_n 3, 1) := by decide +kernel
theorem dX4_burden_57 : decode cX4_burden 57 = .ok (.if_icmp .gt 17, 3) := by decide +kernel
theorem dX4_burden_60 : decode cX4_burden 60 = .ok (.aload_n 0, 1) := by decide +kernel
theorem dX4_burden_61 : decode cX4_burden 61 = .ok (.getfield 15, 3) := by decide +kernel
theorem dX4_burden_64 : decode cX4_burden 64 = .ok (.iload 4, 2) := by decide +kernel
theorem dX4_burden_66 : decode cX4_burden 66 = .ok (.dup2, 1) := by decide +kernel
theorem dX4_burden_67 : decode cX4_burden 67 = .ok (.iaload, 1) := by decide +kernel
theorem dX4_burden_68 : decode cX4_burden 68 = .ok (.aload_n 0, 1) := by decide +kernel
theorem dX4_burden_69 : decode cX4_burden 69 = .ok (.getfield 43, 3) := by decide +kernel
theorem dX4_burden_72 : decode cX4_burden 72 = .ok (.iadd, 1) := by decide +kernel
theorem dX4_burden_73 : decode cX4_burden 73 = .ok (.iastore, 1) := by decide +kernel
theorem dX4_burden_74 : decode cX4_burden 74 = .ok (.iinc 4 1, 3) := by decide +kernel
theorem dX4_burden_77 : decode cX4_burden 77 = .ok (.goto (-74), 3) := by decide +kernel
theorem dX4_burden_80 : decode cX4_burden 80 = .ok (.return_, 1) := by decide +kernel
set_option maxHeartbeats 4000000 in
theorem st_X4_burden_74 {X : sj_X} {g : sj_G} {s0 : sj_Mem} {N : Nat} {q : Unit × sj_VV} {k3 : Nat → Int → Int → Int → Int → sj_VV → Option (Unit × sj_VV)} (hk3 : ∀ (a0 : Nat) (x1 : Int) (x2 : Int) (x3 : Int) (x4 : Int) (V : sj_VV), OK4 g a0 → k3 a0 x1 x2 x3 x4 V = some q → sj_T X m_X4_burden s0 (none, (g, q.2)) 3 [some (sj_r (some a0)), some (sj_i x1), some (sj_i x2), some (sj_i x3), some (sj_i x4), none] [] (g, V)) :
    ∀ (a0 : Nat) (x1 : Int) (x2 : Int) (x3 : Int) (x4 : Int) (V : sj_VV), OK4 g a0 → g_X4_burden_74 N k3 a0 x1 x2 x3 x4 V = some q → sj_T X m_X4_burden s0 (none, (g, q.2)) 74 [some (sj_r (some a0)), some (sj_i x1), some (sj_i x2), some (sj_i x3), some (sj_i x4), none] [] (g, V) := by
  intro a0 x1 x2 x3 x4 V ha0 h
  unfold g_X4_burden_74 at h
  refine r_iinc (ln := fun w => [some (sj_r (some a0)), some (sj_i x1), some (sj_i x2), some (sj_i x3), some (sj_i w), none]) (pc := 74) h dX4_burden_74 rfl (Nat.le_of_ble_eq_true rfl) (fun _ => rfl) (fun v1 h => ?_)
  refine r_goto (pc := 77) (tgt := 3) dX4_burden_77 (by decide) ?_
  exact sj_weak (l2 := [some (sj_r (some a0)), some (sj_i x1), some (sj_i x2), some (sj_i x3), some (sj_i v1), none]) (⟨rfl, ⟨rfl, ⟨rfl, ⟨rfl, ⟨rfl, trivial⟩⟩⟩⟩⟩) (hk3 a0 x1 x2 x3 v1 V ha0 h)
set_option maxHeartbeats 4000000 in
theorem st_X4_burden_44 {X : sj_X} {g : sj_G} {s0 : sj_Mem} {N : Nat} {q : Unit × sj_VV} {k3 : Nat → Int → Int → Int → Int → sj_VV → Option (Unit × sj_VV)} (hk3 : ∀ (a0 : Nat) (x1 : Int) (x2 : Int) (x3 : Int) (x4 : Int) (V : sj_VV), OK4 g a0 → k3 a0 x1 x2 x3 x4 V = some q → sj_T X m_X4_burden s0 (none, (g, q.2)) 3 [some (sj_r (some a0)), some (sj_i x1), some (sj_i x2), some (sj_i x3), some (sj_i x4), none] [] (g, V)) :
    ∀ (a0 : Nat) (x1 : Int) (x2 : Int) (x3 : Int) (x4 : Int) (x5 : Int) (V : sj_VV), OK4 g a0 → g_X4_burden_44 N k3 a0 x1 x2 x3 x4 x5 V = some q → sj_T X m_X4_burden s0 (none, (g, q.2)) 44 [some (sj_r (some a0)), some (sj_i x1), some (sj_i x2), some (sj_i x3), some (sj_i x4), some (sj_i x5)] [] (g, V) := by
  intro a0 x1 x2 x3 x4 x5 V ha0 h
  unfold g_X4_burden_44 at h
  refine r_iload (pc := 44) dX4_burden_44 rfl ?_
  refine r_iconst (pc := 46) dX4_burden_46 ?_
  refine r_iadd (pc := 47) dX4_burden_47 ?_
  refine r_iload_n (pc := 48) dX4_burden_48 rfl rfl ?_
  refine r_icmp_lt (pc := 49) (tgt := 74) h dX4_burden_49 (by decide) (fun h => ?_) (fun h => ?_)
  · exact sj_weak (l2 := [some (sj_r (some a0)), some (sj_i x1), some (sj_i x2), some (sj_i x3), some (sj_i x4), none]) (⟨rfl, ⟨rfl, ⟨rfl, ⟨rfl, ⟨rfl, trivial⟩⟩⟩⟩⟩) (st_X4_burden_74 hk3 a0 x1 x2 x3 x4 V ha0 h)
  · refine r_iload (pc := 52) dX4_burden_52 rfl ?_
    refine r_iconst (pc := 54) dX4_burden_54 ?_
    refine r_iadd (pc := 55) dX4_burden_55 ?_
    refine r_iload_n (pc := 56) dX4_burden_56 rfl rfl ?_
    refine r_icmp_gt (pc := 57) (tgt := 74) h dX4_burden_57 (by decide) (fun h => ?_) (fun h => ?_)
    · exact sj_weak (l2 := [some (sj_r (some a0)), some (sj_i x1), some (sj_i x2), some (sj_i x3), some (sj_i x4), none]) (⟨rfl, ⟨rfl, ⟨rfl, ⟨rfl, ⟨rfl, trivial⟩⟩⟩⟩⟩) (st_X4_burden_74 hk3 a0 x1 x2 x3 x4 V ha0 h)
    · refine r_aload_n (pc := 60) dX4_burden_60 rfl rfl ?_
      refine r_gRs (b := a0 + 2) (pc := 61) dX4_burden_61 fw_X4_15 rfl (ok4 ha0) (ok4_1 ha0).1 ?_
      refine r_iload (pc := 64) dX4_burden_64 rfl ?_
      refine r_dup2_11 (pc := 66) dX4_burden_66 rfl rfl ?_
      refine r_ialoads (pc := 67) h dX4_burden_67 (ok4_1 ha0).2 (fun h => ?_)
      refine r_aload_n (pc := 68) dX4_burden_68 rfl rfl ?_
      refine r_gIs (pc := 69) dX4_burden_69 fw_X4_43 rfl (ok4 ha0) ?_
      refine r_iadd (pc := 72) dX4_burden_72 ?_
      refine r_iastores (pc := 73) h dX4_burden_73 (ok4_1 ha0).2 (fun V1 h => ?_)
      exact sj_weak (l2 := [some (sj_r (some a0)), some (sj_i x1), some (sj_i x2), some (sj_i x3), some (sj_i x4), none]) (⟨rfl, ⟨rfl, ⟨rfl, ⟨rfl, ⟨rfl, trivial⟩⟩⟩⟩⟩) (st_X4_burden_74 hk3 a0 x1 x2 x3 x4 V1 ha0 h)
set_option maxHeartbeats 4000000 in
theorem st_X4_burden_3_b {X : sj_X} {g : sj_G} {s0 : sj_Mem} {N : Nat} {q : Unit × sj_VV} {k3 : Nat → Int → Int → Int → Int → sj_VV → Option (Unit × sj_VV)} (hk3 : ∀ (a0 : Nat) (x1 : Int) (x2 : Int) (x3 : Int) (x4 : Int) (V : sj_VV), OK4 g a0 → k3 a0 x1 x2 x3 x4 V = some q → sj_T X m_X4_burden s0 (none, (g, q.2)) 3 [some (sj_r (some a0)), some (sj_i x1), some (sj_i x2), some (sj_i x3), some (sj_i x4), none] [] (g, V)) :
    ∀ (a0 : Nat) (x1 : Int) (x2 : Int) (x3 : Int) (x4 : Int) (V : sj_VV), OK4 g a0 → g_X4_burden_3_b N k3 a0 x1 x2 x3 x4 V = some q → sj_T X m_X4_burden s0 (none, (g, q.2)) 3 [some (sj_r (some a0)), some (sj_i x1), some (sj_i x2), some (sj_i x3), some (sj_i x4), none] [] (g, V) := by
  intro a0 x1 x2 x3 x4 V ha0 h
  unfold g_X4_burden_3_b at h
  refine r_iload (pc := 3) dX4_burden_3 rfl ?_
  refine r_aload_n (pc := 5) dX4_burden_5 rfl rfl ?_
  refine r_gIs (pc := 6) dX4_burden_6 fw_X4_50 rfl (ok4 ha0) ?_
  refine r_icmp_ge (pc := 9) (tgt := 80) h dX4_burden_9 (by decide) (fun h => ?_) (fun h => ?_)
  · exact r_vrets (pc := 80) h rfl dX4_burden_80
  · refine r_iload_n (pc := 12) dX4_burden_12 rfl rfl ?_
    refine r_iload (pc := 13) dX4_burden_13 rfl ?_
    refine r_iadd (pc := 15) dX4_burden_15 ?_
    refine r_istoreL (ln := fun w => [some (sj_r (some a0)), some (sj_i x1), some (sj_i x2), some (sj_i x3), some (sj_i x4), some (sj_i w)]) (pc := 16) h dX4_burden_16 (Nat.le_of_ble_eq_true rfl) (fun _ => rfl) (fun v1 h => ?_)
    refine r_iload (pc := 18) dX4_burden_18 rfl ?_
    refine r_iload_n (pc := 20) dX4_burden_20 rfl rfl ?_
    refine r_icmp_lt (pc := 21) (tgt := 44) h dX4_burden_21 (by decide) (fun h => ?_) (fun h => ?_)
    · exact sj_weak (l2 := [some (sj_r (some a0)), some (sj_i x1), some (sj_i x2), some (sj_i x3), some (sj_i x4), some (sj_i v1)]) (⟨rfl, ⟨rfl, ⟨rfl, ⟨rfl, ⟨rfl, ⟨rfl, trivial⟩⟩⟩⟩⟩⟩) (st_X4_burden_44 hk3 a0 x1 x2 x3 x4 v1 V ha0 h)
    · refine r_iload (pc := 24) dX4_burden_24 rfl ?_
      refine r_iload_n (pc := 26) dX4_burden_26 rfl rfl ?_
      refine r_icmp_gt (pc := 27) (tgt := 44) h dX4_burden_27 (by decide) (fun h => ?_) (fun h => ?_)
      · exact sj_weak (l2 := [some (sj_r (some a0)), some (sj_i x1), some (sj_i x2), some (sj_i x3), some (sj_i x4), some (sj_i v1)]) (⟨rfl, ⟨rfl, ⟨rfl, ⟨rfl, ⟨rfl, ⟨rfl, trivial⟩⟩⟩⟩⟩⟩) (st_X4_burden_44 hk3 a0 x1 x2 x3 x4 v1 V ha0 h)
      · refine r_aload_n (pc := 30) dX4_burden_30 rfl rfl ?_
        refine r_gRs (b := a0 + 2) (pc := 31) dX4_burden_31 fw_X4_15 rfl (ok4 ha0) (ok4_1 ha0).1 ?_
        refine r_iload (pc := 34) dX4_burden_34 rfl ?_
        refine r_dup2_11 (pc := 36) dX4_burden_36 rfl rfl ?_
        refine r_ialoads (pc := 37) h dX4_burden_37 (ok4_1 ha0).2 (fun h => ?_)
        refine r_aload_n (pc := 38) dX4_burden_38 rfl rfl ?_
        refine r_gIs (pc := 39) dX4_burden_39 fw_X4_43 rfl (ok4 ha0) ?_
        refine r_iadd (pc := 42) dX4_burden_42 ?_
        refine r_iastores (pc := 43) h dX4_burden_43 (ok4_1 ha0).2 (fun V2 h => ?_)
        exact sj_weak (l2 := [some (sj_r (some a0)), some (sj_i x1), some (sj_i x2), some (sj_i x3), some (sj_i x4), some (sj_i v1)]) (⟨rfl, ⟨rfl, ⟨rfl, ⟨rfl, ⟨rfl, ⟨rfl, trivial⟩⟩⟩⟩⟩⟩) (st_X4_burden_44 hk3 a0 x1 x2 x3 x4 v1 V2 ha0 h)
set_option maxHeartbeats 4000000 in
theorem st_X4_burden_3 {X : sj_X} {g : sj_G} {s0 : sj_Mem} {N : Nat} {q : Unit × sj_VV} :
    ∀ (n : Nat) (a0 : Nat) (x1 : Int) (x2 : Int) (x3 : Int) (x4 : Int) (V : sj_VV), OK4 g a0 → g_X4_burden_3 N n a0 x1 x2 x3 x4 V = some q → sj_T X m_X4_burden s0 (none, (g, q.2)) 3 [some (sj_r (some a0)), some (sj_i x1), some (sj_i x2), some (sj_i x3), some (sj_i x4), none] [] (g, V) := by
  intro n
  induction n with
  | zero => intro a0 x1 x2 x3 x4 V ha0 h; exact nomatch h
  | succ n ih => intro a0 x1 x2 x3 x4 V ha0 h; exact st_X4_burden_3_b (N := N) ih a0 x1 x2 x3 x4 V ha0 h
set_option maxHeartbeats 4000000 in
theorem st_X4_burden_0 {X : sj_X} {g : sj_G} {s0 : sj_Mem} {N : Nat} {q : Unit × sj_VV} :
    ∀ (a0 : Nat) (x1 : Int) (x2 : Int) (x3 : Int) (V : sj_VV), OK4 g a0 → g_X4_burden N a0 x1 x2 x3 V = some q → sj_T X m_X4_burden s0 (none, (g, q.2)) 0 [some (sj_r (some a0)), some (sj_i x1), some (sj_i x2), some (sj_i x3), none, none] [] (g, V) := by
  intro a0 x1 x2 x3 V ha0 h
  unfold g_X4_burden at h
  refine r_iconst (pc := 0) dX4_burden_0 ?_
  refine r_istore (ln := [some (sj_r (some a0)), some (sj_i x1), some (sj_i x2), some (sj_i x3), some (sj_i 0), none]) (pc := 1) dX4_burden_1 (Nat.le_of_ble_eq_true rfl) rfl ?_
  exact sj_weak (l2 := [some (sj_r (some a0)), some (sj_i x1), some (sj_i x2), some (sj_i x3), some (sj_i 0), none]) (⟨rfl, ⟨rfl, ⟨rfl, ⟨rfl, ⟨rfl, trivial⟩⟩⟩⟩⟩) (st_X4_burden_3 N a0 x1 x2 x3 0 V ha0 h)
set_option maxHeartbeats 4000000 in
theorem cg_X4_burden {X : sj_X} {g : sj_G} {N : Nat} {a0 : Nat} {x1 : Int} {x2 : Int} {x3 : Int} {V : sj_VV} {q : Unit × sj_VV} (ha0 : OK4 g a0) (h : g_X4_burden N a0 x1 x2 x3 V = some q) : sj_C X m_X4_burden [sj_r (some a0), sj_i x1, sj_i x2, sj_i x3] (g, V) (none, (g, q.2)) :=
  sj_C_of (by decide +kernel) (Nat.le_of_ble_eq_true rfl) (lo := [some (sj_r (some a0)), some (sj_i x1), some (sj_i x2), some (sj_i x3), none, none]) rfl (sj_weak (l2 := [some (sj_r (some a0)), some (sj_i x1), some (sj_i x2), some (sj_i x3), none, none]) (⟨rfl, ⟨rfl, ⟨rfl, ⟨rfl, trivial⟩⟩⟩⟩) (st_X4_burden_0 a0 x1 x2 x3 V ha0 h))
set_option maxHeartbeats 4000000 in
theorem c_X4_burden {X : sj_X} {N : Nat} {a0 : Nat} {x1 : Int} {x2 : Int} {x3 : Int} {s : sj_Mem} {q : Unit × sj_Mem} (h : f_X4_burden N a0 x1 x2 x3 s = some q) : sj_C X m_X4_burden [sj_r (some a0), sj_i x1, sj_i x2, sj_i x3] s (none, q.2) := by
  obtain ⟨g, V⟩ := s
  unfold f_X4_burden at h
  obtain ⟨ho, h1⟩ := e_ok_some h
  obtain ⟨q2, h2, rfl⟩ := sj_map_some h1
  exact cg_X4_burden ho h2
theorem dX4_isFast_0 : decode cX4_isFast 0 = .ok (.aload_n 0, 1) := by decide +kernel
theorem dX4_isFast_1 : decode cX4_isFast 1 = .ok (.getfield 43, 3) := by decide +kernel
theorem dX4_isFast_4 : decode cX4_isFast 4 = .ok (.i2l, 1) := by decide +kernel
theorem dX4_isFast_5 : decode cX4_isFast 5 = .ok (.iload_n 2, 1) := by decide +kernel
theorem dX4_isFast_6 : decode cX4_isFast 6 = .ok (.i2l, 1) := by decide +kernel
theorem dX4_isFast_7 : decode cX4_isFast 7 = .ok (.lmul, 1) := by decide +kernel
theorem dX4_isFast_8 : decode cX4_isFast 8 = .ok (.aload_n 0, 1) := by decide +kernel
theorem dX4_isFast_9 : decode cX4_isFast 9 = .ok (.getfield 34, 3) := by decide +kernel
theorem dX4_isFast_12 : decode cX4_isFast 12 = .ok (.iload_n 1, 1) := by decide +kernel
theorem dX4_isFast_13 : decode cX4_isFast 13 = .ok (.laload, 1) := by decide +kernel
theorem dX4_isFast_14 : decode cX4_isFast 14 = .ok (.ladd, 1) := by decide +kernel
theorem dX4_isFast_15 : decode cX4_isFast 15 = .ok (.lconst 0, 1) := by decide +kernel
theorem dX4_isFast_16 : decode cX4_isFast 16 = .ok (.lcmp, 1) := by decide +kernel
theorem dX4_isFast_17 : decode cX4_isFast 17 = .ok (.ifCond .gt 7, 3) := by decide +kernel
theorem dX4_isFast_20 : decode cX4_isFast 20 = .ok (.iconst 1, 1) := by decide +kernel
theorem dX4_isFast_21 : decode cX4_isFast 21 = .ok (.goto 4, 3) := by decide +kernel
theorem dX4_isFast_24 : decode cX4_isFast 24 = .ok (.iconst 0, 1) := by decide +kernel
theorem dX4_isFast_25 : decode cX4_isFast 25 = .ok (.ireturn, 1) := by decide +kernel
set_option maxHeartbeats 4000000 in
theorem st_X4_isFast_0 {X : sj_X} {g : sj_G} {s0 : sj_Mem} {N : Nat} {q : Int × sj_VV} :
    ∀ (a0 : Nat) (x1 : Int) (x2 : Int) (V : sj_VV), OK4 g a0 → g_X4_isFast N a0 x1 x2 V = some q → sj_T X m_X4_isFast s0 (some (sj_i q.1), (g, q.2)) 0 [some (sj_r (some a0)), some (sj_i x1), some (sj_i x2)] [] (g, V) := by
  intro a0 x1 x2 V ha0 h
  unfold g_X4_isFast at h
  refine r_aload_n (pc := 0) dX4_isFast_0 rfl rfl ?_
  refine r_gIs (pc := 1) dX4_isFast_1 fw_X4_43 rfl (ok4 ha0) ?_
  refine r_i2l (pc := 4) h dX4_isFast_4 (fun v1 h => ?_)
  refine r_iload_n (pc := 5) dX4_isFast_5 rfl rfl ?_
  refine r_i2l (pc := 6) h dX4_isFast_6 (fun v2 h => ?_)
  refine r_lmul (pc := 7) dX4_isFast_7 ?_
  refine r_aload_n (pc := 8) dX4_isFast_8 rfl rfl ?_
  refine r_gRs (b := a0 + 8) (pc := 9) dX4_isFast_9 fw_X4_34 rfl (ok4 ha0) (ok4_7 ha0).1 ?_
  refine r_iload_n (pc := 12) dX4_isFast_12 rfl rfl ?_
  refine r_laloads (pc := 13) h dX4_isFast_13 (ok4_7 ha0).2 (fun h => ?_)
  refine r_ladd (pc := 14) dX4_isFast_14 ?_
  refine r_lconst0 (pc := 15) dX4_isFast_15 ?_
  refine r_lgt (pc := 16) (tgt := 24) h dX4_isFast_16 rfl dX4_isFast_17 (by decide) (fun h => ?_) (fun h => ?_)
  · refine r_iconst (pc := 24) dX4_isFast_24 ?_
    exact r_zrets (pc := 25) h rfl dX4_isFast_25
  · refine r_iconst (pc := 20) dX4_isFast_20 ?_
    refine r_goto (pc := 21) (tgt := 25) dX4_isFast_21 (by decide) ?_
    exact r_zrets (pc := 25) h rfl dX4_isFast_25
set_option maxHeartbeats 4000000 in
theorem cg_X4_isFast {X : sj_X} {g : sj_G} {N : Nat} {a0 : Nat} {x1 : Int} {x2 : Int} {V : sj_VV} {q : Int × sj_VV} (ha0 : OK4 g a0) (h : g_X4_isFast N a0 x1 x2 V = some q) : sj_C X m_X4_isFast [sj_r (some a0), sj_i x1, sj_i x2] (g, V) (some (sj_i q.1), (g, q.2)) :=
  sj_C_of (by decide +kernel) (Nat.le_of_ble_eq_true rfl) (lo := [some (sj_r (some a0)), some (sj_i x1), some (sj_i x2)]) rfl (sj_weak (l2 := [some (sj_r (some a0)), some (sj_i x1), some (sj_i x2)]) (⟨rfl, ⟨rfl, ⟨rfl, trivial⟩⟩⟩) (st_X4_isFast_0 a0 x1 x2 V ha0 h))
set_option maxHeartbeats 4000000 in
theorem c_X4_isFast {X : sj_X} {N : Nat} {a0 : Nat} {x1 : Int} {x2 : Int} {s : sj_Mem} {q : Int × sj_Mem} (h : f_X4_isFast N a0 x1 x2 s = some q) : sj_C X m_X4_isFast [sj_r (some a0), sj_i x1, sj_i x2] s (some (sj_i q.1), q.2) := by
  obtain ⟨g, V⟩ := s
  unfold f_X4_isFast at h
  obtain ⟨ho, h1⟩ := e_ok_some h
  obtain ⟨q2, h2, rfl⟩ := sj_map_some h1
  exact cg_X4_isFast ho h2
theorem dX4_rubsOf_0 : decode cX4_rubsOf 0 = .ok (.aload_n 0, 1) := by decide +kernel
theorem dX4_rubsOf_1 : decode cX4_rubsOf 1 = .ok (.getfield 43, 3) := by decide +kernel
theorem dX4_rubsOf_4 : decode cX4_rubsOf 4 = .ok (.i2l, 1) := by decide +kernel
theorem dX4_rubsOf_5 : decode cX4_rubsOf 5 = .ok (.iload_n 2, 1) := by decide +kernel
theorem dX4_rubsOf_6 : decode cX4_rubsOf 6 = .ok (.i2l, 1) := by decide +kernel
theorem dX4_rubsOf_7 : decode cX4_rubsOf 7 = .ok (.lmul, 1) := by decide +kernel
theorem dX4_rubsOf_8 : decode cX4_rubsOf 8 = .ok (.aload_n 0, 1) := by decide +kernel
theorem dX4_rubsOf_9 : decode cX4_rubsOf 9 = .ok (.getfield 34, 3) := by decide +kernel
theorem dX4_rubsOf_12 : decode cX4_rubsOf 12 = .ok (.iload_n 1, 1) := by decide +kernel
theorem dX4_rubsOf_13 : decode cX4_rubsOf 13 = .ok (.laload, 1) := by decide +kernel
theorem dX4_rubsOf_14 : decode cX4_rubsOf 14 = .ok (.ladd, 1) := by decide +kernel
theorem dX4_rubsOf_15 : decode cX4_rubsOf 15 = .ok (.lstore_n 3, 1) := by decide +kernel
theorem dX4_rubsOf_16 : decode cX4_rubsOf 16 = .ok (.lload_n 3, 1) := by decide +kernel
theorem dX4_rubsOf_17 : decode cX4_rubsOf 17 = .ok (.lconst 0, 1) := by decide +kernel
theorem dX4_rubsOf_18 : decode cX4_rubsOf 18 = .ok (.lcmp, 1) := by decide +kernel
theorem dX4_rubsOf_19 : decode cX4_rubsOf 19 = .ok (.ifCond .gt 9, 3) := by decide +kernel
theorem dX4_rubsOf_22 : decode cX4_rubsOf 22 = .ok (.ldc2_w 106, 3) := by decide +kernel
theorem dX4_rubsOf_25 : decode cX4_rubsOf 25 = .ok (.goto 14, 3) := by decide +kernel
theorem dX4_rubsOf_28 : decode cX4_rubsOf 28 = .ok (.aload_n 0, 1) := by decide +kernel
theorem dX4_rubsOf_29 : decode cX4_rubsOf 29 = .ok (.getfield 31, 3) := by decide +kernel
theorem dX4_rubsOf_32 : decode cX4_rubsOf 32 = .ok (.iload_n 1, 1) := by decide +kernel
theorem dX4_rubsOf_33 : decode cX4_rubsOf 33 = .ok (.laload, 1) := by decide +kernel
theorem dX4_rubsOf_34 : decode cX4_rubsOf 34 = .ok (.iload_n 2, 1) := by decide +kernel
theorem dX4_rubsOf_35 : decode cX4_rubsOf 35 = .ok (.i2l, 1) := by decide +kernel
theorem dX4_rubsOf_36 : decode cX4_rubsOf 36 = .ok (.lmul, 1) := by decide +kernel
theorem dX4_rubsOf_37 : decode cX4_rubsOf 37 = .ok (.lload_n 3, 1) := by decide +kernel
theorem dX4_rubsOf_38 : decode cX4_rubsOf 38 = .ok (.ldiv, 1) := by decide +kernel
theorem dX4_rubsOf_39 : decode cX4_rubsOf 39 = .ok (.lreturn, 1) := by decide +kernel
set_option maxHeartbeats 4000000 in
theorem st_X4_rubsOf_0 {X : sj_X} {g : sj_G} {s0 : sj_Mem} {N : Nat} {q : Int × sj_VV} :
    ∀ (a0 : Nat) (x1 : Int) (x2 : Int) (V : sj_VV), OK4 g a0 → g_X4_rubsOf N a0 x1 x2 V = some q → sj_T X m_X4_rubsOf s0 (some (sj_j q.1), (g, q.2)) 0 [some (sj_r (some a0)), some (sj_i x1), some (sj_i x2), none, none] [] (g, V) := by
  intro a0 x1 x2 V ha0 h
  unfold g_X4_rubsOf at h
  refine r_aload_n (pc := 0) dX4_rubsOf_0 rfl rfl ?_
  refine r_gIs (pc := 1) dX4_rubsOf_1 fw_X4_43 rfl (ok4 ha0) ?_
  refine r_i2l (pc := 4) h dX4_rubsOf_4 (fun v1 h => ?_)
  refine r_iload_n (pc := 5) dX4_rubsOf_5 rfl rfl ?_
  refine r_i2l (pc := 6) h dX4_rubsOf_6 (fun v2 h => ?_)
  refine r_lmul (pc := 7) dX4_rubsOf_7 ?_
  refine r_aload_n (pc := 8) dX4_rubsOf_8 rfl rfl ?_
  refine r_gRs (b := a0 + 8) (pc := 9) dX4_rubsOf_9 fw_X4_34 rfl (ok4 ha0) (ok4_7 ha0).1 ?_
  refine r_iload_n (pc := 12) dX4_rubsOf_12 rfl rfl ?_
  refine r_laloads (pc := 13) h dX4_rubsOf_13 (ok4_7 ha0).2 (fun h => ?_)
  refine r_ladd (pc := 14) dX4_rubsOf_14 ?_
  refine r_lstore_nL (ln := fun w => [some (sj_r (some a0)), some (sj_i x1), some (sj_i x2), some (sj_j w), none]) (pc := 15) h dX4_rubsOf_15 rfl (Nat.le_of_ble_eq_true rfl) (fun _ => rfl) (fun v3 h => ?_)
  refine r_lload_n (pc := 16) dX4_rubsOf_16 rfl rfl ?_
  refine r_lconst0 (pc := 17) dX4_rubsOf_17 ?_
  refine r_lgt (pc := 18) (tgt := 28) h dX4_rubsOf_18 rfl dX4_rubsOf_19 (by decide) (fun h => ?_) (fun h => ?_)
  · refine r_aload_n (pc := 28) dX4_rubsOf_28 rfl rfl ?_
    refine r_gRs (b := a0 + 7) (pc := 29) dX4_rubsOf_29 fw_X4_31 rfl (ok4 ha0) (ok4_6 ha0).1 ?_
    refine r_iload_n (pc := 32) dX4_rubsOf_32 rfl rfl ?_
    refine r_laloads (pc := 33) h dX4_rubsOf_33 (ok4_6 ha0).2 (fun h => ?_)
    refine r_iload_n (pc := 34) dX4_rubsOf_34 rfl rfl ?_
    refine r_i2l (pc := 35) h dX4_rubsOf_35 (fun v4 h => ?_)
    refine r_lmul (pc := 36) dX4_rubsOf_36 ?_
    refine r_lload_n (pc := 37) dX4_rubsOf_37 rfl rfl ?_
    refine r_ldiv (pc := 38) h dX4_rubsOf_38 (fun v5 h => ?_)
    exact r_lrets (pc := 39) h rfl dX4_rubsOf_39
  · refine r_ldc2 (n := -1) (pc := 22) dX4_rubsOf_22 kc_X4_106 ?_
    refine r_goto (pc := 25) (tgt := 39) dX4_rubsOf_25 (by decide) ?_
    exact r_lrets (pc := 39) h rfl dX4_rubsOf_39
set_option maxHeartbeats 4000000 in
theorem cg_X4_rubsOf {X : sj_X} {g : sj_G} {N : Nat} {a0 : Nat} {x1 : Int} {x2 : Int} {V : sj_VV} {q : Int × sj_VV} (ha0 : OK4 g a0) (h : g_X4_rubsOf N a0 x1 x2 V = some q) : sj_C X m_X4_rubsOf [sj_r (some a0), sj_i x1, sj_i x2] (g, V) (some (sj_j q.1), (g, q.2)) :=
  sj_C_of (by decide +kernel) (Nat.le_of_ble_eq_true rfl) (lo := [some (sj_r (some a0)), some (sj_i x1), some (sj_i x2), none, none]) rfl (sj_weak (l2 := [some (sj_r (some a0)), some (sj_i x1), some (sj_i x2), none, none]) (⟨rfl, ⟨rfl, ⟨rfl, trivial⟩⟩⟩) (st_X4_rubsOf_0 a0 x1 x2 V ha0 h))
set_option maxHeartbeats 4000000 in
theorem c_X4_rubsOf {X : sj_X} {N : Nat} {a0 : Nat} {x1 : Int} {x2 : Int} {s : sj_Mem} {q : Int × sj_Mem} (h : f_X4_rubsOf N a0 x1 x2 s = some q) : sj_C X m_X4_rubsOf [sj_r (some a0), sj_i x1, sj_i x2] s (some (sj_j q.1), q.2) := by
  obtain ⟨g, V⟩ := s
  unfold f_X4_rubsOf at h
  obtain ⟨ho, h1⟩ := e_ok_some h
  obtain ⟨q2, h2, rfl⟩ := sj_map_some h1
  exact cg_X4_rubsOf ho h2
theorem dJ9_floorDiv_f86c9_0 : decode cJ9_floorDiv_f86c9 0 = .ok (.lload_n 0, 1) := by decide +kernel
theorem dJ9_floorDiv_f86c9_1 : decode cJ9_floorDiv_f86c9 1 = .ok (.lload_n 2, 1) := by decide +kernel
theorem dJ9_floorDiv_f86c9_2 : decode cJ9_floorDiv_f86c9 2 = .ok (.ldiv, 1) := by decide +kernel
theorem dJ9_floorDiv_f86c9_3 : decode cJ9_floorDiv_f86c9 3 = .ok (.lstore 4, 2) := by decide +kernel
theorem dJ9_floorDiv_f86c9_5 : decode cJ9_floorDiv_f86c9 5 = .ok (.lload_n 0, 1) := by decide +kernel
theorem dJ9_floorDiv_f86c9_6 : decode cJ9_floorDiv_f86c9 6 = .ok (.lload_n 2, 1) := by decide +kernel
theorem dJ9_floorDiv_f86c9_7 : decode cJ9_floorDiv_f86c9 7 = .ok (.lxor, 1) := by decide +kernel
theorem dJ9_floorDiv_f86c9_8 : decode cJ9_floorDiv_f86c9 8 = .ok (.lconst 0, 1) := by decide +kernel
theorem dJ9_floorDiv_f86c9_9 : decode cJ9_floorDiv_f86c9 9 = .ok (.lcmp, 1) := by decide +kernel
theorem dJ9_floorDiv_f86c9_10 : decode cJ9_floorDiv_f86c9 10 = .ok (.ifCond .ge 17, 3) := by decide +kernel
theorem dJ9_floorDiv_f86c9_13 : decode cJ9_floorDiv_f86c9 13 = .ok (.lload 4, 2) := by decide +kernel
theorem dJ9_floorDiv_f86c9_15 : decode cJ9_floorDiv_f86c9 15 = .ok (.lload_n 2, 1) := by decide +kernel
theorem dJ9_floorDiv_f86c9_16 : decode cJ9_floorDiv_f86c9 16 = .ok (.lmul, 1) := by decide +kernel
theorem dJ9_floorDiv_f86c9_17 : decode cJ9_floorDiv_f86c9 17 = .ok (.lload_n 0, 1) := by decide +kernel
theorem dJ9_floorDiv_f86c9_18 : decode cJ9_floorDiv_f86c9 18 = .ok (.lcmp, 1) := by decide +kernel
theorem dJ9_floorDiv_f86c9_19 : decode cJ9_floorDiv_f86c9 19 = .ok (.ifCond .eq 8, 3) := by decide +kernel
theorem dJ9_floorDiv_f86c9_22 : decode cJ9_floorDiv_f86c9 22 = .ok (.lload 4, 2) := by decide +kernel
theorem dJ9_floorDiv_f86c9_24 : decode cJ9_floorDiv_f86c9 24 = .ok (.lconst 1, 1) := by decide +kernel
theorem dJ9_floorDiv_f86c9_25 : decode cJ9_floorDiv_f86c9 25 = .ok (.lsub, 1) := by decide +kernel
theorem dJ9_floorDiv_f86c9_26 : decode cJ9_floorDiv_f86c9 26 = .ok (.lreturn, 1) := by decide +kernel
theorem dJ9_floorDiv_f86c9_27 : decode cJ9_floorDiv_f86c9 27 = .ok (.lload 4, 2) := by decide +kernel
theorem dJ9_floorDiv_f86c9_29 : decode cJ9_floorDiv_f86c9 29 = .ok (.lreturn, 1) := by decide +kernel
set_option maxHeartbeats 4000000 in
theorem st_J9_floorDiv_f86c9_0 {X : sj_X} {g : sj_G} {s0 : sj_Mem} {N : Nat} {q : Int × sj_VV} :
    ∀ (x0 : Int) (x2 : Int) (V : sj_VV), g_J9_floorDiv_f86c9 N x0 x2 V = some q → sj_T X m_J9_floorDiv_f86c9 s0 (some (sj_j q.1), (g, q.2)) 0 [some (sj_j x0), none, some (sj_j x2), none, none, none] [] (g, V) := by
  intro x0 x2 V  h
  unfold g_J9_floorDiv_f86c9 at h
  refine r_lload_n (pc := 0) dJ9_floorDiv_f86c9_0 rfl rfl ?_
  refine r_lload_n (pc := 1) dJ9_floorDiv_f86c9_1 rfl rfl ?_
  refine r_ldiv (pc := 2) h dJ9_floorDiv_f86c9_2 (fun v1 h => ?_)
  refine r_lstore (ln := [some (sj_j x0), none, some (sj_j x2), none, some (sj_j v1), none]) (pc := 3) dJ9_floorDiv_f86c9_3 (Nat.le_of_ble_eq_true rfl) rfl ?_
  refine r_lload_n (pc := 5) dJ9_floorDiv_f86c9_5 rfl rfl ?_
  refine r_lload_n (pc := 6) dJ9_floorDiv_f86c9_6 rfl rfl ?_
  refine r_lxor (pc := 7) dJ9_floorDiv_f86c9_7 ?_
  refine r_lconst0 (pc := 8) dJ9_floorDiv_f86c9_8 ?_
  refine r_lge (pc := 9) (tgt := 27) h dJ9_floorDiv_f86c9_9 rfl dJ9_floorDiv_f86c9_10 (by decide) (fun h => ?_) (fun h => ?_)
  · refine r_lload (pc := 27) dJ9_floorDiv_f86c9_27 rfl ?_
    exact r_lrets (pc := 29) h rfl dJ9_floorDiv_f86c9_29
  · refine r_lload (pc := 13) dJ9_floorDiv_f86c9_13 rfl ?_
    refine r_lload_n (pc := 15) dJ9_floorDiv_f86c9_15 rfl rfl ?_
    refine r_lmul (pc := 16) dJ9_floorDiv_f86c9_16 ?_
    refine r_lload_n (pc := 17) dJ9_floorDiv_f86c9_17 rfl rfl ?_
    refine r_leq (pc := 18) (tgt := 27) h dJ9_floorDiv_f86c9_18 rfl dJ9_floorDiv_f86c9_19 (by decide) (fun h => ?_) (fun h => ?_)
    · refine r_lload (pc := 27) dJ9_floorDiv_f86c9_27 rfl ?_
      exact r_lrets (pc := 29) h rfl dJ9_floorDiv_f86c9_29
    · refine r_lload (pc := 22) dJ9_floorDiv_f86c9_22 rfl ?_
      refine r_lconst1 (pc := 24) dJ9_floorDiv_f86c9_24 ?_
      refine r_lsub (pc := 25) dJ9_floorDiv_f86c9_25 ?_
      exact r_lrets (pc := 26) h rfl dJ9_floorDiv_f86c9_26
set_option maxHeartbeats 4000000 in
theorem cg_J9_floorDiv_f86c9 {X : sj_X} {g : sj_G} {N : Nat} {x0 : Int} {x2 : Int} {V : sj_VV} {q : Int × sj_VV} (h : g_J9_floorDiv_f86c9 N x0 x2 V = some q) : sj_C X m_J9_floorDiv_f86c9 [sj_j x0, sj_j x2] (g, V) (some (sj_j q.1), (g, q.2)) :=
  sj_C_of (by decide +kernel) (Nat.le_of_ble_eq_true rfl) (lo := [some (sj_j x0), none, some (sj_j x2), none, none, none]) rfl (sj_weak (l2 := [some (sj_j x0), none, some (sj_j x2), none, none, none]) (⟨rfl, ⟨rfl, trivial⟩⟩) (st_J9_floorDiv_f86c9_0 x0 x2 V h))
set_option maxHeartbeats 4000000 in
theorem c_J9_floorDiv_f86c9 {X : sj_X} {N : Nat} {x0 : Int} {x2 : Int} {s : sj_Mem} {q : Int × sj_Mem} (h : f_J9_floorDiv_f86c9 N x0 x2 s = some q) : sj_C X m_J9_floorDiv_f86c9 [sj_j x0, sj_j x2] s (some (sj_j q.1), q.2) := by
  obtain ⟨g, V⟩ := s
  unfold f_J9_floorDiv_f86c9 at h
  obtain ⟨ho, h1⟩ := e_ok_some h
  obtain ⟨q2, h2, rfl⟩ := sj_map_some h1
  exact cg_J9_floorDiv_f86c9  h2
theorem dX4_thrustOf_0 : decode cX4_thrustOf 0 = .ok (.iload_n 2, 1) := by decide +kernel
theorem dX4_thrustOf_1 : decode cX4_thrustOf 1 = .ok (.i2l, 1) := by decide +kernel
theorem dX4_thrustOf_2 : decode cX4_thrustOf 2 = .ok (.aload_n 0, 1) := by decide +kernel
theorem dX4_thrustOf_3 : decode cX4_thrustOf 3 = .ok (.getfield 28, 3) := by decide +kernel
theorem dX4_thrustOf_6 : decode cX4_thrustOf 6 = .ok (.iload_n 1, 1) := by decide +kernel
theorem dX4_thrustOf_7 : decode cX4_thrustOf 7 = .ok (.laload, 1) := by decide +kernel
theorem dX4_thrustOf_8 : decode cX4_thrustOf 8 = .ok (.lmul, 1) := by decide +kernel
theorem dX4_thrustOf_9 : decode cX4_thrustOf 9 = .ok (.ldc2_w 96, 3) := by decide +kernel
theorem dX4_thrustOf_12 : decode cX4_thrustOf 12 = .ok (.invokestatic 108, 3) := by decide +kernel
theorem dX4_thrustOf_15 : decode cX4_thrustOf 15 = .ok (.aload_n 0, 1) := by decide +kernel
theorem dX4_thrustOf_16 : decode cX4_thrustOf 16 = .ok (.iload_n 1, 1) := by decide +kernel
theorem dX4_thrustOf_17 : decode cX4_thrustOf 17 = .ok (.iload_n 2, 1) := by decide +kernel
theorem dX4_thrustOf_18 : decode cX4_thrustOf 18 = .ok (.invokevirtual 112, 3) := by decide +kernel
theorem dX4_thrustOf_21 : decode cX4_thrustOf 21 = .ok (.lsub, 1) := by decide +kernel
theorem dX4_thrustOf_22 : decode cX4_thrustOf 22 = .ok (.lreturn, 1) := by decide +kernel
set_option maxHeartbeats 4000000 in
theorem st_X4_thrustOf_0 {X : sj_X} {g : sj_G} {s0 : sj_Mem} {N : Nat} {q : Int × sj_VV} :
    ∀ (a0 : Nat) (x1 : Int) (x2 : Int) (V : sj_VV), OK4 g a0 → g_X4_thrustOf N a0 x1 x2 V = some q → sj_T X m_X4_thrustOf s0 (some (sj_j q.1), (g, q.2)) 0 [some (sj_r (some a0)), some (sj_i x1), some (sj_i x2)] [] (g, V) := by
  intro a0 x1 x2 V ha0 h
  unfold g_X4_thrustOf at h
  refine r_iload_n (pc := 0) dX4_thrustOf_0 rfl rfl ?_
  refine r_i2l (pc := 1) h dX4_thrustOf_1 (fun v1 h => ?_)
  refine r_aload_n (pc := 2) dX4_thrustOf_2 rfl rfl ?_
  refine r_gRs (b := a0 + 6) (pc := 3) dX4_thrustOf_3 fw_X4_28 rfl (ok4 ha0) (ok4_5 ha0).1 ?_
  refine r_iload_n (pc := 6) dX4_thrustOf_6 rfl rfl ?_
  refine r_laloads (pc := 7) h dX4_thrustOf_7 (ok4_5 ha0).2 (fun h => ?_)
  refine r_lmul (pc := 8) dX4_thrustOf_8 ?_
  refine r_ldc2 (n := 1000) (pc := 9) dX4_thrustOf_9 kc_X4_96 ?_
  refine r_callSs (pc := 12) (fun v => some (sj_j v)) (As := [sj_j (v1 * (V (a0 + 6) x1.toNat)), sj_j 1000]) (rest := []) h dX4_thrustOf_12 mw_X4_108 kw_1008 (fun _ _ hc => cg_J9_floorDiv_f86c9  hc) rfl ⟨(Nat.le_of_ble_eq_true rfl), (Nat.le_of_ble_eq_true rfl)⟩ (Nat.le_of_ble_eq_true rfl) rfl (fun v3 V2 h => ?_)
  refine r_aload_n (pc := 15) dX4_thrustOf_15 rfl rfl ?_
  refine r_iload_n (pc := 16) dX4_thrustOf_16 rfl rfl ?_
  refine r_iload_n (pc := 17) dX4_thrustOf_17 rfl rfl ?_
  refine r_callVs (pc := 18) (fun v => some (sj_j v)) (As := [sj_i x1, sj_i x2]) (rest := [(sj_j v3)]) (b := a0) (ok4 ha0) h dX4_thrustOf_18 mw_X4_112 vw_X4_rubsOf (fun _ _ hc => cg_X4_rubsOf ha0 hc) rfl ⟨(Nat.le_of_ble_eq_true rfl), (Nat.le_of_ble_eq_true rfl)⟩ (Nat.le_of_ble_eq_true rfl) rfl (fun v5 V4 h => ?_)
  refine r_lsub (pc := 21) dX4_thrustOf_21 ?_
  exact r_lrets (pc := 22) h rfl dX4_thrustOf_22
set_option maxHeartbeats 4000000 in
theorem cg_X4_thrustOf {X : sj_X} {g : sj_G} {N : Nat} {a0 : Nat} {x1 : Int} {x2 : Int} {V : sj_VV} {q : Int × sj_VV} (ha0 : OK4 g a0) (h : g_X4_thrustOf N a0 x1 x2 V = some q) : sj_C X m_X4_thrustOf [sj_r (some a0), sj_i x1, sj_i x2] (g, V) (some (sj_j q.1), (g, q.2)) :=
  sj_C_of (by decide +kernel) (Nat.le_of_ble_eq_true rfl) (lo := [some (sj_r (some a0)), some (sj_i x1), some (sj_i x2)]) rfl (sj_weak (l2 := [some (sj_r (some a0)), some (sj_i x1), some (sj_i x2)]) (⟨rfl, ⟨rfl, ⟨rfl, trivial⟩⟩⟩) (st_X4_thrustOf_0 a0 x1 x2 V ha0 h))
set_option maxHeartbeats 4000000 in
theorem c_X4_thrustOf {X : sj_X} {N : Nat} {a0 : Nat} {x1 : Int} {x2 : Int} {s : sj_Mem} {q : Int × sj_Mem} (h : f_X4_thrustOf N a0 x1 x2 s = some q) : sj_C X m_X4_thrustOf [sj_r (some a0), sj_i x1, sj_i x2] s (some (sj_j q.1), q.2) := by
  obtain ⟨g, V⟩ := s
  unfold f_X4_thrustOf at h
  obtain ⟨ho, h1⟩ := e_ok_some h
  obtain ⟨q2, h2, rfl⟩ := sj_map_some h1
  exact cg_X4_thrustOf ho h2
theorem dX4_allPushes_0 : decode cX4_allPushes 0 = .ok (.lconst 0, 1) := by decide +kernel
theorem dX4_allPushes_1 : decode cX4_allPushes 1 = .ok (.lstore_n 1, 1) := by decide +kernel
theorem dX4_allPushes_2 : decode cX4_allPushes 2 = .ok (.iconst 0, 1) := by decide +kernel
theorem dX4_allPushes_3 : decode cX4_allPushes 3 = .ok (.istore_n 3, 1) := by decide +kernel
theorem dX4_allPushes_4 : decode cX4_allPushes 4 = .ok (.iload_n 3, 1) := by decide +kernel
theorem dX4_allPushes_5 : decode cX4_allPushes 5 = .ok (.aload_n 0, 1) := by decide +kernel
theorem dX4_allPushes_6 : decode cX4_allPushes 6 = .ok (.getfield 50, 3) := by decide +kernel
theorem dX4_allPushes_9 : decode cX4_allPushes 9 = .ok (.if_icmp .ge 18, 3) := by decide +kernel
theorem dX4_allPushes_12 : decode cX4_allPushes 12 = .ok (.lload_n 1, 1) := by decide +kernel
theorem dX4_allPushes_13 : decode cX4_allPushes 13 = .ok (.aload_n 0, 1) := by decide +kernel
theorem dX4_allPushes_14 : decode cX4_allPushes 14 = .ok (.getfield 28, 3) := by decide +kernel
theorem dX4_allPushes_17 : decode cX4_allPushes 17 = .ok (.iload_n 3, 1) := by decide +kernel
theorem dX4_allPushes_18 : decode cX4_allPushes 18 = .ok (.laload, 1) := by decide +kernel
theorem dX4_allPushes_19 : decode cX4_allPushes 19 = .ok (.ladd, 1) := by decide +kernel
theorem dX4_allPushes_20 : decode cX4_allPushes 20 = .ok (.lstore_n 1, 1) := by decide +kernel
theorem dX4_allPushes_21 : decode cX4_allPushes 21 = .ok (.iinc 3 1, 3) := by decide +kernel
theorem dX4_allPushes_24 : decode cX4_allPushes 24 = .ok (.goto (-20), 3) := by decide +kernel
theorem dX4_allPushes_27 : decode cX4_allPushes 27 = .ok (.lload_n 1, 1) := by decide +kernel
theorem dX4_allPushes_28 : decode cX4_allPushes 28 = .ok (.lreturn, 1) := by decide +kernel
set_option maxHeartbeats 4000000 in
theorem st_X4_allPushes_4_b {X : sj_X} {g : sj_G} {s0 : sj_Mem} {N : Nat} {q : Int × sj_VV} {k4 : Nat → Int → Int → sj_VV → Option (Int × sj_VV)} (hk4 : ∀ (a0 : Nat) (x1 : Int) (x3 : Int) (V : sj_VV), OK4 g a0 → k4 a0 x1 x3 V = some q → sj_T X m_X4_allPushes s0 (some (sj_j q.1), (g, q.2)) 4 [some (sj_r (some a0)), some (sj_j x1), none, some (sj_i x3)] [] (g, V)) :
    ∀ (a0 : Nat) (x1 : Int) (x3 : Int) (V : sj_VV), OK4 g a0 → g_X4_allPushes_4_b N k4 a0 x1 x3 V = some q → sj_T X m_X4_allPushes s0 (some (sj_j q.1), (g, q.2)) 4 [some (sj_r (some a0)), some (sj_j x1), none, some (sj_i x3)] [] (g, V) := by
  intro a0 x1 x3 V ha0 h
  unfold g_X4_allPushes_4_b at h
  refine r_iload_n (pc := 4) dX4_allPushes_4 rfl rfl ?_
  refine r_aload_n (pc := 5) dX4_allPushes_5 rfl rfl ?_
  refine r_gIs (pc := 6) dX4_allPushes_6 fw_X4_50 rfl (ok4 ha0) ?_
  refine r_icmp_ge (pc := 9) (tgt := 27) h dX4_allPushes_9 (by decide) (fun h => ?_) (fun h => ?_)
  · refine r_lload_n (pc := 27) dX4_allPushes_27 rfl rfl ?_
    exact r_lrets (pc := 28) h rfl dX4_allPushes_28
  · refine r_lload_n (pc := 12) dX4_allPushes_12 rfl rfl ?_
    refine r_aload_n (pc := 13) dX4_allPushes_13 rfl rfl ?_
    refine r_gRs (b := a0 + 6) (pc := 14) dX4_allPushes_14 fw_X4_28 rfl (ok4 ha0) (ok4_5 ha0).1 ?_
    refine r_iload_n (pc := 17) dX4_allPushes_17 rfl rfl ?_
    refine r_laloads (pc := 18) h dX4_allPushes_18 (ok4_5 ha0).2 (fun h => ?_)
    refine r_ladd (pc := 19) dX4_allPushes_19 ?_
    refine r_lstore_nL (ln := fun w => [some (sj_r (some a0)), some (sj_j w), none, some (sj_i x3)]) (pc := 20) h dX4_allPushes_20 rfl (Nat.le_of_ble_eq_true rfl) (fun _ => rfl) (fun v1 h => ?_)
    refine r_iinc (ln := fun w => [some (sj_r (some a0)), some (sj_j v1), none, some (sj_i w)]) (pc := 21) h dX4_allPushes_21 rfl (Nat.le_of_ble_eq_true rfl) (fun _ => rfl) (fun v2 h => ?_)
    refine r_goto (pc := 24) (tgt := 4) dX4_allPushes_24 (by decide) ?_
    exact sj_weak (l2 := [some (sj_r (some a0)), some (sj_j v1), none, some (sj_i v2)]) (⟨rfl, ⟨rfl, ⟨rfl, trivial⟩⟩⟩) (hk4 a0 v1 v2 V ha0 h)
set_option maxHeartbeats 4000000 in
theorem st_X4_allPushes_4 {X : sj_X} {g : sj_G} {s0 : sj_Mem} {N : Nat} {q : Int × sj_VV} :
    ∀ (n : Nat) (a0 : Nat) (x1 : Int) (x3 : Int) (V : sj_VV), OK4 g a0 → g_X4_allPushes_4 N n a0 x1 x3 V = some q → sj_T X m_X4_allPushes s0 (some (sj_j q.1), (g, q.2)) 4 [some (sj_r (some a0)), some (sj_j x1), none, some (sj_i x3)] [] (g, V) := by
  intro n
  induction n with
  | zero => intro a0 x1 x3 V ha0 h; exact nomatch h
  | succ n ih => intro a0 x1 x3 V ha0 h; exact st_X4_allPushes_4_b (N := N) ih a0 x1 x3 V ha0 h
set_option maxHeartbeats 4000000 in
theorem st_X4_allPushes_0 {X : sj_X} {g : sj_G} {s0 : sj_Mem} {N : Nat} {q : Int × sj_VV} :
    ∀ (a0 : Nat) (V : sj_VV), OK4 g a0 → g_X4_allPushes N a0 V = some q → sj_T X m_X4_allPushes s0 (some (sj_j q.1), (g, q.2)) 0 [some (sj_r (some a0)), none, none, none] [] (g, V) := by
  intro a0 V ha0 h
  unfold g_X4_allPushes at h
  refine r_lconst0 (pc := 0) dX4_allPushes_0 ?_
  refine r_lstore_n (ln := [some (sj_r (some a0)), some (sj_j 0), none, none]) (pc := 1) dX4_allPushes_1 rfl (Nat.le_of_ble_eq_true rfl) rfl ?_
  refine r_iconst (pc := 2) dX4_allPushes_2 ?_
  refine r_istore_n (ln := [some (sj_r (some a0)), some (sj_j 0), none, some (sj_i 0)]) (pc := 3) dX4_allPushes_3 rfl (Nat.le_of_ble_eq_true rfl) rfl ?_
  exact sj_weak (l2 := [some (sj_r (some a0)), some (sj_j 0), none, some (sj_i 0)]) (⟨rfl, ⟨rfl, ⟨rfl, trivial⟩⟩⟩) (st_X4_allPushes_4 N a0 0 0 V ha0 h)
set_option maxHeartbeats 4000000 in
theorem cg_X4_allPushes {X : sj_X} {g : sj_G} {N : Nat} {a0 : Nat} {V : sj_VV} {q : Int × sj_VV} (ha0 : OK4 g a0) (h : g_X4_allPushes N a0 V = some q) : sj_C X m_X4_allPushes [sj_r (some a0)] (g, V) (some (sj_j q.1), (g, q.2)) :=
  sj_C_of (by decide +kernel) (Nat.le_of_ble_eq_true rfl) (lo := [some (sj_r (some a0)), none, none, none]) rfl (sj_weak (l2 := [some (sj_r (some a0)), none, none, none]) (⟨rfl, trivial⟩) (st_X4_allPushes_0 a0 V ha0 h))
set_option maxHeartbeats 4000000 in
theorem c_X4_allPushes {X : sj_X} {N : Nat} {a0 : Nat} {s : sj_Mem} {q : Int × sj_Mem} (h : f_X4_allPushes N a0 s = some q) : sj_C X m_X4_allPushes [sj_r (some a0)] s (some (sj_j q.1), q.2) := by
  obtain ⟨g, V⟩ := s
  unfold f_X4_allPushes at h
  obtain ⟨ho, h1⟩ := e_ok_some h
  obtain ⟨q2, h2, rfl⟩ := sj_map_some h1
  exact cg_X4_allPushes ho h2
theorem dX4_allWeights_0 : decode cX4_allWeights 0 = .ok (.lconst 0, 1) := by decide +kernel
theorem dX4_allWeights_1 : decode cX4_allWeights 1 = .ok (.lstore_n 1, 1) := by decide +kernel
theorem dX4_allWeights_2 : decode cX4_allWeights 2 = .ok (.iconst 0, 1) := by decide +kernel
theorem dX4_allWeights_3 : decode cX4_allWeights 3 = .ok (.istore_n 3, 1) := by decide +kernel
theorem dX4_allWeights_4 : decode cX4_allWeights 4 = .ok (.iload_n 3, 1) := by decide +kernel
theorem dX4_allWeights_5 : decode cX4_allWeights 5 = .ok (.aload_n 0, 1) := by decide +kernel
theorem dX4_allWeights_6 : decode cX4_allWeights 6 = .ok (.getfield 50, 3) := by decide +kernel
theorem dX4_allWeights_9 : decode cX4_allWeights 9 = .ok (.if_icmp .ge 19, 3) := by decide +kernel
theorem dX4_allWeights_12 : decode cX4_allWeights 12 = .ok (.lload_n 1, 1) := by decide +kernel
theorem dX4_allWeights_13 : decode cX4_allWeights 13 = .ok (.aload_n 0, 1) := by decide +kernel
theorem dX4_allWeights_14 : decode cX4_allWeights 14 = .ok (.getfield 15, 3) := by decide +kernel
theorem dX4_allWeights_17 : decode cX4_allWeights 17 = .ok (.iload_n 3, 1) := by decide +kernel
theorem dX4_allWeights_18 : decode cX4_allWeights 18 = .ok (.iaload, 1) := by decide +kernel
theorem dX4_allWeights_19 : decode cX4_allWeights 19 = .ok (.i2l, 1) := by decide +kernel
theorem dX4_allWeights_20 : decode cX4_allWeights 20 = .ok (.ladd, 1) := by decide +kernel
theorem dX4_allWeights_21 : decode cX4_allWeights 21 = .ok (.lstore_n 1, 1) := by decide +kernel
theorem dX4_allWeights_22 : decode cX4_allWeights 22 = .ok (.iinc 3 1, 3) := by decide +kernel
theorem dX4_allWeights_25 : decode cX4_allWeights 25 = .ok (.goto (-21), 3) := by decide +kernel
theorem dX4_allWeights_28 : decode cX4_allWeights 28 = .ok (.lload_n 1, 1) := by decide +kernel
theorem dX4_allWeights_29 : decode cX4_allWeights 29 = .ok (.lreturn, 1) := by decide +kernel
set_option maxHeartbeats 4000000 in
theorem st_X4_allWeights_4_b {X : sj_X} {g : sj_G} {s0 : sj_Mem} {N : Nat} {q : Int × sj_VV} {k4 : Nat → Int → Int → sj_VV → Option (Int × sj_VV)} (hk4 : ∀ (a0 : Nat) (x1 : Int) (x3 : Int) (V : sj_VV), OK4 g a0 → k4 a0 x1 x3 V = some q → sj_T X m_X4_allWeights s0 (some (sj_j q.1), (g, q.2)) 4 [some (sj_r (some a0)), some (sj_j x1), none, some (sj_i x3)] [] (g, V)) :
    ∀ (a0 : Nat) (x1 : Int) (x3 : Int) (V : sj_VV), OK4 g a0 → g_X4_allWeights_4_b N k4 a0 x1 x3 V = some q → sj_T X m_X4_allWeights s0 (some (sj_j q.1), (g, q.2)) 4 [some (sj_r (some a0)), some (sj_j x1), none, some (sj_i x3)] [] (g, V) := by
  intro a0 x1 x3 V ha0 h
  unfold g_X4_allWeights_4_b at h
  refine r_iload_n (pc := 4) dX4_allWeights_4 rfl rfl ?_
  refine r_aload_n (pc := 5) dX4_allWeights_5 rfl rfl ?_
  refine r_gIs (pc := 6) dX4_allWeights_6 fw_X4_50 rfl (ok4 ha0) ?_
  refine r_icmp_ge (pc := 9) (tgt := 28) h dX4_allWeights_9 (by decide) (fun h => ?_) (fun h => ?_)
  · refine r_lload_n (pc := 28) dX4_allWeights_28 rfl rfl ?_
    exact r_lrets (pc := 29) h rfl dX4_allWeights_29
  · refine r_lload_n (pc := 12) dX4_allWeights_12 rfl rfl ?_
    refine r_aload_n (pc := 13) dX4_allWeights_13 rfl rfl ?_
    refine r_gRs (b := a0 + 2) (pc := 14) dX4_allWeights_14 fw_X4_15 rfl (ok4 ha0) (ok4_1 ha0).1 ?_
    refine r_iload_n (pc := 17) dX4_allWeights_17 rfl rfl ?_
    refine r_ialoads (pc := 18) h dX4_allWeights_18 (ok4_1 ha0).2 (fun h => ?_)
    refine r_i2l (pc := 19) h dX4_allWeights_19 (fun v1 h => ?_)
    refine r_ladd (pc := 20) dX4_allWeights_20 ?_
    refine r_lstore_nL (ln := fun w => [some (sj_r (some a0)), some (sj_j w), none, some (sj_i x3)]) (pc := 21) h dX4_allWeights_21 rfl (Nat.le_of_ble_eq_true rfl) (fun _ => rfl) (fun v2 h => ?_)
    refine r_iinc (ln := fun w => [some (sj_r (some a0)), some (sj_j v2), none, some (sj_i w)]) (pc := 22) h dX4_allWeights_22 rfl (Nat.le_of_ble_eq_true rfl) (fun _ => rfl) (fun v3 h => ?_)
    refine r_goto (pc := 25) (tgt := 4) dX4_allWeights_25 (by decide) ?_
    exact sj_weak (l2 := [some (sj_r (some a0)), some (sj_j v2), none, some (sj_i v3)]) (⟨rfl, ⟨rfl, ⟨rfl, trivial⟩⟩⟩) (hk4 a0 v2 v3 V ha0 h)
set_option maxHeartbeats 4000000 in
theorem st_X4_allWeights_4 {X : sj_X} {g : sj_G} {s0 : sj_Mem} {N : Nat} {q : Int × sj_VV} :
    ∀ (n : Nat) (a0 : Nat) (x1 : Int) (x3 : Int) (V : sj_VV), OK4 g a0 → g_X4_allWeights_4 N n a0 x1 x3 V = some q → sj_T X m_X4_allWeights s0 (some (sj_j q.1), (g, q.2)) 4 [some (sj_r (some a0)), some (sj_j x1), none, some (sj_i x3)] [] (g, V) := by
  intro n
  induction n with
  | zero => intro a0 x1 x3 V ha0 h; exact nomatch h
  | succ n ih => intro a0 x1 x3 V ha0 h; exact st_X4_allWeights_4_b (N := N) ih a0 x1 x3 V ha0 h
set_option maxHeartbeats 4000000 in
theorem st_X4_allWeights_0 {X : sj_X} {g : sj_G} {s0 : sj_Mem} {N : Nat} {q : Int × sj_VV} :
    ∀ (a0 : Nat) (V : sj_VV), OK4 g a0 → g_X4_allWeights N a0 V = some q → sj_T X m_X4_allWeights s0 (some (sj_j q.1), (g, q.2)) 0 [some (sj_r (some a0)), none, none, none] [] (g, V) := by
  intro a0 V ha0 h
  unfold g_X4_allWeights at h
  refine r_lconst0 (pc := 0) dX4_allWeights_0 ?_
  refine r_lstore_n (ln := [some (sj_r (some a0)), some (sj_j 0), none, none]) (pc := 1) dX4_allWeights_1 rfl (Nat.le_of_ble_eq_true rfl) rfl ?_
  refine r_iconst (pc := 2) dX4_allWeights_2 ?_
  refine r_istore_n (ln := [some (sj_r (some a0)), some (sj_j 0), none, some (sj_i 0)]) (pc := 3) dX4_allWeights_3 rfl (Nat.le_of_ble_eq_true rfl) rfl ?_
  exact sj_weak (l2 := [some (sj_r (some a0)), some (sj_j 0), none, some (sj_i 0)]) (⟨rfl, ⟨rfl, ⟨rfl, trivial⟩⟩⟩) (st_X4_allWeights_4 N a0 0 0 V ha0 h)
set_option maxHeartbeats 4000000 in
theorem cg_X4_allWeights {X : sj_X} {g : sj_G} {N : Nat} {a0 : Nat} {V : sj_VV} {q : Int × sj_VV} (ha0 : OK4 g a0) (h : g_X4_allWeights N a0 V = some q) : sj_C X m_X4_allWeights [sj_r (some a0)] (g, V) (some (sj_j q.1), (g, q.2)) :=
  sj_C_of (by decide +kernel) (Nat.le_of_ble_eq_true rfl) (lo := [some (sj_r (some a0)), none, none, none]) rfl (sj_weak (l2 := [some (sj_r (some a0)), none, none, none]) (⟨rfl, trivial⟩) (st_X4_allWeights_0 a0 V ha0 h))
set_option maxHeartbeats 4000000 in
theorem c_X4_allWeights {X : sj_X} {N : Nat} {a0 : Nat} {s : sj_Mem} {q : Int × sj_Mem} (h : f_X4_allWeights N a0 s = some q) : sj_C X m_X4_allWeights [sj_r (some a0)] s (some (sj_j q.1), q.2) := by
  obtain ⟨g, V⟩ := s
  unfold f_X4_allWeights at h
  obtain ⟨ho, h1⟩ := e_ok_some h
  obtain ⟨q2, h2, rfl⟩ := sj_map_some h1
  exact cg_X4_allWeights ho h2
theorem dX4_allLifts_0 : decode cX4_allLifts 0 = .ok (.lconst 0, 1) := by decide +kernel
theorem dX4_allLifts_1 : decode cX4_allLifts 1 = .ok (.lstore_n 1, 1) := by decide +kernel
theorem dX4_allLifts_2 : decode cX4_allLifts 2 = .ok (.iconst 0, 1) := by decide +kernel
theorem dX4_allLifts_3 : decode cX4_allLifts 3 = .ok (.istore_n 3, 1) := by decide +kernel
theorem dX4_allLifts_4 : decode cX4_allLifts 4 = .ok (.iload_n 3, 1) := by decide +kernel
theorem dX4_allLifts_5 : decode cX4_allLifts 5 = .ok (.aload_n 0, 1) := by decide +kernel
theorem dX4_allLifts_6 : decode cX4_allLifts 6 = .ok (.getfield 50, 3) := by decide +kernel
theorem dX4_allLifts_9 : decode cX4_allLifts 9 = .ok (.if_icmp .ge 19, 3) := by decide +kernel
theorem dX4_allLifts_12 : decode cX4_allLifts 12 = .ok (.lload_n 1, 1) := by decide +kernel
theorem dX4_allLifts_13 : decode cX4_allLifts 13 = .ok (.aload_n 0, 1) := by decide +kernel
theorem dX4_allLifts_14 : decode cX4_allLifts 14 = .ok (.getfield 18, 3) := by decide +kernel
theorem dX4_allLifts_17 : decode cX4_allLifts 17 = .ok (.iload_n 3, 1) := by decide +kernel
theorem dX4_allLifts_18 : decode cX4_allLifts 18 = .ok (.iaload, 1) := by decide +kernel
theorem dX4_allLifts_19 : decode cX4_allLifts 19 = .ok (.i2l, 1) := by decide +kernel
theorem dX4_allLifts_20 : decode cX4_allLifts 20 = .ok (.ladd, 1) := by decide +kernel
theorem dX4_allLifts_21 : decode cX4_allLifts 21 = .ok (.lstore_n 1, 1) := by decide +kernel
theorem dX4_allLifts_22 : decode cX4_allLifts 22 = .ok (.iinc 3 1, 3) := by decide +kernel
theorem dX4_allLifts_25 : decode cX4_allLifts 25 = .ok (.goto (-21), 3) := by decide +kernel
theorem dX4_allLifts_28 : decode cX4_allLifts 28 = .ok (.lload_n 1, 1) := by decide +kernel
theorem dX4_allLifts_29 : decode cX4_allLifts 29 = .ok (.lreturn, 1) := by decide +kernel
set_option maxHeartbeats 4000000 in
theorem st_X4_allLifts_4_b {X : sj_X} {g : sj_G} {s0 : sj_Mem} {N : Nat} {q : Int × sj_VV} {k4 : Nat → Int → Int → sj_VV → Option (Int × sj_VV)} (hk4 : ∀ (a0 : Nat) (x1 : Int) (x3 : Int) (V : sj_VV), OK4 g a0 → k4 a0 x1 x3 V = some q → sj_T X m_X4_allLifts s0 (some (sj_j q.1), (g, q.2)) 4 [some (sj_r (some a0)), some (sj_j x1), none, some (sj_i x3)] [] (g, V)) :
    ∀ (a0 : Nat) (x1 : Int) (x3 : Int) (V : sj_VV), OK4 g a0 → g_X4_allLifts_4_b N k4 a0 x1 x3 V = some q → sj_T X m_X4_allLifts s0 (some (sj_j q.1), (g, q.2)) 4 [some (sj_r (some a0)), some (sj_j x1), none, some (sj_i x3)] [] (g, V) := by
  intro a0 x1 x3 V ha0 h
  unfold g_X4_allLifts_4_b at h
  refine r_iload_n (pc := 4) dX4_allLifts_4 rfl rfl ?_
  refine r_aload_n (pc := 5) dX4_allLifts_5 rfl rfl ?_
  refine r_gIs (pc := 6) dX4_allLifts_6 fw_X4_50 rfl (ok4 ha0) ?_
  refine r_icmp_ge (pc := 9) (tgt := 28) h dX4_allLifts_9 (by decide) (fun h => ?_) (fun h => ?_)
  · refine r_lload_n (pc := 28) dX4_allLifts_28 rfl rfl ?_
    exact r_lrets (pc := 29) h rfl dX4_allLifts_29
  · refine r_lload_n (pc := 12) dX4_allLifts_12 rfl rfl ?_
    refine r_aload_n (pc := 13) dX4_allLifts_13 rfl rfl ?_
    refine r_gRs (b := a0 + 3) (pc := 14) dX4_allLifts_14 fw_X4_18 rfl (ok4 ha0) (ok4_2 ha0).1 ?_
    refine r_iload_n (pc := 17) dX4_allLifts_17 rfl rfl ?_
    refine r_ialoads (pc := 18) h dX4_allLifts_18 (ok4_2 ha0).2 (fun h => ?_)
    refine r_i2l (pc := 19) h dX4_allLifts_19 (fun v1 h => ?_)
    refine r_ladd (pc := 20) dX4_allLifts_20 ?_
    refine r_lstore_nL (ln := fun w => [some (sj_r (some a0)), some (sj_j w), none, some (sj_i x3)]) (pc := 21) h dX4_allLifts_21 rfl (Nat.le_of_ble_eq_true rfl) (fun _ => rfl) (fun v2 h => ?_)
    refine r_iinc (ln := fun w => [some (sj_r (some a0)), some (sj_j v2), none, some (sj_i w)]) (pc := 22) h dX4_allLifts_22 rfl (Nat.le_of_ble_eq_true rfl) (fun _ => rfl) (fun v3 h => ?_)
    refine r_goto (pc := 25) (tgt := 4) dX4_allLifts_25 (by decide) ?_
    exact sj_weak (l2 := [some (sj_r (some a0)), some (sj_j v2), none, some (sj_i v3)]) (⟨rfl, ⟨rfl, ⟨rfl, trivial⟩⟩⟩) (hk4 a0 v2 v3 V ha0 h)
set_option maxHeartbeats 4000000 in
theorem st_X4_allLifts_4 {X : sj_X} {g : sj_G} {s0 : sj_Mem} {N : Nat} {q : Int × sj_VV} :
    ∀ (n : Nat) (a0 : Nat) (x1 : Int) (x3 : Int) (V : sj_VV), OK4 g a0 → g_X4_allLifts_4 N n a0 x1 x3 V = some q → sj_T X m_X4_allLifts s0 (some (sj_j q.1), (g, q.2)) 4 [some (sj_r (some a0)), some (sj_j x1), none, some (sj_i x3)] [] (g, V) := by
  intro n
  induction n with
  | zero => intro a0 x1 x3 V ha0 h; exact nomatch h
  | succ n ih => intro a0 x1 x3 V ha0 h; exact st_X4_allLifts_4_b (N := N) ih a0 x1 x3 V ha0 h
set_option maxHeartbeats 4000000 in
theorem st_X4_allLifts_0 {X : sj_X} {g : sj_G} {s0 : sj_Mem} {N : Nat} {q : Int × sj_VV} :
    ∀ (a0 : Nat) (V : sj_VV), OK4 g a0 → g_X4_allLifts N a0 V = some q → sj_T X m_X4_allLifts s0 (some (sj_j q.1), (g, q.2)) 0 [some (sj_r (some a0)), none, none, none] [] (g, V) := by
  intro a0 V ha0 h
  unfold g_X4_allLifts at h
  refine r_lconst0 (pc := 0) dX4_allLifts_0 ?_
  refine r_lstore_n (ln := [some (sj_r (some a0)), some (sj_j 0), none, none]) (pc := 1) dX4_allLifts_1 rfl (Nat.le_of_ble_eq_true rfl) rfl ?_
  refine r_iconst (pc := 2) dX4_allLifts_2 ?_
  refine r_istore_n (ln := [some (sj_r (some a0)), some (sj_j 0), none, some (sj_i 0)]) (pc := 3) dX4_allLifts_3 rfl (Nat.le_of_ble_eq_true rfl) rfl ?_
  exact sj_weak (l2 := [some (sj_r (some a0)), some (sj_j 0), none, some (sj_i 0)]) (⟨rfl, ⟨rfl, ⟨rfl, trivial⟩⟩⟩) (st_X4_allLifts_4 N a0 0 0 V ha0 h)
set_option maxHeartbeats 4000000 in
theorem cg_X4_allLifts {X : sj_X} {g : sj_G} {N : Nat} {a0 : Nat} {V : sj_VV} {q : Int × sj_VV} (ha0 : OK4 g a0) (h : g_X4_allLifts N a0 V = some q) : sj_C X m_X4_allLifts [sj_r (some a0)] (g, V) (some (sj_j q.1), (g, q.2)) :=
  sj_C_of (by decide +kernel) (Nat.le_of_ble_eq_true rfl) (lo := [some (sj_r (some a0)), none, none, none]) rfl (sj_weak (l2 := [some (sj_r (some a0)), none, none, none]) (⟨rfl, trivial⟩) (st_X4_allLifts_0 a0 V ha0 h))
set_option maxHeartbeats 4000000 in
theorem c_X4_allLifts {X : sj_X} {N : Nat} {a0 : Nat} {s : sj_Mem} {q : Int × sj_Mem} (h : f_X4_allLifts N a0 s = some q) : sj_C X m_X4_allLifts [sj_r (some a0)] s (some (sj_j q.1), q.2) := by
  obtain ⟨g, V⟩ := s
  unfold f_X4_allLifts at h
  obtain ⟨ho, h1⟩ := e_ok_some h
  obtain ⟨q2, h2, rfl⟩ := sj_map_some h1
  exact cg_X4_allLifts ho h2
theorem dX4_allStrengths_0 : decode cX4_allStrengths 0 = .ok (.lconst 0, 1) := by decide +kernel
theorem dX4_allStrengths_1 : decode cX4_allStrengths 1 = .ok (.lstore_n 1, 1) := by decide +kernel
theorem dX4_allStrengths_2 : decode cX4_allStrengths 2 = .ok (.iconst 0, 1) := by decide +kernel
theorem dX4_allStrengths_3 : decode cX4_allStrengths 3 = .ok (.istore_n 3, 1) := by decide +kernel
theorem dX4_allStrengths_4 : decode cX4_allStrengths 4 = .ok (.iload_n 3, 1) := by decide +kernel
theorem dX4_allStrengths_5 : decode cX4_allStrengths 5 = .ok (.aload_n 0, 1) := by decide +kernel
theorem dX4_allStrengths_6 : decode cX4_allStrengths 6 = .ok (.getfield 50, 3) := by decide +kernel
theorem dX4_allStrengths_9 : decode cX4_allStrengths 9 = .ok (.if_icmp .ge 18, 3) := by decide +kernel
theorem dX4_allStrengths_12 : decode cX4_allStrengths 12 = .ok (.lload_n 1, 1) := by decide +kernel
theorem dX4_allStrengths_13 : decode cX4_allStrengths 13 = .ok (.aload_n 0, 1) := by decide +kernel
theorem dX4_allStrengths_14 : decode cX4_allStrengths 14 = .ok (.getfield 24, 3) := by decide +kernel
theorem dX4_allStrengths_17 : decode cX4_allStrengths 17 = .ok (.iload_n 3, 1) := by decide +kernel
theorem dX4_allStrengths_18 : decode cX4_allStrengths 18 = .ok (.laload, 1) := by decide +kernel
theorem dX4_allStrengths_19 : decode cX4_allStrengths 19 = .ok (.ladd, 1) := by decide +kernel
theorem dX4_allStrengths_20 : decode cX4_allStrengths 20 = .ok (.lstore_n 1, 1) := by decide +kernel
theorem dX4_allStrengths_21 : decode cX4_allStrengths 21 = .ok (.iinc 3 1, 3) := by decide +kernel
theorem dX4_allStrengths_24 : decode cX4_allStrengths 24 = .ok (.goto (-20), 3) := by decide +kernel
theorem dX4_allStrengths_27 : decode cX4_allStrengths 27 = .ok (.lload_n 1, 1) := by decide +kernel
theorem dX4_allStrengths_28 : decode cX4_allStrengths 28 = .ok (.lreturn, 1) := by decide +kernel
set_option maxHeartbeats 4000000 in
theorem st_X4_allStrengths_4_b {X : sj_X} {g : sj_G} {s0 : sj_Mem} {N : Nat} {q : Int × sj_VV} {k4 : Nat → Int → Int → sj_VV → Option (Int × sj_VV)} (hk4 : ∀ (a0 : Nat) (x1 : Int) (x3 : Int) (V : sj_VV), OK4 g a0 → k4 a0 x1 x3 V = some q → sj_T X m_X4_allStrengths s0 (some (sj_j q.1), (g, q.2)) 4 [some (sj_r (some a0)), some (sj_j x1), none, some (sj_i x3)] [] (g, V)) :
    ∀ (a0 : Nat) (x1 : Int) (x3 : Int) (V : sj_VV), OK4 g a0 → g_X4_allStrengths_4_b N k4 a0 x1 x3 V = some q → sj_T X m_X4_allStrengths s0 (some (sj_j q.1), (g, q.2)) 4 [some (sj_r (some a0)), some (sj_j x1), none, some (sj_i x3)] [] (g, V) := by
  intro a0 x1 x3 V ha0 h
  unfold g_X4_allStrengths_4_b at h
  refine r_iload_n (pc := 4) dX4_allStrengths_4 rfl rfl ?_
  refine r_aload_n (pc := 5) dX4_allStrengths_5 rfl rfl ?_
  refine r_gIs (pc := 6) dX4_allStrengths_6 fw_X4_50 rfl (ok4 ha0) ?_
  refine r_icmp_ge (pc := 9) (tgt := 27) h dX4_allStrengths_9 (by decide) (fun h => ?_) (fun h => ?_)
  · refine r_lload_n (pc := 27) dX4_allStrengths_27 rfl rfl ?_
    exact r_lrets (pc := 28) h rfl dX4_allStrengths_28
  · refine r_lload_n (pc := 12) dX4_allStrengths_12 rfl rfl ?_
    refine r_aload_n (pc := 13) dX4_allStrengths_13 rfl rfl ?_
    refine r_gRs (b := a0 + 5) (pc := 14) dX4_allStrengths_14 fw_X4_24 rfl (ok4 ha0) (ok4_4 ha0).1 ?_
    refine r_iload_n (pc := 17) dX4_allStrengths_17 rfl rfl ?_
    refine r_laloads (pc := 18) h dX4_allStrengths_18 (ok4_4 ha0).2 (fun h => ?_)
    refine r_ladd (pc := 19) dX4_allStrengths_19 ?_
    refine r_lstore_nL (ln := fun w => [some (sj_r (some a0)), some (sj_j w), none, some (sj_i x3)]) (pc := 20) h dX4_allStrengths_20 rfl (Nat.le_of_ble_eq_true rfl) (fun _ => rfl) (fun v1 h => ?_)
    refine r_iinc (ln := fun w => [some (sj_r (some a0)), some (sj_j v1), none, some (sj_i w)]) (pc := 21) h dX4_allStrengths_21 rfl (Nat.le_of_ble_eq_true rfl) (fun _ => rfl) (fun v2 h => ?_)
    refine r_goto (pc := 24) (tgt := 4) dX4_allStrengths_24 (by decide) ?_
    exact sj_weak (l2 := [some (sj_r (some a0)), some (sj_j v1), none, some (sj_i v2)]) (⟨rfl, ⟨rfl, ⟨rfl, trivial⟩⟩⟩) (hk4 a0 v1 v2 V ha0 h)
set_option maxHeartbeats 4000000 in
theorem st_X4_allStrengths_4 {X : sj_X} {g : sj_G} {s0 : sj_Mem} {N : Nat} {q : Int × sj_VV} :
    ∀ (n : Nat) (a0 : Nat) (x1 : Int) (x3 : Int) (V : sj_VV), OK4 g a0 → g_X4_allStrengths_4 N n a0 x1 x3 V = some q → sj_T X m_X4_allStrengths s0 (some (sj_j q.1), (g, q.2)) 4 [some (sj_r (some a0)), some (sj_j x1), none, some (sj_i x3)] [] (g, V) := by
  intro n
  induction n with
  | zero => intro a0 x1 x3 V ha0 h; exact nomatch h
  | succ n ih => intro a0 x1 x3 V ha0 h; exact st_X4_allStrengths_4_b (N := N) ih a0 x1 x3 V ha0 h
set_option maxHeartbeats 4000000 in
theorem st_X4_allStrengths_0 {X : sj_X} {g : sj_G} {s0 : sj_Mem} {N : Nat} {q : Int × sj_VV} :
    ∀ (a0 : Nat) (V : sj_VV), OK4 g a0 → g_X4_allStrengths N a0 V = some q → sj_T X m_X4_allStrengths s0 (some (sj_j q.1), (g, q.2)) 0 [some (sj_r (some a0)), none, none, none] [] (g, V) := by
  intro a0 V ha0 h
  unfold g_X4_allStrengths at h
  refine r_lconst0 (pc := 0) dX4_allStrengths_0 ?_
  refine r_lstore_n (ln := [some (sj_r (some a0)), some (sj_j 0), none, none]) (pc := 1) dX4_allStrengths_1 rfl (Nat.le_of_ble_eq_true rfl) rfl ?_
  refine r_iconst (pc := 2) dX4_allStrengths_2 ?_
  refine r_istore_n (ln := [some (sj_r (some a0)), some (sj_j 0), none, some (sj_i 0)]) (pc := 3) dX4_allStrengths_3 rfl (Nat.le_of_ble_eq_true rfl) rfl ?_
  exact sj_weak (l2 := [some (sj_r (some a0)), some (sj_j 0), none, some (sj_i 0)]) (⟨rfl, ⟨rfl, ⟨rfl, trivial⟩⟩⟩) (st_X4_allStrengths_4 N a0 0 0 V ha0 h)
set_option maxHeartbeats 4000000 in
theorem cg_X4_allStrengths {X : sj_X} {g : sj_G} {N : Nat} {a0 : Nat} {V : sj_VV} {q : Int × sj_VV} (ha0 : OK4 g a0) (h : g_X4_allStrengths N a0 V = some q) : sj_C X m_X4_allStrengths [sj_r (some a0)] (g, V) (some (sj_j q.1), (g, q.2)) :=
  sj_C_of (by decide +kernel) (Nat.le_of_ble_eq_true rfl) (lo := [some (sj_r (some a0)), none, none, none]) rfl (sj_weak (l2 := [some (sj_r (some a0)), none, none, none]) (⟨rfl, trivial⟩) (st_X4_allStrengths_0 a0 V ha0 h))
set_option maxHeartbeats 4000000 in
theorem c_X4_allStrengths {X : sj_X} {N : Nat} {a0 : Nat} {s : sj_Mem} {q : Int × sj_Mem} (h : f_X4_allStrengths N a0 s = some q) : sj_C X m_X4_allStrengths [sj_r (some a0)] s (some (sj_j q.1), q.2) := by
  obtain ⟨g, V⟩ := s
  unfold f_X4_allStrengths at h
  obtain ⟨ho, h1⟩ := e_ok_some h
  obtain ⟨q2, h2, rfl⟩ := sj_map_some h1
  exact cg_X4_allStrengths ho h2
theorem dX4_countFalling_0 : decode cX4_countFalling 0 = .ok (.iconst 0, 1) := by decide +kernel
theorem dX4_countFalling_1 : decode cX4_countFalling 1 = .ok (.istore_n 1, 1) := by decide +kernel
theorem dX4_countFalling_2 : decode cX4_countFalling 2 = .ok (.iconst 0, 1) := by decide +kernel
theorem dX4_countFalling_3 : decode cX4_countFalling 3 = .ok (.istore_n 2, 1) := by decide +kernel
theorem dX4_countFalling_4 : decode cX4_countFalling 4 = .ok (.iload_n 2, 1) := by decide +kernel
theorem dX4_countFalling_5 : decode cX4_countFalling 5 = .ok (.aload_n 0, 1) := by decide +kernel
theorem dX4_countFalling_6 : decode cX4_countFalling 6 = .ok (.getfield 50, 3) := by decide +kernel
theorem dX4_countFalling_9 : decode cX4_countFalling 9 = .ok (.if_icmp .ge 21, 3) := by decide +kernel
theorem dX4_countFalling_12 : decode cX4_countFalling 12 = .ok (.aload_n 0, 1) := by decide +kernel
theorem dX4_countFalling_13 : decode cX4_countFalling 13 = .ok (.getfield 9, 3) := by decide +kernel
theorem dX4_countFalling_16 : decode cX4_countFalling 16 = .ok (.iload_n 2, 1) := by decide +kernel
theorem dX4_countFalling_17 : decode cX4_countFalling 17 = .ok (.iaload, 1) := by decide +kernel
theorem dX4_countFalling_18 : decode cX4_countFalling 18 = .ok (.ifCond .ge 6, 3) := by decide +kernel
theorem dX4_countFalling_21 : decode cX4_countFalling 21 = .ok (.iinc 1 1, 3) := by decide +kernel
theorem dX4_countFalling_24 : decode cX4_countFalling 24 = .ok (.iinc 2 1, 3) := by decide +kernel
theorem dX4_countFalling_27 : decode cX4_countFalling 27 = .ok (.goto (-23), 3) := by decide +kernel
theorem dX4_countFalling_30 : decode cX4_countFalling 30 = .ok (.iload_n 1, 1) := by decide +kernel
theorem dX4_countFalling_31 : decode cX4_countFalling 31 = .ok (.ireturn, 1) := by decide +kernel
set_option maxHeartbeats 4000000 in
theorem st_X4_countFalling_24 {X : sj_X} {g : sj_G} {s0 : sj_Mem} {N : Nat} {q : Int × sj_VV} {k4 : Nat → Int → Int → sj_VV → Option (Int × sj_VV)} (hk4 : ∀ (a0 : Nat) (x1 : Int) (x2 : Int) (V : sj_VV), OK4 g a0 → k4 a0 x1 x2 V = some q → sj_T X m_X4_countFalling s0 (some (sj_i q.1), (g, q.2)) 4 [some (sj_r (some a0)), some (sj_i x1), some (sj_i x2)] [] (g, V)) :
    ∀ (a0 : Nat) (x1 : Int) (x2 : Int) (V : sj_VV), OK4 g a0 → g_X4_countFalling_24 N k4 a0 x1 x2 V = some q → sj_T X m_X4_countFalling s0 (some (sj_i q.1), (g, q.2)) 24 [some (sj_r (some a0)), some (sj_i x1), some (sj_i x2)] [] (g, V) := by
  intro a0 x1 x2 V ha0 h
  unfold g_X4_countFalling_24 at h
  refine r_iinc (ln := fun w => [some (sj_r (some a0)), some (sj_i x1), some (sj_i w)]) (pc := 24) h dX4_countFalling_24 rfl (Nat.le_of_ble_eq_true rfl) (fun _ => rfl) (fun v1 h => ?_)
  refine r_goto (pc := 27) (tgt := 4) dX4_countFalling_27 (by decide) ?_
  exact sj_weak (l2 := [some (sj_r (some a0)), some (sj_i x1), some (sj_i v1)]) (⟨rfl, ⟨rfl, ⟨rfl, trivial⟩⟩⟩) (hk4 a0 x1 v1 V ha0 h)
set_option maxHeartbeats 4000000 in
theorem st_X4_countFalling_4_b {X : sj_X} {g : sj_G} {s0 : sj_Mem} {N : Nat} {q : Int × sj_VV} {k4 : Nat → Int → Int → sj_VV → Option (Int × sj_VV)} (hk4 : ∀ (a0 : Nat) (x1 : Int) (x2 : Int) (V : sj_VV), OK4 g a0 → k4 a0 x1 x2 V = some q → sj_T X m_X4_countFalling s0 (some (sj_i q.1), (g, q.2)) 4 [some (sj_r (some a0)), some (sj_i x1), some (sj_i x2)] [] (g, V)) :
    ∀ (a0 : Nat) (x1 : Int) (x2 : Int) (V : sj_VV), OK4 g a0 → g_X4_countFalling_4_b N k4 a0 x1 x2 V = some q → sj_T X m_X4_countFalling s0 (some (sj_i q.1), (g, q.2)) 4 [some (sj_r (some a0)), some (sj_i x1), some (sj_i x2)] [] (g, V) := by
  intro a0 x1 x2 V ha0 h
  unfold g_X4_countFalling_4_b at h
  refine r_iload_n (pc := 4) dX4_countFalling_4 rfl rfl ?_
  refine r_aload_n (pc := 5) dX4_countFalling_5 rfl rfl ?_
  refine r_gIs (pc := 6) dX4_countFalling_6 fw_X4_50 rfl (ok4 ha0) ?_
  refine r_icmp_ge (pc := 9) (tgt := 30) h dX4_countFalling_9 (by decide) (fun h => ?_) (fun h => ?_)
  · refine r_iload_n (pc := 30) dX4_countFalling_30 rfl rfl ?_
    exact r_irets (pc := 31) h rfl dX4_countFalling_31
  · refine r_aload_n (pc := 12) dX4_countFalling_12 rfl rfl ?_
    refine r_gRs (b := a0 + 1) (pc := 13) dX4_countFalling_13 fw_X4_9 rfl (ok4 ha0) (ok4_0 ha0).1 ?_
    refine r_iload_n (pc := 16) dX4_countFalling_16 rfl rfl ?_
    refine r_ialoads (pc := 17) h dX4_countFalling_17 (ok4_0 ha0).2 (fun h => ?_)
    refine r_if_ge (pc := 18) (tgt := 24) h dX4_countFalling_18 (by decide) (fun h => ?_) (fun h => ?_)
    · exact sj_weak (l2 := [some (sj_r (some a0)), some (sj_i x1), some (sj_i x2)]) (⟨rfl, ⟨rfl, ⟨rfl, trivial⟩⟩⟩) (st_X4_countFalling_24 hk4 a0 x1 x2 V ha0 h)
    · refine r_iinc (ln := fun w => [some (sj_r (some a0)), some (sj_i w), some (sj_i x2)]) (pc := 21) h dX4_countFalling_21 rfl (Nat.le_of_ble_eq_true rfl) (fun _ => rfl) (fun v1 h => ?_)
      exact sj_weak (l2 := [some (sj_r (some a0)), some (sj_i v1), some (sj_i x2)]) (⟨rfl, ⟨rfl, ⟨rfl, trivial⟩⟩⟩) (st_X4_countFalling_24 hk4 a0 v1 x2 V ha0 h)
set_option maxHeartbeats 4000000 in
theorem st_X4_countFalling_4 {X : sj_X} {g : sj_G} {s0 : sj_Mem} {N : Nat} {q : Int × sj_VV} :
    ∀ (n : Nat) (a0 : Nat) (x1 : Int) (x2 : Int) (V : sj_VV), OK4 g a0 → g_X4_countFalling_4 N n a0 x1 x2 V = some q → sj_T X m_X4_countFalling s0 (some (sj_i q.1), (g, q.2)) 4 [some (sj_r (some a0)), some (sj_i x1), some (sj_i x2)] [] (g, V) := by
  intro n
  induction n with
  | zero => intro a0 x1 x2 V ha0 h; exact nomatch h
  | succ n ih => intro a0 x1 x2 V ha0 h; exact st_X4_countFalling_4_b (N := N) ih a0 x1 x2 V ha0 h
set_option maxHeartbeats 4000000 in
theorem st_X4_countFalling_0 {X : sj_X} {g : sj_G} {s0 : sj_Mem} {N : Nat} {q : Int × sj_VV} :
    ∀ (a0 : Nat) (V : sj_VV), OK4 g a0 → g_X4_countFalling N a0 V = some q → sj_T X m_X4_countFalling s0 (some (sj_i q.1), (g, q.2)) 0 [some (sj_r (some a0)), none, none] [] (g, V) := by
  intro a0 V ha0 h
  unfold g_X4_countFalling at h
  refine r_iconst (pc := 0) dX4_countFalling_0 ?_
  refine r_istore_n (ln := [some (sj_r (some a0)), some (sj_i 0), none]) (pc := 1) dX4_countFalling_1 rfl (Nat.le_of_ble_eq_true rfl) rfl ?_
  refine r_iconst (pc := 2) dX4_countFalling_2 ?_
  refine r_istore_n (ln := [some (sj_r (some a0)), some (sj_i 0), some (sj_i 0)]) (pc := 3) dX4_countFalling_3 rfl (Nat.le_of_ble_eq_true rfl) rfl ?_
  exact sj_weak (l2 := [some (sj_r (some a0)), some (sj_i 0), some (sj_i 0)]) (⟨rfl, ⟨rfl, ⟨rfl, trivial⟩⟩⟩) (st_X4_countFalling_4 N a0 0 0 V ha0 h)
set_option maxHeartbeats 4000000 in
theorem cg_X4_countFalling {X : sj_X} {g : sj_G} {N : Nat} {a0 : Nat} {V : sj_VV} {q : Int × sj_VV} (ha0 : OK4 g a0) (h : g_X4_countFalling N a0 V = some q) : sj_C X m_X4_countFalling [sj_r (some a0)] (g, V) (some (sj_i q.1), (g, q.2)) :=
  sj_C_of (by decide +kernel) (Nat.le_of_ble_eq_true rfl) (lo := [some (sj_r (some a0)), none, none]) rfl (sj_weak (l2 := [some (sj_r (some a0)), none, none]) (⟨rfl, trivial⟩) (st_X4_countFalling_0 a0 V ha0 h))
set_option maxHeartbeats 4000000 in
theorem c_X4_countFalling {X : sj_X} {N : Nat} {a0 : Nat} {s : sj_Mem} {q : Int × sj_Mem} (h : f_X4_countFalling N a0 s = some q) : sj_C X m_X4_countFalling [sj_r (some a0)] s (some (sj_i q.1), q.2) := by
  obtain ⟨g, V⟩ := s
  unfold f_X4_countFalling at h
  obtain ⟨ho, h1⟩ := e_ok_some h
  obtain ⟨q2, h2, rfl⟩ := sj_map_some h1
  exact cg_X4_countFalling ho h2
theorem dX4_countAfloat_0 : decode cX4_countAfloat 0 = .ok (.iconst 0, 1) := by decide +kernel
theorem dX4_countAfloat_1 : decode cX4_countAfloat 1 = .ok (.istore_n 1, 1) := by decide +kernel
theorem dX4_countAfloat_2 : decode cX4_countAfloat 2 = .ok (.iconst 0, 1) := by decide +kernel
theorem dX4_countAfloat_3 : decode cX4_countAfloat 3 = .ok (.istore_n 2, 1) := by decide +kernel
theorem dX4_countAfloat_4 : decode cX4_countAfloat 4 = .ok (.iload_n 2, 1) := by decide +kernel
theorem dX4_countAfloat_5 : decode cX4_countAfloat 5 = .ok (.aload_n 0, 1) := by decide +kernel
theorem dX4_countAfloat_6 : decode cX4_countAfloat 6 = .ok (.getfield 50, 3) := by decide +kernel
theorem dX4_countAfloat_9 : decode cX4_countAfloat 9 = .ok (.if_icmp .ge 27, 3) := by decide +kernel
theorem dX4_countAfloat_12 : decode cX4_countAfloat 12 = .ok (.aload_n 0, 1) := by decide +kernel
theorem dX4_countAfloat_13 : decode cX4_countAfloat 13 = .ok (.getfield 18, 3) := by decide +kernel
theorem dX4_countAfloat_16 : decode cX4_countAfloat 16 = .ok (.iload_n 2, 1) := by decide +kernel
theorem dX4_countAfloat_17 : decode cX4_countAfloat 17 = .ok (.iaload, 1) := by decide +kernel
theorem dX4_countAfloat_18 : decode cX4_countAfloat 18 = .ok (.aload_n 0, 1) := by decide +kernel
theorem dX4_countAfloat_19 : decode cX4_countAfloat 19 = .ok (.getfield 15, 3) := by decide +kernel
theorem dX4_countAfloat_22 : decode cX4_countAfloat 22 = .ok (.iload_n 2, 1) := by decide +kernel
theorem dX4_countAfloat_23 : decode cX4_countAfloat 23 = .ok (.iaload, 1) := by decide +kernel
theorem dX4_countAfloat_24 : decode cX4_countAfloat 24 = .ok (.if_icmp .le 6, 3) := by decide +kernel
theorem dX4_countAfloat_27 : decode cX4_countAfloat 27 = .ok (.iinc 1 1, 3) := by decide +kernel
theorem dX4_countAfloat_30 : decode cX4_countAfloat 30 = .ok (.iinc 2 1, 3) := by decide +kernel
theorem dX4_countAfloat_33 : decode cX4_countAfloat 33 = .ok (.goto (-29), 3) := by decide +kernel
theorem dX4_countAfloat_36 : decode cX4_countAfloat 36 = .ok (.iload_n 1, 1) := by decide +kernel
theorem dX4_countAfloat_37 : decode cX4_countAfloat 37 = .ok (.ireturn, 1) := by decide +kernel
set_option maxHeartbeats 4000000 in
theorem st_X4_countAfloat_30 {X : sj_X} {g : sj_G} {s0 : sj_Mem} {N : Nat} {q : Int × sj_VV} {k4 : Nat → Int → Int → sj_VV → Option (Int × sj_VV)} (hk4 : ∀ (a0 : Nat) (x1 : Int) (x2 : Int) (V : sj_VV), OK4 g a0 → k4 a0 x1 x2 V = some q → sj_T X m_X4_countAfloat s0 (some (sj_i q.1), (g, q.2)) 4 [some (sj_r (some a0)), some (sj_i x1), some (sj_i x2)] [] (g, V)) :
    ∀ (a0 : Nat) (x1 : Int) (x2 : Int) (V : sj_VV), OK4 g a0 → g_X4_countAfloat_30 N k4 a0 x1 x2 V = some q → sj_T X m_X4_countAfloat s0 (some (sj_i q.1), (g, q.2)) 30 [some (sj_r (some a0)), some (sj_i x1), some (sj_i x2)] [] (g, V) := by
  intro a0 x1 x2 V ha0 h
  unfold g_X4_countAfloat_30 at h
  refine r_iinc (ln := fun w => [some (sj_r (some a0)), some (sj_i x1), some (sj_i w)]) (pc := 30) h dX4_countAfloat_30 rfl (Nat.le_of_ble_eq_true rfl) (fun _ => rfl) (fun v1 h => ?_)
  refine r_goto (pc := 33) (tgt := 4) dX4_countAfloat_33 (by decide) ?_
  exact sj_weak (l2 := [some (sj_r (some a0)), some (sj_i x1), some (sj_i v1)]) (⟨rfl, ⟨rfl, ⟨rfl, trivial⟩⟩⟩) (hk4 a0 x1 v1 V ha0 h)
set_option maxHeartbeats 4000000 in
theorem st_X4_countAfloat_4_b {X : sj_X} {g : sj_G} {s0 : sj_Mem} {N : Nat} {q : Int × sj_VV} {k4 : Nat → Int → Int → sj_VV → Option (Int × sj_VV)} (hk4 : ∀ (a0 : Nat) (x1 : Int) (x2 : Int) (V : sj_VV), OK4 g a0 → k4 a0 x1 x2 V = some q → sj_T X m_X4_countAfloat s0 (some (sj_i q.1), (g, q.2)) 4 [some (sj_r (some a0)), some (sj_i x1), some (sj_i x2)] [] (g, V)) :
    ∀ (a0 : Nat) (x1 : Int) (x2 : Int) (V : sj_VV), OK4 g a0 → g_X4_countAfloat_4_b N k4 a0 x1 x2 V = some q → sj_T X m_X4_countAfloat s0 (some (sj_i q.1), (g, q.2)) 4 [some (sj_r (some a0)), some (sj_i x1), some (sj_i x2)] [] (g, V) := by
  intro a0 x1 x2 V ha0 h
  unfold g_X4_countAfloat_4_b at h
  refine r_iload_n (pc := 4) dX4_countAfloat_4 rfl rfl ?_
  refine r_aload_n (pc := 5) dX4_countAfloat_5 rfl rfl ?_
  refine r_gIs (pc := 6) dX4_countAfloat_6 fw_X4_50 rfl (ok4 ha0) ?_
  refine r_icmp_ge (pc := 9) (tgt := 36) h dX4_countAfloat_9 (by decide) (fun h => ?_) (fun h => ?_)
  · refine r_iload_n (pc := 36) dX4_countAfloat_36 rfl rfl ?_
    exact r_irets (pc := 37) h rfl dX4_countAfloat_37
  · refine r_aload_n (pc := 12) dX4_countAfloat_12 rfl rfl ?_
    refine r_gRs (b := a0 + 3) (pc := 13) dX4_countAfloat_13 fw_X4_18 rfl (ok4 ha0) (ok4_2 ha0).1 ?_
    refine r_iload_n (pc := 16) dX4_countAfloat_16 rfl rfl ?_
    refine r_ialoads (pc := 17) h dX4_countAfloat_17 (ok4_2 ha0).2 (fun h => ?_)
    refine r_aload_n (pc := 18) dX4_countAfloat_18 rfl rfl ?_
    refine r_gRs (b := a0 + 2) (pc := 19) dX4_countAfloat_19 fw_X4_15 rfl (ok4 ha0) (ok4_1 ha0).1 ?_
    refine r_iload_n (pc := 22) dX4_countAfloat_22 rfl rfl ?_
    refine r_ialoads (pc := 23) h dX4_countAfloat_23 (ok4_1 ha0).2 (fun h => ?_)
    refine r_icmp_le (pc := 24) (tgt := 30) h dX4_countAfloat_24 (by decide) (fun h => ?_) (fun h => ?_)
    · exact sj_weak (l2 := [some (sj_r (some a0)), some (sj_i x1), some (sj_i x2)]) (⟨rfl, ⟨rfl, ⟨rfl, trivial⟩⟩⟩) (st_X4_countAfloat_30 hk4 a0 x1 x2 V ha0 h)
    · refine r_iinc (ln := fun w => [some (sj_r (some a0)), some (sj_i w), some (sj_i x2)]) (pc := 27) h dX4_countAfloat_27 rfl (Nat.le_of_ble_eq_true rfl) (fun _ => rfl) (fun v1 h => ?_)
      exact sj_weak (l2 := [some (sj_r (some a0)), some (sj_i v1), some (sj_i x2)]) (⟨rfl, ⟨rfl, ⟨rfl, trivial⟩⟩⟩) (st_X4_countAfloat_30 hk4 a0 v1 x2 V ha0 h)
set_option maxHeartbeats 4000000 in
theorem st_X4_countAfloat_4 {X : sj_X} {g : sj_G} {s0 : sj_Mem} {N : Nat} {q : Int × sj_VV} :
    ∀ (n : Nat) (a0 : Nat) (x1 : Int) (x2 : Int) (V : sj_VV), OK4 g a0 → g_X4_countAfloat_4 N n a0 x1 x2 V = some q → sj_T X m_X4_countAfloat s0 (some (sj_i q.1), (g, q.2)) 4 [some (sj_r (some a0)), some (sj_i x1), some (sj_i x2)] [] (g, V) := by
  intro n
  induction n with
  | zero => intro a0 x1 x2 V ha0 h; exact nomatch h
  | succ n ih => intro a0 x1 x2 V ha0 h; exact st_X4_countAfloat_4_b (N := N) ih a0 x1 x2 V ha0 h
set_option maxHeartbeats 4000000 in
theorem st_X4_countAfloat_0 {X : sj_X} {g : sj_G} {s0 : sj_Mem} {N : Nat} {q : Int × sj_VV} :
    ∀ (a0 : Nat) (V : sj_VV), OK4 g a0 → g_X4_countAfloat N a0 V = some q → sj_T X m_X4_countAfloat s0 (some (sj_i q.1), (g, q.2)) 0 [some (sj_r (some a0)), none, none] [] (g, V) := by
  intro a0 V ha0 h
  unfold g_X4_countAfloat at h
  refine r_iconst (pc := 0) dX4_countAfloat_0 ?_
  refine r_istore_n (ln := [some (sj_r (some a0)), some (sj_i 0), none]) (pc := 1) dX4_countAfloat_1 rfl (Nat.le_of_ble_eq_true rfl) rfl ?_
  refine r_iconst (pc := 2) dX4_countAfloat_2 ?_
  refine r_istore_n (ln := [some (sj_r (some a0)), some (sj_i 0), some (sj_i 0)]) (pc := 3) dX4_countAfloat_3 rfl (Nat.le_of_ble_eq_true rfl) rfl ?_
  exact sj_weak (l2 := [some (sj_r (some a0)), some (sj_i 0), some (sj_i 0)]) (⟨rfl, ⟨rfl, ⟨rfl, trivial⟩⟩⟩) (st_X4_countAfloat_4 N a0 0 0 V ha0 h)
set_option maxHeartbeats 4000000 in
theorem cg_X4_countAfloat {X : sj_X} {g : sj_G} {N : Nat} {a0 : Nat} {V : sj_VV} {q : Int × sj_VV} (ha0 : OK4 g a0) (h : g_X4_countAfloat N a0 V = some q) : sj_C X m_X4_countAfloat [sj_r (some a0)] (g, V) (some (sj_i q.1), (g, q.2)) :=
  sj_C_of (by decide +kernel) (Nat.le_of_ble_eq_true rfl) (lo := [some (sj_r (some a0)), none, none]) rfl (sj_weak (l2 := [some (sj_r (some a0)), none, none]) (⟨rfl, trivial⟩) (st_X4_countAfloat_0 a0 V ha0 h))
set_option maxHeartbeats 4000000 in
theorem c_X4_countAfloat {X : sj_X} {N : Nat} {a0 : Nat} {s : sj_Mem} {q : Int × sj_Mem} (h : f_X4_countAfloat N a0 s = some q) : sj_C X m_X4_countAfloat [sj_r (some a0)] s (some (sj_i q.1), q.2) := by
  obtain ⟨g, V⟩ := s
  unfold f_X4_countAfloat at h
  obtain ⟨ho, h1⟩ := e_ok_some h
  obtain ⟨q2, h2, rfl⟩ := sj_map_some h1
  exact cg_X4_countAfloat ho h2
theorem dX5_baseAt_0 : decode cX5_baseAt 0 = .ok (.aload_n 0, 1) := by decide +kernel
theorem dX5_baseAt_1 : decode cX5_baseAt 1 = .ok (.invokevirtual 32, 3) := by decide +kernel
theorem dX5_baseAt_4 : decode cX5_baseAt 4 = .ok (.ifCond .ne 19, 3) := by decide +kernel
theorem dX5_baseAt_7 : decode cX5_baseAt 7 = .ok (.iload_n 1, 1) := by decide +kernel
theorem dX5_baseAt_8 : decode cX5_baseAt 8 = .ok (.aload_n 0, 1) := by decide +kernel
theorem dX5_baseAt_9 : decode cX5_baseAt 9 = .ok (.getfield 15, 3) := by decide +kernel
theorem dX5_baseAt_12 : decode cX5_baseAt 12 = .ok (.if_icmp .lt 11, 3) := by decide +kernel
theorem dX5_baseAt_15 : decode cX5_baseAt 15 = .ok (.iload_n 1, 1) := by decide +kernel
theorem dX5_baseAt_16 : decode cX5_baseAt 16 = .ok (.aload_n 0, 1) := by decide +kernel
theorem dX5_baseAt_17 : decode cX5_baseAt 17 = .ok (.getfield 19, 3) := by decide +kernel
theorem dX5_baseAt_20 : decode cX5_baseAt 20 = .ok (.if_icmp .le 7, 3) := by decide +kernel
theorem dX5_baseAt_23 : decode cX5_baseAt 23 = .ok (.iconst (-1), 1) := by decide +kernel
theorem dX5_baseAt_24 : decode cX5_baseAt 24 = .ok (.goto 9, 3) := by decide +kernel
theorem dX5_baseAt_27 : decode cX5_baseAt 27 = .ok (.aload_n 0, 1) := by decide +kernel
theorem dX5_baseAt_28 : decode cX5_baseAt 28 = .ok (.getfield 9, 3) := by decide +kernel
theorem dX5_baseAt_31 : decode cX5_baseAt 31 = .ok (.iload_n 1, 1) := by decide +kernel
theorem dX5_baseAt_32 : decode cX5_baseAt 32 = .ok (.iaload, 1) := by decide +kernel
theorem dX5_baseAt_33 : decode cX5_baseAt 33 = .ok (.ireturn, 1) := by decide +kernel
set_option maxHeartbeats 4000000 in
theorem st_X5_baseAt_23 {X : sj_X} {g : sj_G} {s0 : sj_Mem} {N : Nat} {q : Int × sj_VV} :
    ∀ (V : sj_VV), g_X5_baseAt_23 N V = some q → sj_T X m_X5_baseAt s0 (some (sj_i q.1), (g, q.2)) 23 [none, none] [] (g, V) := by
  intro  V  h
  unfold g_X5_baseAt_23 at h
  refine r_iconst (pc := 23) dX5_baseAt_23 ?_
  refine r_goto (pc := 24) (tgt := 33) dX5_baseAt_24 (by decide) ?_
  exact r_irets (pc := 33) h rfl dX5_baseAt_33
set_option maxHeartbeats 4000000 in
theorem st_X5_baseAt_0 {X : sj_X} {g : sj_G} {s0 : sj_Mem} {N : Nat} {q : Int × sj_VV} :
    ∀ (a0 : Nat) (x1 : Int) (V : sj_VV), OK5 g a0 → g_X5_baseAt N a0 x1 V = some q → sj_T X m_X5_baseAt s0 (some (sj_i q.1), (g, q.2)) 0 [some (sj_r (some a0)), some (sj_i x1)] [] (g, V) := by
  intro a0 x1 V ha0 h
  unfold g_X5_baseAt at h
  refine r_aload_n (pc := 0) dX5_baseAt_0 rfl rfl ?_
  refine r_callVs (pc := 1) (fun v => some (sj_i v)) (As := []) (rest := []) (b := a0) (ok5 ha0) h dX5_baseAt_1 mw_X5_32 vw_X5_isNone (fun _ _ hc => cg_X5_isNone ha0 hc) rfl ⟨(Nat.le_of_ble_eq_true rfl), (Nat.le_of_ble_eq_true rfl)⟩ (Nat.le_of_ble_eq_true rfl) rfl (fun v2 V1 h => ?_)
  refine r_if_ne (pc := 4) (tgt := 23) h dX5_baseAt_4 (by decide) (fun h => ?_) (fun h => ?_)
  · refine r_iload_n (pc := 7) dX5_baseAt_7 rfl rfl ?_
    refine r_aload_n (pc := 8) dX5_baseAt_8 rfl rfl ?_
    refine r_gIs (pc := 9) dX5_baseAt_9 fw_X5_15 rfl (ok5 ha0) ?_
    refine r_icmp_lt (pc := 12) (tgt := 23) h dX5_baseAt_12 (by decide) (fun h => ?_) (fun h => ?_)
    · exact sj_weak (l2 := [none, none]) (trivial) (st_X5_baseAt_23 V1 h)
    · refine r_iload_n (pc := 15) dX5_baseAt_15 rfl rfl ?_
      refine r_aload_n (pc := 16) dX5_baseAt_16 rfl rfl ?_
      refine r_gIs (pc := 17) dX5_baseAt_17 fw_X5_19 rfl (ok5 ha0) ?_
      refine r_icmp_le (pc := 20) (tgt := 27) h dX5_baseAt_20 (by decide) (fun h => ?_) (fun h => ?_)
      · refine r_aload_n (pc := 27) dX5_baseAt_27 rfl rfl ?_
        refine r_gRs (b := a0 + 1) (pc := 28) dX5_baseAt_28 fw_X5_9 rfl (ok5 ha0) (ok5_0 ha0).1 ?_
        refine r_iload_n (pc := 31) dX5_baseAt_31 rfl rfl ?_
        refine r_ialoads (pc := 32) h dX5_baseAt_32 (ok5_0 ha0).2 (fun h => ?_)
        exact r_irets (pc := 33) h rfl dX5_baseAt_33
      · exact sj_weak (l2 := [none, none]) (trivial) (st_X5_baseAt_23 V1 h)
  · exact sj_weak (l2 := [none, none]) (trivial) (st_X5_baseAt_23 V1 h)
set_option maxHeartbeats 4000000 in
theorem cg_X5_baseAt {X : sj_X} {g : sj_G} {N : Nat} {a0 : Nat} {x1 : Int} {V : sj_VV} {q : Int × sj_VV} (ha0 : OK5 g a0) (h : g_X5_baseAt N a0 x1 V = some q) : sj_C X m_X5_baseAt [sj_r (some a0), sj_i x1] (g, V) (some (sj_i q.1), (g, q.2)) :=
  sj_C_of (by decide +kernel) (Nat.le_of_ble_eq_true rfl) (lo := [some (sj_r (some a0)), some (sj_i x1)]) rfl (sj_weak (l2 := [some (sj_r (some a0)), some (sj_i x1)]) (⟨rfl, ⟨rfl, trivial⟩⟩) (st_X5_baseAt_0 a0 x1 V ha0 h))
set_option maxHeartbeats 4000000 in
theorem c_X5_baseAt {X : sj_X} {N : Nat} {a0 : Nat} {x1 : Int} {s : sj_Mem} {q : Int × sj_Mem} (h : f_X5_baseAt N a0 x1 s = some q) : sj_C X m_X5_baseAt [sj_r (some a0), sj_i x1] s (some (sj_i q.1), q.2) := by
  obtain ⟨g, V⟩ := s
  unfold f_X5_baseAt at h
  obtain ⟨ho, h1⟩ := e_ok_some h
  obtain ⟨q2, h2, rfl⟩ := sj_map_some h1
  exact cg_X5_baseAt ho h2
theorem dX5_leastBase_0 : decode cX5_leastBase 0 = .ok (.bipush 100, 2) := by decide +kernel
theorem dX5_leastBase_2 : decode cX5_leastBase 2 = .ok (.istore_n 1, 1) := by decide +kernel
theorem dX5_leastBase_3 : decode cX5_leastBase 3 = .ok (.aload_n 0, 1) := by decide +kernel
theorem dX5_leastBase_4 : decode cX5_leastBase 4 = .ok (.getfield 15, 3) := by decide +kernel
theorem dX5_leastBase_7 : decode cX5_leastBase 7 = .ok (.iconst 0, 1) := by decide +kernel
theorem dX5_leastBase_8 : decode cX5_leastBase 8 = .ok (.invokestatic 36, 3) := by decide +kernel
theorem dX5_leastBase_11 : decode cX5_leastBase 11 = .ok (.istore_n 2, 1) := by decide +kernel
theorem dX5_leastBase_12 : decode cX5_leastBase 12 = .ok (.iload_n 2, 1) := by decide +kernel
theorem dX5_leastBase_13 : decode cX5_leastBase 13 = .ok (.aload_n 0, 1) := by decide +kernel
theorem dX5_leastBase_14 : decode cX5_leastBase 14 = .ok (.getfield 19, 3) := by decide +kernel
theorem dX5_leastBase_17 : decode cX5_leastBase 17 = .ok (.if_icmp .gt 20, 3) := by decide +kernel
theorem dX5_leastBase_20 : decode cX5_leastBase 20 = .ok (.iload_n 1, 1) := by decide +kernel
theorem dX5_leastBase_21 : decode cX5_leastBase 21 = .ok (.aload_n 0, 1) := by decide +kernel
theorem dX5_leastBase_22 : decode cX5_leastBase 22 = .ok (.getfield 9, 3) := by decide +kernel
theorem dX5_leastBase_25 : decode cX5_leastBase 25 = .ok (.iload_n 2, 1) := by decide +kernel
theorem dX5_leastBase_26 : decode cX5_leastBase 26 = .ok (.iaload, 1) := by decide +kernel
theorem dX5_leastBase_27 : decode cX5_leastBase 27 = .ok (.invokestatic 42, 3) := by decide +kernel
theorem dX5_leastBase_30 : decode cX5_leastBase 30 = .ok (.istore_n 1, 1) := by decide +kernel
theorem dX5_leastBase_31 : decode cX5_leastBase 31 = .ok (.iinc 2 1, 3) := by decide +kernel
theorem dX5_leastBase_34 : decode cX5_leastBase 34 = .ok (.goto (-22), 3) := by decide +kernel
theorem dX5_leastBase_37 : decode cX5_leastBase 37 = .ok (.iload_n 1, 1) := by decide +kernel
theorem dX5_leastBase_38 : decode cX5_leastBase 38 = .ok (.ireturn, 1) := by decide +kernel
set_option maxHeartbeats 4000000 in
theorem st_X5_leastBase_12_b {X : sj_X} {g : sj_G} {s0 : sj_Mem} {N : Nat} {q : Int × sj_VV} {k12 : Nat → Int → Int → sj_VV → Option (Int × sj_VV)} (hk12 : ∀ (a0 : Nat) (x1 : Int) (x2 : Int) (V : sj_VV), OK5 g a0 → k12 a0 x1 x2 V = some q → sj_T X m_X5_leastBase s0 (some (sj_i q.1), (g, q.2)) 12 [some (sj_r (some a0)), some (sj_i x1), some (sj_i x2)] [] (g, V)) :
    ∀ (a0 : Nat) (x1 : Int) (x2 : Int) (V : sj_VV), OK5 g a0 → g_X5_leastBase_12_b N k12 a0 x1 x2 V = some q → sj_T X m_X5_leastBase s0 (some (sj_i q.1), (g, q.2)) 12 [some (sj_r (some a0)), some (sj_i x1), some (sj_i x2)] [] (g, V) := by
  intro a0 x1 x2 V ha0 h
  unfold g_X5_leastBase_12_b at h
  refine r_iload_n (pc := 12) dX5_leastBase_12 rfl rfl ?_
  refine r_aload_n (pc := 13) dX5_leastBase_13 rfl rfl ?_
  refine r_gIs (pc := 14) dX5_leastBase_14 fw_X5_19 rfl (ok5 ha0) ?_
  refine r_icmp_gt (pc := 17) (tgt := 37) h dX5_leastBase_17 (by decide) (fun h => ?_) (fun h => ?_)
  · refine r_iload_n (pc := 37) dX5_leastBase_37 rfl rfl ?_
    exact r_irets (pc := 38) h rfl dX5_leastBase_38
  · refine r_iload_n (pc := 20) dX5_leastBase_20 rfl rfl ?_
    refine r_aload_n (pc := 21) dX5_leastBase_21 rfl rfl ?_
    refine r_gRs (b := a0 + 1) (pc := 22) dX5_leastBase_22 fw_X5_9 rfl (ok5 ha0) (ok5_0 ha0).1 ?_
    refine r_iload_n (pc := 25) dX5_leastBase_25 rfl rfl ?_
    refine r_ialoads (pc := 26) h dX5_leastBase_26 (ok5_0 ha0).2 (fun h => ?_)
    refine r_mmin (pc := 27) h dX5_leastBase_27 mx_X5_42 (Nat.le_of_ble_eq_true rfl) (Nat.le_of_ble_eq_true rfl) (fun v1 h => ?_)
    refine r_istore_n (ln := [some (sj_r (some a0)), some (sj_i v1), some (sj_i x2)]) (pc := 30) dX5_leastBase_30 rfl (Nat.le_of_ble_eq_true rfl) rfl ?_
    refine r_iinc (ln := fun w => [some (sj_r (some a0)), some (sj_i v1), some (sj_i w)]) (pc := 31) h dX5_leastBase_31 rfl (Nat.le_of_ble_eq_true rfl) (fun _ => rfl) (fun v2 h => ?_)
    refine r_goto (pc := 34) (tgt := 12) dX5_leastBase_34 (by decide) ?_
    exact sj_weak (l2 := [some (sj_r (some a0)), some (sj_i v1), some (sj_i v2)]) (⟨rfl, ⟨rfl, ⟨rfl, trivial⟩⟩⟩) (hk12 a0 v1 v2 V ha0 h)
set_option maxHeartbeats 4000000 in
theorem st_X5_leastBase_12 {X : sj_X} {g : sj_G} {s0 : sj_Mem} {N : Nat} {q : Int × sj_VV} :
    ∀ (n : Nat) (a0 : Nat) (x1 : Int) (x2 : Int) (V : sj_VV), OK5 g a0 → g_X5_leastBase_12 N n a0 x1 x2 V = some q → sj_T X m_X5_leastBase s0 (some (sj_i q.1), (g, q.2)) 12 [some (sj_r (some a0)), some (sj_i x1), some (sj_i x2)] [] (g, V) := by
  intro n
  induction n with
  | zero => intro a0 x1 x2 V ha0 h; exact nomatch h
  | succ n ih => intro a0 x1 x2 V ha0 h; exact st_X5_leastBase_12_b (N := N) ih a0 x1 x2 V ha0 h
set_option maxHeartbeats 4000000 in
theorem st_X5_leastBase_0 {X : sj_X} {g : sj_G} {s0 : sj_Mem} {N : Nat} {q : Int × sj_VV} :
    ∀ (a0 : Nat) (V : sj_VV), OK5 g a0 → g_X5_leastBase N a0 V = some q → sj_T X m_X5_leastBase s0 (some (sj_i q.1), (g, q.2)) 0 [some (sj_r (some a0)), none, none] [] (g, V) := by
  intro a0 V ha0 h
  unfold g_X5_leastBase at h
  refine r_bipush (pc := 0) dX5_leastBase_0 ⟨by decide, by decide⟩ ?_
  refine r_istore_n (ln := [some (sj_r (some a0)), some (sj_i 100), none]) (pc := 2) dX5_leastBase_2 rfl (Nat.le_of_ble_eq_true rfl) rfl ?_
  refine r_aload_n (pc := 3) dX5_leastBase_3 rfl rfl ?_
  refine r_gIs (pc := 4) dX5_leastBase_4 fw_X5_15 rfl (ok5 ha0) ?_
  refine r_iconst (pc := 7) dX5_leastBase_7 ?_
  refine r_mmax (pc := 8) h dX5_leastBase_8 mx_X5_36 (Nat.le_of_ble_eq_true rfl) (Nat.le_of_ble_eq_true rfl) (fun v1 h => ?_)
  refine r_istore_n (ln := [some (sj_r (some a0)), some (sj_i 100), some (sj_i v1)]) (pc := 11) dX5_leastBase_11 rfl (Nat.le_of_ble_eq_true rfl) rfl ?_
  exact sj_weak (l2 := [some (sj_r (some a0)), some (sj_i 100), some (sj_i v1)]) (⟨rfl, ⟨rfl, ⟨rfl, trivial⟩⟩⟩) (st_X5_leastBase_12 N a0 100 v1 V ha0 h)
set_option maxHeartbeats 4000000 in
theorem cg_X5_leastBase {X : sj_X} {g : sj_G} {N : Nat} {a0 : Nat} {V : sj_VV} {q : Int × sj_VV} (ha0 : OK5 g a0) (h : g_X5_leastBase N a0 V = some q) : sj_C X m_X5_leastBase [sj_r (some a0)] (g, V) (some (sj_i q.1), (g, q.2)) :=
  sj_C_of (by decide +kernel) (Nat.le_of_ble_eq_true rfl) (lo := [some (sj_r (some a0)), none, none]) rfl (sj_weak (l2 := [some (sj_r (some a0)), none, none]) (⟨rfl, trivial⟩) (st_X5_leastBase_0 a0 V ha0 h))
set_option maxHeartbeats 4000000 in
theorem c_X5_leastBase {X : sj_X} {N : Nat} {a0 : Nat} {s : sj_Mem} {q : Int × sj_Mem} (h : f_X5_leastBase N a0 s = some q) : sj_C X m_X5_leastBase [sj_r (some a0)] s (some (sj_i q.1), q.2) := by
  obtain ⟨g, V⟩ := s
  unfold f_X5_leastBase at h
  obtain ⟨ho, h1⟩ := e_ok_some h
  obtain ⟨q2, h2, rfl⟩ := sj_map_some h1
  exact cg_X5_leastBase ho h2
theorem dJ9_floorDiv_7cf53_0 : decode cJ9_floorDiv_7cf53 0 = .ok (.iload_n 0, 1) := by decide +kernel
theorem dJ9_floorDiv_7cf53_1 : decode cJ9_floorDiv_7cf53 1 = .ok (.iload_n 1, 1) := by decide +kernel
theorem dJ9_floorDiv_7cf53_2 : decode cJ9_floorDiv_7cf53 2 = .ok (.idiv, 1) := by decide +kernel
theorem dJ9_floorDiv_7cf53_3 : decode cJ9_floorDiv_7cf53 3 = .ok (.istore_n 2, 1) := by decide +kernel
theorem dJ9_floorDiv_7cf53_4 : decode cJ9_floorDiv_7cf53 4 = .ok (.iload_n 0, 1) := by decide +kernel
theorem dJ9_floorDiv_7cf53_5 : decode cJ9_floorDiv_7cf53 5 = .ok (.iload_n 1, 1) := by decide +kernel
theorem dJ9_floorDiv_7cf53_6 : decode cJ9_floorDiv_7cf53 6 = .ok (.ixor, 1) := by decide +kernel
theorem dJ9_floorDiv_7cf53_7 : decode cJ9_floorDiv_7cf53 7 = .ok (.ifCond .ge 14, 3) := by decide +kernel
theorem dJ9_floorDiv_7cf53_10 : decode cJ9_floorDiv_7cf53 10 = .ok (.iload_n 2, 1) := by decide +kernel
theorem dJ9_floorDiv_7cf53_11 : decode cJ9_floorDiv_7cf53 11 = .ok (.iload_n 1, 1) := by decide +kernel
theorem dJ9_floorDiv_7cf53_12 : decode cJ9_floorDiv_7cf53 12 = .ok (.imul, 1) := by decide +kernel
theorem dJ9_floorDiv_7cf53_13 : decode cJ9_floorDiv_7cf53 13 = .ok (.iload_n 0, 1) := by decide +kernel
theorem dJ9_floorDiv_7cf53_14 : decode cJ9_floorDiv_7cf53 14 = .ok (.if_icmp .eq 7, 3) := by decide +kernel
theorem dJ9_floorDiv_7cf53_17 : decode cJ9_floorDiv_7cf53 17 = .ok (.iload_n 2, 1) := by decide +kernel
theorem dJ9_floorDiv_7cf53_18 : decode cJ9_floorDiv_7cf53 18 = .ok (.iconst 1, 1) := by decide +kernel
theorem dJ9_floorDiv_7cf53_19 : decode cJ9_floorDiv_7cf53 19 = .ok (.isub, 1) := by decide +kernel
theorem dJ9_floorDiv_7cf53_20 : decode cJ9_floorDiv_7cf53 20 = .ok (.ireturn, 1) := by decide +kernel
theorem dJ9_floorDiv_7cf53_21 : decode cJ9_floorDiv_7cf53 21 = .ok (.iload_n 2, 1) := by decide +kernel
theorem dJ9_floorDiv_7cf53_22 : decode cJ9_floorDiv_7cf53 22 = .ok (.ireturn, 1) := by decide +kernel
set_option maxHeartbeats 4000000 in
theorem st_J9_floorDiv_7cf53_0 {X : sj_X} {g : sj_G} {s0 : sj_Mem} {N : Nat} {q : Int × sj_VV} :
    ∀ (x0 : Int) (x1 : Int) (V : sj_VV), g_J9_floorDiv_7cf53 N x0 x1 V = some q → sj_T X m_J9_floorDiv_7cf53 s0 (some (sj_i q.1), (g, q.2)) 0 [some (sj_i x0), some (sj_i x1), none] [] (g, V) := by
  intro x0 x1 V  h
  unfold g_J9_floorDiv_7cf53 at h
  refine r_iload_n (pc := 0) dJ9_floorDiv_7cf53_0 rfl rfl ?_
  refine r_iload_n (pc := 1) dJ9_floorDiv_7cf53_1 rfl rfl ?_
  refine r_idiv (pc := 2) h dJ9_floorDiv_7cf53_2 (fun v1 h => ?_)
  refine r_istore_n (ln := [some (sj_i x0), some (sj_i x1), some (sj_i v1)]) (pc := 3) dJ9_floorDiv_7cf53_3 rfl (Nat.le_of_ble_eq_true rfl) rfl ?_
  refine r_iload_n (pc := 4) dJ9_floorDiv_7cf53_4 rfl rfl ?_
  refine r_iload_n (pc := 5) dJ9_floorDiv_7cf53_5 rfl rfl ?_
  refine r_ixor (pc := 6) dJ9_floorDiv_7cf53_6 ?_
  refine r_if_ge (pc := 7) (tgt := 21) h dJ9_floorDiv_7cf53_7 (by decide) (fun h => ?_) (fun h => ?_)
  · refine r_iload_n (pc := 21) dJ9_floorDiv_7cf53_21 rfl rfl ?_
    exact r_irets (pc := 22) h rfl dJ9_floorDiv_7cf53_22
  · refine r_iload_n (pc := 10) dJ9_floorDiv_7cf53_10 rfl rfl ?_
    refine r_iload_n (pc := 11) dJ9_floorDiv_7cf53_11 rfl rfl ?_
    refine r_imul (pc := 12) dJ9_floorDiv_7cf53_12 ?_
    refine r_iload_n (pc := 13) dJ9_floorDiv_7cf53_13 rfl rfl ?_
    refine r_icmp_eq (pc := 14) (tgt := 21) h dJ9_floorDiv_7cf53_14 (by decide) (fun h => ?_) (fun h => ?_)
    · refine r_iload_n (pc := 21) dJ9_floorDiv_7cf53_21 rfl rfl ?_
      exact r_irets (pc := 22) h rfl dJ9_floorDiv_7cf53_22
    · refine r_iload_n (pc := 17) dJ9_floorDiv_7cf53_17 rfl rfl ?_
      refine r_iconst (pc := 18) dJ9_floorDiv_7cf53_18 ?_
      refine r_isub (pc := 19) dJ9_floorDiv_7cf53_19 ?_
      exact r_irets (pc := 20) h rfl dJ9_floorDiv_7cf53_20
set_option maxHeartbeats 4000000 in
theorem cg_J9_floorDiv_7cf53 {X : sj_X} {g : sj_G} {N : Nat} {x0 : Int} {x1 : Int} {V : sj_VV} {q : Int × sj_VV} (h : g_J9_floorDiv_7cf53 N x0 x1 V = some q) : sj_C X m_J9_floorDiv_7cf53 [sj_i x0, sj_i x1] (g, V) (some (sj_i q.1), (g, q.2)) :=
  sj_C_of (by decide +kernel) (Nat.le_of_ble_eq_true rfl) (lo := [some (sj_i x0), some (sj_i x1), none]) rfl (sj_weak (l2 := [some (sj_i x0), some (sj_i x1), none]) (⟨rfl, ⟨rfl, trivial⟩⟩) (st_J9_floorDiv_7cf53_0 x0 x1 V h))
set_option maxHeartbeats 4000000 in
theorem c_J9_floorDiv_7cf53 {X : sj_X} {N : Nat} {x0 : Int} {x1 : Int} {s : sj_Mem} {q : Int × sj_Mem} (h : f_J9_floorDiv_7cf53 N x0 x1 s = some q) : sj_C X m_J9_floorDiv_7cf53 [sj_i x0, sj_i x1] s (some (sj_i q.1), q.2) := by
  obtain ⟨g, V⟩ := s
  unfold f_J9_floorDiv_7cf53 at h
  obtain ⟨ho, h1⟩ := e_ok_some h
  obtain ⟨q2, h2, rfl⟩ := sj_map_some h1
  exact cg_J9_floorDiv_7cf53  h2
theorem dX5_heightAt_0 : decode cX5_heightAt 0 = .ok (.iload_n 1, 1) := by decide +kernel
theorem dX5_heightAt_1 : decode cX5_heightAt 1 = .ok (.iconst 1, 1) := by decide +kernel
theorem dX5_heightAt_2 : decode cX5_heightAt 2 = .ok (.isub, 1) := by decide +kernel
theorem dX5_heightAt_3 : decode cX5_heightAt 3 = .ok (.istore_n 3, 1) := by decide +kernel
theorem dX5_heightAt_4 : decode cX5_heightAt 4 = .ok (.aload_n 0, 1) := by decide +kernel
theorem dX5_heightAt_5 : decode cX5_heightAt 5 = .ok (.getfield 72, 3) := by decide +kernel
theorem dX5_heightAt_8 : decode cX5_heightAt 8 = .ok (.iload_n 1, 1) := by decide +kernel
theorem dX5_heightAt_9 : decode cX5_heightAt 9 = .ok (.iaload, 1) := by decide +kernel
theorem dX5_heightAt_10 : decode cX5_heightAt 10 = .ok (.aload_n 0, 1) := by decide +kernel
theorem dX5_heightAt_11 : decode cX5_heightAt 11 = .ok (.getfield 72, 3) := by decide +kernel
theorem dX5_heightAt_14 : decode cX5_heightAt 14 = .ok (.iload_n 3, 1) := by decide +kernel
theorem dX5_heightAt_15 : decode cX5_heightAt 15 = .ok (.iaload, 1) := by decide +kernel
theorem dX5_heightAt_16 : decode cX5_heightAt 16 = .ok (.isub, 1) := by decide +kernel
theorem dX5_heightAt_17 : decode cX5_heightAt 17 = .ok (.istore 4, 2) := by decide +kernel
theorem dX5_heightAt_19 : decode cX5_heightAt 19 = .ok (.iload 4, 2) := by decide +kernel
theorem dX5_heightAt_21 : decode cX5_heightAt 21 = .ok (.ifCond .gt 10, 3) := by decide +kernel
theorem dX5_heightAt_24 : decode cX5_heightAt 24 = .ok (.aload_n 0, 1) := by decide +kernel
theorem dX5_heightAt_25 : decode cX5_heightAt 25 = .ok (.getfield 79, 3) := by decide +kernel
theorem dX5_heightAt_28 : decode cX5_heightAt 28 = .ok (.iload_n 1, 1) := by decide +kernel
theorem dX5_heightAt_29 : decode cX5_heightAt 29 = .ok (.iaload, 1) := by decide +kernel
theorem dX5_heightAt_30 : decode cX5_heightAt 30 = .ok (.ireturn, 1) := by decide +kernel
theorem dX5_heightAt_31 : decode cX5_heightAt 31 = .ok (.aload_n 0, 1) := by decide +kernel
theorem dX5_heightAt_32 : decode cX5_heightAt 32 = .ok (.getfield 79, 3) := by decide +kernel
theorem dX5_heightAt_35 : decode cX5_heightAt 35 = .ok (.iload_n 1, 1) := by decide +kernel
theorem dX5_heightAt_36 : decode cX5_heightAt 36 = .ok (.iaload, 1) := by decide +kernel
theorem dX5_heightAt_37 : decode cX5_heightAt 37 = .ok (.aload_n 0, 1) := by decide +kernel
theorem dX5_heightAt_38 : decode cX5_heightAt 38 = .ok (.getfield 79, 3) := by decide +kernel
theorem dX5_heightAt_41 : decode cX5_heightAt 41 = .ok (.iload_n 3, 1) := by decide +kernel
theorem dX5_heightAt_42 : decode cX5_heightAt 42 = .ok (.iaload, 1) := by decide +kernel
theorem dX5_heightAt_43 : decode cX5_heightAt 43 = .ok (.isub, 1) := by decide +kernel
theorem dX5_heightAt_44 : decode cX5_heightAt 44 = .ok (.istore 5, 2) := by decide +kernel
theorem dX5_heightAt_46 : decode cX5_heightAt 46 = .ok (.aload_n 0, 1) := by decide +kernel
theorem dX5_heightAt_47 : decode cX5_heightAt 47 = .ok (.getfield 79, 3) := by decide +kernel
theorem dX5_heightAt_50 : decode cX5_heightAt 50 = .ok (.iload_n 3, 1) := by decide +kernel
theorem dX5_heightAt_51 : decode cX5_heightAt 51 = .ok (.iaload, 1) := by decide +kernel
theorem dX5_heightAt_52 : decode cX5_heightAt 52 = .ok (.iload 5, 2) := by decide +kernel
theorem dX5_heightAt_54 : decode cX5_heightAt 54 = .ok (.iload_n 2, 1) := by decide +kernel
theorem dX5_heightAt_55 : decode cX5_heightAt 55 = .ok (.aload_n 0, 1) := by decide +kernel
theorem dX5_heightAt_56 : decode cX5_heightAt 56 = .ok (.getfield 72, 3) := by decide +kernel
theorem dX5_heightAt_59 : decode cX5_heightAt 59 = .ok (.iload_n 3, 1) := by decide +kernel
theorem dX5_heightAt_60 : decode cX5_heightAt 60 = .ok (.iaload, 1) := by decide +kernel
theorem dX5_heightAt_61 : decode cX5_heightAt 61 = .ok (.isub, 1) := by decide +kernel
theorem dX5_heightAt_62 : decode cX5_heightAt 62 = .ok (.imul, 1) := by decide +kernel
theorem dX5_heightAt_63 : decode cX5_heightAt 63 = .ok (.iload 4, 2) := by decide +kernel
theorem dX5_heightAt_65 : decode cX5_heightAt 65 = .ok (.invokestatic 82, 3) := by decide +kernel
theorem dX5_heightAt_68 : decode cX5_heightAt 68 = .ok (.iadd, 1) := by decide +kernel
theorem dX5_heightAt_69 : decode cX5_heightAt 69 = .ok (.ireturn, 1) := by decide +kernel
set_option maxHeartbeats 4000000 in
theorem st_X5_heightAt_0 {X : sj_X} {g : sj_G} {s0 : sj_Mem} {N : Nat} {q : Int × sj_VV} :
    ∀ (x0 : Nat) (x1 : Int) (x2 : Int) (V : sj_VV), OK1 g x0 → g_X5_heightAt N x0 x1 x2 V = some q → sj_T X m_X5_heightAt s0 (some (sj_i q.1), (g, q.2)) 0 [some (sj_r (some x0)), some (sj_i x1), some (sj_i x2), none, none, none] [] (g, V) := by
  intro x0 x1 x2 V hx0 h
  unfold g_X5_heightAt at h
  refine r_iload_n (pc := 0) dX5_heightAt_0 rfl rfl ?_
  refine r_iconst (pc := 1) dX5_heightAt_1 ?_
  refine r_isub (pc := 2) dX5_heightAt_2 ?_
  refine r_istore_nL (ln := fun w => [some (sj_r (some x0)), some (sj_i x1), some (sj_i x2), some (sj_i w), none, none]) (pc := 3) h dX5_heightAt_3 rfl (Nat.le_of_ble_eq_true rfl) (fun _ => rfl) (fun v1 h => ?_)
  refine r_aload_n (pc := 4) dX5_heightAt_4 rfl rfl ?_
  refine r_gRs (b := x0 + 1) (pc := 5) dX5_heightAt_5 fw_X5_72 rfl (ok1 hx0) (ok1_0 hx0).1 ?_
  refine r_iload_n (pc := 8) dX5_heightAt_8 rfl rfl ?_
  refine r_ialoads (pc := 9) h dX5_heightAt_9 (ok1_0 hx0).2 (fun h => ?_)
  refine r_aload_n (pc := 10) dX5_heightAt_10 rfl rfl ?_
  refine r_gRs (b := x0 + 1) (pc := 11) dX5_heightAt_11 fw_X5_72 rfl (ok1 hx0) (ok1_0 hx0).1 ?_
  refine r_iload_n (pc := 14) dX5_heightAt_14 rfl rfl ?_
  refine r_ialoads (pc := 15) h dX5_heightAt_15 (ok1_0 hx0).2 (fun h => ?_)
  refine r_isub (pc := 16) dX5_heightAt_16 ?_
  refine r_istoreL (ln := fun w => [some (sj_r (some x0)), some (sj_i x1), some (sj_i x2), some (sj_i v1), some (sj_i w), none]) (pc := 17) h dX5_heightAt_17 (Nat.le_of_ble_eq_true rfl) (fun _ => rfl) (fun v2 h => ?_)
  refine r_iload (pc := 19) dX5_heightAt_19 rfl ?_
  refine r_if_gt (pc := 21) (tgt := 31) h dX5_heightAt_21 (by decide) (fun h => ?_) (fun h => ?_)
  · refine r_aload_n (pc := 31) dX5_heightAt_31 rfl rfl ?_
    refine r_gRs (b := x0 + 2) (pc := 32) dX5_heightAt_32 fw_X5_79 rfl (ok1 hx0) (ok1_1 hx0).1 ?_
    refine r_iload_n (pc := 35) dX5_heightAt_35 rfl rfl ?_
    refine r_ialoads (pc := 36) h dX5_heightAt_36 (ok1_1 hx0).2 (fun h => ?_)
    refine r_aload_n (pc := 37) dX5_heightAt_37 rfl rfl ?_
    refine r_gRs (b := x0 + 2) (pc := 38) dX5_heightAt_38 fw_X5_79 rfl (ok1 hx0) (ok1_1 hx0).1 ?_
    refine r_iload_n (pc := 41) dX5_heightAt_41 rfl rfl ?_
    refine r_ialoads (pc := 42) h dX5_heightAt_42 (ok1_1 hx0).2 (fun h => ?_)
    refine r_isub (pc := 43) dX5_heightAt_43 ?_
    refine r_istoreL (ln := fun w => [some (sj_r (some x0)), some (sj_i x1), some (sj_i x2), some (sj_i v1), some (sj_i v2), some (sj_i w)]) (pc := 44) h dX5_heightAt_44 (Nat.le_of_ble_eq_true rfl) (fun _ => rfl) (fun v3 h => ?_)
    refine r_aload_n (pc := 46) dX5_heightAt_46 rfl rfl ?_
    refine r_gRs (b := x0 + 2) (pc := 47) dX5_heightAt_47 fw_X5_79 rfl (ok1 hx0) (ok1_1 hx0).1 ?_
    refine r_iload_n (pc := 50) dX5_heightAt_50 rfl rfl ?_
    refine r_ialoads (pc := 51) h dX5_heightAt_51 (ok1_1 hx0).2 (fun h => ?_)
    refine r_iload (pc := 52) dX5_heightAt_52 rfl ?_
    refine r_iload_n (pc := 54) dX5_heightAt_54 rfl rfl ?_
    refine r_aload_n (pc := 55) dX5_heightAt_55 rfl rfl ?_
    refine r_gRs (b := x0 + 1) (pc := 56) dX5_heightAt_56 fw_X5_72 rfl (ok1 hx0) (ok1_0 hx0).1 ?_
    refine r_iload_n (pc := 59) dX5_heightAt_59 rfl rfl ?_
    refine r_ialoads (pc := 60) h dX5_heightAt_60 (ok1_0 hx0).2 (fun h => ?_)
    refine r_isub (pc := 61) dX5_heightAt_61 ?_
    refine r_imul (pc := 62) dX5_heightAt_62 ?_
    refine r_iload (pc := 63) dX5_heightAt_63 rfl ?_
    refine r_callSs (pc := 65) (fun v => some (sj_i v)) (As := [sj_i (v3 * (x2 - (V (x0 + 1) v1.toNat))), sj_i v2]) (rest := [(sj_i (V (x0 + 2) v1.toNat))]) h dX5_heightAt_65 mw_X5_82 kw_641 (fun _ _ hc => cg_J9_floorDiv_7cf53  hc) rfl ⟨(Nat.le_of_ble_eq_true rfl), (Nat.le_of_ble_eq_true rfl)⟩ (Nat.le_of_ble_eq_true rfl) rfl (fun v5 V4 h => ?_)
    refine r_iadd (pc := 68) dX5_heightAt_68 ?_
    exact r_irets (pc := 69) h rfl dX5_heightAt_69
  · refine r_aload_n (pc := 24) dX5_heightAt_24 rfl rfl ?_
    refine r_gRs (b := x0 + 2) (pc := 25) dX5_heightAt_25 fw_X5_79 rfl (ok1 hx0) (ok1_1 hx0).1 ?_
    refine r_iload_n (pc := 28) dX5_heightAt_28 rfl rfl ?_
    refine r_ialoads (pc := 29) h dX5_heightAt_29 (ok1_1 hx0).2 (fun h => ?_)
    exact r_irets (pc := 30) h rfl dX5_heightAt_30
set_option maxHeartbeats 4000000 in
theorem cg_X5_heightAt {X : sj_X} {g : sj_G} {N : Nat} {x0 : Nat} {x1 : Int} {x2 : Int} {V : sj_VV} {q : Int × sj_VV} (hx0 : OK1 g x0) (h : g_X5_heightAt N x0 x1 x2 V = some q) : sj_C X m_X5_heightAt [sj_r (some x0), sj_i x1, sj_i x2] (g, V) (some (sj_i q.1), (g, q.2)) :=
  sj_C_of (by decide +kernel) (Nat.le_of_ble_eq_true rfl) (lo := [some (sj_r (some x0)), some (sj_i x1), some (sj_i x2), none, none, none]) rfl (sj_weak (l2 := [some (sj_r (some x0)), some (sj_i x1), some (sj_i x2), none, none, none]) (⟨rfl, ⟨rfl, ⟨rfl, trivial⟩⟩⟩) (st_X5_heightAt_0 x0 x1 x2 V hx0 h))
set_option maxHeartbeats 4000000 in
theorem c_X5_heightAt {X : sj_X} {N : Nat} {x0 : Option Nat} {x1 : Int} {x2 : Int} {s : sj_Mem} {q : Int × sj_Mem} (h : f_X5_heightAt N x0 x1 x2 s = some q) : sj_C X m_X5_heightAt [sj_r x0, sj_i x1, sj_i x2] s (some (sj_i q.1), q.2) := by
  obtain ⟨g, V⟩ := s
  unfold f_X5_heightAt at h
  obtain ⟨ho, h1⟩ := e_ok_some h
  obtain ⟨q2, h2, rfl⟩ := sj_map_some h1
  obtain ⟨z0, hz0⟩ : ∃ z, x0 = some z := ⟨_, ho.1⟩
  subst hz0
  exact cg_X5_heightAt ho.2 h2
theorem dX5_follow_0 : decode cX5_follow 0 = .ok (.aload_n 2, 1) := by decide +kernel
theorem dX5_follow_1 : decode cX5_follow 1 = .ok (.getfield 67, 3) := by decide +kernel
theorem dX5_follow_4 : decode cX5_follow 4 = .ok (.istore 4, 2) := by decide +kernel
theorem dX5_follow_6 : decode cX5_follow 6 = .ok (.iload 4, 2) := by decide +kernel
theorem dX5_follow_8 : decode cX5_follow 8 = .ok (.iconst 2, 1) := by decide +kernel
theorem dX5_follow_9 : decode cX5_follow 9 = .ok (.if_icmp .lt 26, 3) := by decide +kernel
theorem dX5_follow_12 : decode cX5_follow 12 = .ok (.iload 4, 2) := by decide +kernel
theorem dX5_follow_14 : decode cX5_follow 14 = .ok (.bipush 12, 2) := by decide +kernel
theorem dX5_follow_16 : decode cX5_follow 16 = .ok (.if_icmp .gt 19, 3) := by decide +kernel
theorem dX5_follow_19 : decode cX5_follow 19 = .ok (.aload_n 2, 1) := by decide +kernel
theorem dX5_follow_20 : decode cX5_follow 20 = .ok (.getfield 72, 3) := by decide +kernel
theorem dX5_follow_23 : decode cX5_follow 23 = .ok (.iload 4, 2) := by decide +kernel
theorem dX5_follow_25 : decode cX5_follow 25 = .ok (.iconst 1, 1) := by decide +kernel
theorem dX5_follow_26 : decode cX5_follow 26 = .ok (.isub, 1) := by decide +kernel
theorem dX5_follow_27 : decode cX5_follow 27 = .ok (.iaload, 1) := by decide +kernel
theorem dX5_follow_28 : decode cX5_follow 28 = .ok (.aload_n 1, 1) := by decide +kernel
theorem dX5_follow_29 : decode cX5_follow 29 = .ok (.getfield 50, 3) := by decide +kernel
theorem dX5_follow_32 : decode cX5_follow 32 = .ok (.if_icmp .le 5, 3) := by decide +kernel
theorem dX5_follow_35 : decode cX5_follow 35 = .ok (.iconst 0, 1) := by decide +kernel
theorem dX5_follow_36 : decode cX5_follow 36 = .ok (.ireturn, 1) := by decide +kernel
theorem dX5_follow_37 : decode cX5_follow 37 = .ok (.iconst 1, 1) := by decide +kernel
theorem dX5_follow_38 : decode cX5_follow 38 = .ok (.istore 5, 2) := by decide +kernel
theorem dX5_follow_40 : decode cX5_follow 40 = .ok (.aload_n 2, 1) := by decide +kernel
theorem dX5_follow_41 : decode cX5_follow 41 = .ok (.getfield 72, 3) := by decide +kernel
theorem dX5_follow_44 : decode cX5_follow 44 = .ok (.iconst 0, 1) := by decide +kernel
theorem dX5_follow_45 : decode cX5_follow 45 = .ok (.iaload, 1) := by decide +kernel
theorem dX5_follow_46 : decode cX5_follow 46 = .ok (.istore 6, 2) := by decide +kernel
theorem dX5_follow_48 : decode cX5_follow 48 = .ok (.aload_n 2, 1) := by decide +kernel
theorem dX5_follow_49 : decode cX5_follow 49 = .ok (.getfield 72, 3) := by decide +kernel
theorem dX5_follow_52 : decode cX5_follow 52 = .ok (.iload 4, 2) := by decide +kernel
theorem dX5_follow_54 : decode cX5_follow 54 = .ok (.iconst 1, 1) := by decide +kernel
theorem dX5_follow_55 : decode cX5_follow 55 = .ok (.isub, 1) := by decide +kernel
theorem dX5_follow_56 : decode cX5_follow 56 = .ok (.iaload, 1) := by decide +kernel
theorem dX5_follow_57 : decode cX5_follow 57 = .ok (.istore 7, 2) := by decide +kernel
theorem dX5_follow_59 : decode cX5_follow 59 = .ok (.iload 6, 2) := by decide +kernel
theorem dX5_follow_61 : decode cX5_follow 61 = .ok (.iconst 1, 1) := by decide +kernel
theorem dX5_follow_62 : decode cX5_follow 62 = .ok (.iadd, 1) := by decide +kernel
theorem dX5_follow_63 : decode cX5_follow 63 = .ok (.istore 8, 2) := by decide +kernel
theorem dX5_follow_65 : decode cX5_follow 65 = .ok (.iload 8, 2) := by decide +kernel
theorem dX5_follow_67 : decode cX5_follow 67 = .ok (.iload 7, 2) := by decide +kernel
theorem dX5_follow_69 : decode cX5_follow 69 = .ok (.if_icmp .ge 78, 3) := by decide +kernel
theorem dX5_follow_72 : decode cX5_follow 72 = .ok (.iload 5, 2) := by decide +kernel
theorem dX5_follow_74 : decode cX5_follow 74 = .ok (.iload 4, 2) := by decide +kernel
theorem dX5_follow_76 : decode cX5_follow 76 = .ok (.iconst 1, 1) := by decide +kernel
theorem dX5_follow_77 : decode cX5_follow 77 = .ok (.isub, 1) := by decide +kernel
theorem dX5_follow_78 : decode cX5_follow 78 = .ok (.if_icmp .ge 18, 3) := by decide +kernel
theorem dX5_follow_81 : decode cX5_follow 81 = .ok (.iload 8, 2) := by decide +kernel
theorem dX5_follow_83 : decode cX5_follow 83 = .ok (.aload_n 2, 1) := by decide +kernel
theorem dX5_follow_84 : decode cX5_follow 84 = .ok (.getfield 72, 3) := by decide +kernel
theorem dX5_follow_87 : decode cX5_follow 87 = .ok (.iload 5, 2) := by decide +kernel
theorem dX5_follow_89 : decode cX5_follow 89 = .ok (.iaload, 1) := by decide +kernel
theorem dX5_follow_90 : decode cX5_follow 90 = .ok (.if_icmp .le 6, 3) := by decide +kernel
theorem dX5_follow_93 : decode cX5_follow 93 = .ok (.iinc 5 1, 3) := by decide +kernel
theorem dX5_follow_96 : decode cX5_follow 96 = .ok (.aload_n 2, 1) := by decide +kernel
theorem dX5_follow_97 : decode cX5_follow 97 = .ok (.iload 5, 2) := by decide +kernel
theorem dX5_follow_99 : decode cX5_follow 99 = .ok (.iload 8, 2) := by decide +kernel
theorem dX5_follow_101 : decode cX5_follow 101 = .ok (.invokestatic 75, 3) := by decide +kernel
theorem dX5_follow_104 : decode cX5_follow 104 = .ok (.istore 9, 2) := by decide +kernel
theorem dX5_follow_106 : decode cX5_follow 106 = .ok (.iload 9, 2) := by decide +kernel
theorem dX5_follow_108 : decode cX5_follow 108 = .ok (.aload_n 1, 1) := by decide +kernel
theorem dX5_follow_109 : decode cX5_follow 109 = .ok (.getfield 45, 3) := by decide +kernel
theorem dX5_follow_112 : decode cX5_follow 112 = .ok (.iload 8, 2) := by decide +kernel
theorem dX5_follow_114 : decode cX5_follow 114 = .ok (.iaload, 1) := by decide +kernel
theorem dX5_follow_115 : decode cX5_follow 115 = .ok (.if_icmp .ge 15, 3) := by decide +kernel
theorem dX5_follow_118 : decode cX5_follow 118 = .ok (.iload 9, 2) := by decide +kernel
theorem dX5_follow_120 : decode cX5_follow 120 = .ok (.aload_n 1, 1) := by decide +kernel
theorem dX5_follow_121 : decode cX5_follow 121 = .ok (.getfield 60, 3) := by decide +kernel
theorem dX5_follow_124 : decode cX5_follow 124 = .ok (.iload 8, 2) := by decide +kernel
theorem dX5_follow_126 : decode cX5_follow 126 = .ok (.iaload, 1) := by decide +kernel
theorem dX5_follow_127 : decode cX5_follow 127 = .ok (.if_icmp .ge 5, 3) := by decide +kernel
theorem dX5_follow_130 : decode cX5_follow 130 = .ok (.iconst 0, 1) := by decide +kernel
theorem dX5_follow_131 : decode cX5_follow 131 = .ok (.ireturn, 1) := by decide +kernel
theorem dX5_follow_132 : decode cX5_follow 132 = .ok (.aload_n 0, 1) := by decide +kernel
theorem dX5_follow_133 : decode cX5_follow 133 = .ok (.getfield 9, 3) := by decide +kernel
theorem dX5_follow_136 : decode cX5_follow 136 = .ok (.iload 8, 2) := by decide +kernel
theorem dX5_follow_138 : decode cX5_follow 138 = .ok (.iload 9, 2) := by decide +kernel
theorem dX5_follow_140 : decode cX5_follow 140 = .ok (.iastore, 1) := by decide +kernel
theorem dX5_follow_141 : decode cX5_follow 141 = .ok (.iinc 8 1, 3) := by decide +kernel
theorem dX5_follow_144 : decode cX5_follow 144 = .ok (.goto (-79), 3) := by decide +kernel
theorem dX5_follow_147 : decode cX5_follow 147 = .ok (.aload_n 0, 1) := by decide +kernel
theorem dX5_follow_148 : decode cX5_follow 148 = .ok (.aload_n 1, 1) := by decide +kernel
theorem dX5_follow_149 : decode cX5_follow 149 = .ok (.iload 6, 2) := by decide +kernel
theorem dX5_follow_151 : decode cX5_follow 151 = .ok (.iload 7, 2) := by decide +kernel
theorem dX5_follow_153 : decode cX5_follow 153 = .ok (.iload_n 3, 1) := by decide +kernel
theorem dX5_follow_154 : decode cX5_follow 154 = .ok (.invokevirtual 63, 3) := by decide +kernel
theorem dX5_follow_157 : decode cX5_follow 157 = .ok (.iconst 1, 1) := by decide +kernel
theorem dX5_follow_158 : decode cX5_follow 158 = .ok (.ireturn, 1) := by decide +kernel
set_option maxHeartbeats 4000000 in
theorem st_X5_follow_96 {X : sj_X} {g : sj_G} {s0 : sj_Mem} {N : Nat} {q : Int × sj_VV} {k65 : Nat → Nat → Nat → Int → Int → Int → Int → Int → Int → sj_VV → Option (Int × sj_VV)} (hk65 : ∀ (a0 : Nat) (x1 : Nat) (x2 : Nat) (x3 : Int) (x4 : Int) (x5 : Int) (x6 : Int) (x7 : Int) (x8 : Int) (V : sj_VV), OK5 g a0 → OK0 g x1 → OK1 g x2 → k65 a0 x1 x2 x3 x4 x5 x6 x7 x8 V = some q → sj_T X m_X5_follow s0 (some (sj_i q.1), (g, q.2)) 65 [some (sj_r (some a0)), some (sj_r (some x1)), some (sj_r (some x2)), some (sj_i x3), some (sj_i x4), some (sj_i x5), some (sj_i x6), some (sj_i x7), some (sj_i x8), none] [] (g, V)) :
    ∀ (a0 : Nat) (x1 : Nat) (x2 : Nat) (x3 : Int) (x4 : Int) (x5 : Int) (x6 : Int) (x7 : Int) (x8 : Int) (V : sj_VV), OK5 g a0 → OK0 g x1 → OK1 g x2 → g_X5_follow_96 N k65 a0 x1 x2 x3 x4 x5 x6 x7 x8 V = some q → sj_T X m_X5_follow s0 (some (sj_i q.1), (g, q.2)) 96 [some (sj_r (some a0)), some (sj_r (some x1)), some (sj_r (some x2)), some (sj_i x3), some (sj_i x4), some (sj_i x5), some (sj_i x6), some (sj_i x7), some (sj_i x8), none] [] (g, V) := by
  intro a0 x1 x2 x3 x4 x5 x6 x7 x8 V ha0 hx1 hx2 h
  unfold g_X5_follow_96 at h
  refine r_aload_n (pc := 96) dX5_follow_96 rfl rfl ?_
  refine r_iload (pc := 97) dX5_follow_97 rfl ?_
  refine r_iload (pc := 99) dX5_follow_99 rfl ?_
  refine r_callSs (pc := 101) (fun v => some (sj_i v)) (As := [sj_r (some x2), sj_i x5, sj_i x8]) (rest := []) h dX5_follow_101 mw_X5_75 kw_638 (fun _ _ hc => cg_X5_heightAt hx2 hc) rfl ⟨(Nat.le_of_ble_eq_true rfl), (Nat.le_of_ble_eq_true rfl)⟩ (Nat.le_of_ble_eq_true rfl) rfl (fun v2 V1 h => ?_)
  refine r_istore (ln := [some (sj_r (some a0)), some (sj_r (some x1)), some (sj_r (some x2)), some (sj_i x3), some (sj_i x4), some (sj_i x5), some (sj_i x6), some (sj_i x7), some (sj_i x8), some (sj_i v2)]) (pc := 104) dX5_follow_104 (Nat.le_of_ble_eq_true rfl) rfl ?_
  refine r_iload (pc := 106) dX5_follow_106 rfl ?_
  refine r_aload_n (pc := 108) dX5_follow_108 rfl rfl ?_
  refine r_gRs (b := x1 + 1) (pc := 109) dX5_follow_109 fw_X5_45 rfl (ok0 hx1) (ok0_3 hx1).1 ?_
  refine r_iload (pc := 112) dX5_follow_112 rfl ?_
  refine r_ialoads (pc := 114) h dX5_follow_114 (ok0_3 hx1).2 (fun h => ?_)
  refine r_icmp_ge (pc := 115) (tgt := 130) h dX5_follow_115 (by decide) (fun h => ?_) (fun h => ?_)
  · refine r_iconst (pc := 130) dX5_follow_130 ?_
    exact r_zrets (pc := 131) h rfl dX5_follow_131
  · refine r_iload (pc := 118) dX5_follow_118 rfl ?_
    refine r_aload_n (pc := 120) dX5_follow_120 rfl rfl ?_
    refine r_gRs (b := x1 + 2) (pc := 121) dX5_follow_121 fw_X5_60 rfl (ok0 hx1) (ok0_4 hx1).1 ?_
    refine r_iload (pc := 124) dX5_follow_124 rfl ?_
    refine r_ialoads (pc := 126) h dX5_follow_126 (ok0_4 hx1).2 (fun h => ?_)
    refine r_icmp_ge (pc := 127) (tgt := 132) h dX5_follow_127 (by decide) (fun h => ?_) (fun h => ?_)
    · refine r_aload_n (pc := 132) dX5_follow_132 rfl rfl ?_
      refine r_gRs (b := a0 + 1) (pc := 133) dX5_follow_133 fw_X5_9 rfl (ok5 ha0) (ok5_0 ha0).1 ?_
      refine r_iload (pc := 136) dX5_follow_136 rfl ?_
      refine r_iload (pc := 138) dX5_follow_138 rfl ?_
      refine r_iastores (pc := 140) h dX5_follow_140 (ok5_0 ha0).2 (fun V3 h => ?_)
      refine r_iinc (ln := fun w => [some (sj_r (some a0)), some (sj_r (some x1)), some (sj_r (some x2)), some (sj_i x3), some (sj_i x4), some (sj_i x5), some (sj_i x6), some (sj_i x7), some (sj_i w), some (sj_i v2)]) (pc := 141) h dX5_follow_141 rfl (Nat.le_of_ble_eq_true rfl) (fun _ => rfl) (fun v4 h => ?_)
      refine r_goto (pc := 144) (tgt := 65) dX5_follow_144 (by decide) ?_
      exact sj_weak (l2 := [some (sj_r (some a0)), some (sj_r (some x1)), some (sj_r (some x2)), some (sj_i x3), some (sj_i x4), some (sj_i x5), some (sj_i x6), some (sj_i x7), some (sj_i v4), none]) (⟨rfl, ⟨rfl, ⟨rfl, ⟨rfl, ⟨rfl, ⟨rfl, ⟨rfl, ⟨rfl, ⟨rfl, trivial⟩⟩⟩⟩⟩⟩⟩⟩⟩) (hk65 a0 x1 x2 x3 x4 x5 x6 x7 v4 V3 ha0 hx1 hx2 h)
    · refine r_iconst (pc := 130) dX5_follow_130 ?_
      exact r_zrets (pc := 131) h rfl dX5_follow_131
set_option maxHeartbeats 4000000 in
theorem st_X5_follow_65_b {X : sj_X} {g : sj_G} {s0 : sj_Mem} {N : Nat} {q : Int × sj_VV} {k65 : Nat → Nat → Nat → Int → Int → Int → Int → Int → Int → sj_VV → Option (Int × sj_VV)} (hk65 : ∀ (a0 : Nat) (x1 : Nat) (x2 : Nat) (x3 : Int) (x4 : Int) (x5 : Int) (x6 : Int) (x7 : Int) (x8 : Int) (V : sj_VV), OK5 g a0 → OK0 g x1 → OK1 g x2 → k65 a0 x1 x2 x3 x4 x5 x6 x7 x8 V = some q → sj_T X m_X5_follow s0 (some (sj_i q.1), (g, q.2)) 65 [some (sj_r (some a0)), some (sj_r (some x1)), some (sj_r (some x2)), some (sj_i x3), some (sj_i x4), some (sj_i x5), some (sj_i x6), some (sj_i x7), some (sj_i x8), none] [] (g, V)) :
    ∀ (a0 : Nat) (x1 : Nat) (x2 : Nat) (x3 : Int) (x4 : Int) (x5 : Int) (x6 : Int) (x7 : Int) (x8 : Int) (V : sj_VV), OK5 g a0 → OK0 g x1 → OK1 g x2 → g_X5_follow_65_b N k65 a0 x1 x2 x3 x4 x5 x6 x7 x8 V = some q → sj_T X m_X5_follow s0 (some (sj_i q.1), (g, q.2)) 65 [some (sj_r (some a0)), some (sj_r (some x1)), some (sj_r (some x2)), some (sj_i x3), some (sj_i x4), some (sj_i x5), some (sj_i x6), some (sj_i x7), some (sj_i x8), none] [] (g, V) := by
  intro a0 x1 x2 x3 x4 x5 x6 x7 x8 V ha0 hx1 hx2 h
  unfold g_X5_follow_65_b at h
  refine r_iload (pc := 65) dX5_follow_65 rfl ?_
  refine r_iload (pc := 67) dX5_follow_67 rfl ?_
  refine r_icmp_ge (pc := 69) (tgt := 147) h dX5_follow_69 (by decide) (fun h => ?_) (fun h => ?_)
  · refine r_aload_n (pc := 147) dX5_follow_147 rfl rfl ?_
    refine r_aload_n (pc := 148) dX5_follow_148 rfl rfl ?_
    refine r_iload (pc := 149) dX5_follow_149 rfl ?_
    refine r_iload (pc := 151) dX5_follow_151 rfl ?_
    refine r_iload_n (pc := 153) dX5_follow_153 rfl rfl ?_
    refine r_callVs (pc := 154) (fun _ => none) (As := [sj_r (some x1), sj_i x6, sj_i x7, sj_i x3]) (rest := []) (b := a0) (ok5 ha0) h dX5_follow_154 mw_X5_63 vw_X5_span (fun _ _ hc => cg_X5_span ha0 hx1 hc) rfl ⟨(Nat.le_of_ble_eq_true rfl), (Nat.le_of_ble_eq_true rfl)⟩ (Nat.le_of_ble_eq_true rfl) rfl (fun _u V1 h => ?_)
    refine r_iconst (pc := 157) dX5_follow_157 ?_
    exact r_zrets (pc := 158) h rfl dX5_follow_158
  · refine r_iload (pc := 72) dX5_follow_72 rfl ?_
    refine r_iload (pc := 74) dX5_follow_74 rfl ?_
    refine r_iconst (pc := 76) dX5_follow_76 ?_
    refine r_isub (pc := 77) dX5_follow_77 ?_
    refine r_icmp_ge (pc := 78) (tgt := 96) h dX5_follow_78 (by decide) (fun h => ?_) (fun h => ?_)
    · exact sj_weak (l2 := [some (sj_r (some a0)), some (sj_r (some x1)), some (sj_r (some x2)), some (sj_i x3), some (sj_i x4), some (sj_i x5), some (sj_i x6), some (sj_i x7), some (sj_i x8), none]) (⟨rfl, ⟨rfl, ⟨rfl, ⟨rfl, ⟨rfl, ⟨rfl, ⟨rfl, ⟨rfl, ⟨rfl, trivial⟩⟩⟩⟩⟩⟩⟩⟩⟩) (st_X5_follow_96 hk65 a0 x1 x2 x3 x4 x5 x6 x7 x8 V ha0 hx1 hx2 h)
    · refine r_iload (pc := 81) dX5_follow_81 rfl ?_
      refine r_aload_n (pc := 83) dX5_follow_83 rfl rfl ?_
      refine r_gRs (b := x2 + 1) (pc := 84) dX5_follow_84 fw_X5_72 rfl (ok1 hx2) (ok1_0 hx2).1 ?_
      refine r_iload (pc := 87) dX5_follow_87 rfl ?_
      refine r_ialoads (pc := 89) h dX5_follow_89 (ok1_0 hx2).2 (fun h => ?_)
      refine r_icmp_le (pc := 90) (tgt := 96) h dX5_follow_90 (by decide) (fun h => ?_) (fun h => ?_)
      · exact sj_weak (l2 := [some (sj_r (some a0)), some (sj_r (some x1)), some (sj_r (some x2)), some (sj_i x3), some (sj_i x4), some (sj_i x5), some (sj_i x6), some (sj_i x7), some (sj_i x8), none]) (⟨rfl, ⟨rfl, ⟨rfl, ⟨rfl, ⟨rfl, ⟨rfl, ⟨rfl, ⟨rfl, ⟨rfl, trivial⟩⟩⟩⟩⟩⟩⟩⟩⟩) (st_X5_follow_96 hk65 a0 x1 x2 x3 x4 x5 x6 x7 x8 V ha0 hx1 hx2 h)
      · refine r_iinc (ln := fun w => [some (sj_r (some a0)), some (sj_r (some x1)), some (sj_r (some x2)), some (sj_i x3), some (sj_i x4), some (sj_i w), some (sj_i x6), some (sj_i x7), some (sj_i x8), none]) (pc := 93) h dX5_follow_93 rfl (Nat.le_of_ble_eq_true rfl) (fun _ => rfl) (fun v2 h => ?_)
        exact sj_weak (l2 := [some (sj_r (some a0)), some (sj_r (some x1)), some (sj_r (some x2)), some (sj_i x3), some (sj_i x4), some (sj_i v2), some (sj_i x6), some (sj_i x7), some (sj_i x8), none]) (⟨rfl, ⟨rfl, ⟨rfl, ⟨rfl, ⟨rfl, ⟨rfl, ⟨rfl, ⟨rfl, ⟨rfl, trivial⟩⟩⟩⟩⟩⟩⟩⟩⟩) (st_X5_follow_96 hk65 a0 x1 x2 x3 x4 v2 x6 x7 x8 V ha0 hx1 hx2 h)
set_option maxHeartbeats 4000000 in
theorem st_X5_follow_65 {X : sj_X} {g : sj_G} {s0 : sj_Mem} {N : Nat} {q : Int × sj_VV} :
    ∀ (n : Nat) (a0 : Nat) (x1 : Nat) (x2 : Nat) (x3 : Int) (x4 : Int) (x5 : Int) (x6 : Int) (x7 : Int) (x8 : Int) (V : sj_VV), OK5 g a0 → OK0 g x1 → OK1 g x2 → g_X5_follow_65 N n a0 x1 x2 x3 x4 x5 x6 x7 x8 V = some q → sj_T X m_X5_follow s0 (some (sj_i q.1), (g, q.2)) 65 [some (sj_r (some a0)), some (sj_r (some x1)), some (sj_r (some x2)), some (sj_i x3), some (sj_i x4), some (sj_i x5), some (sj_i x6), some (sj_i x7), some (sj_i x8), none] [] (g, V) := by
  intro n
  induction n with
  | zero => intro a0 x1 x2 x3 x4 x5 x6 x7 x8 V ha0 hx1 hx2 h; exact nomatch h
  | succ n ih => intro a0 x1 x2 x3 x4 x5 x6 x7 x8 V ha0 hx1 hx2 h; exact st_X5_follow_65_b (N := N) ih a0 x1 x2 x3 x4 x5 x6 x7 x8 V ha0 hx1 hx2 h
set_option maxHeartbeats 4000000 in
theorem st_X5_follow_0 {X : sj_X} {g : sj_G} {s0 : sj_Mem} {N : Nat} {q : Int × sj_VV} :
    ∀ (a0 : Nat) (x1 : Nat) (x2 : Nat) (x3 : Int) (V : sj_VV), OK5 g a0 → OK0 g x1 → OK1 g x2 → g_X5_follow N a0 x1 x2 x3 V = some q → sj_T X m_X5_follow s0 (some (sj_i q.1), (g, q.2)) 0 [some (sj_r (some a0)), some (sj_r (some x1)), some (sj_r (some x2)), some (sj_i x3), none, none, none, none, none, none] [] (g, V) := by
  intro a0 x1 x2 x3 V ha0 hx1 hx2 h
  unfold g_X5_follow at h
  refine r_aload_n (pc := 0) dX5_follow_0 rfl rfl ?_
  refine r_gIs (pc := 1) dX5_follow_1 fw_X5_67 rfl (ok1 hx2) ?_
  refine r_istoreL (ln := fun w => [some (sj_r (some a0)), some (sj_r (some x1)), some (sj_r (some x2)), some (sj_i x3), some (sj_i w), none, none, none, none, none]) (pc := 4) h dX5_follow_4 (Nat.le_of_ble_eq_true rfl) (fun _ => rfl) (fun v1 h => ?_)
  refine r_iload (pc := 6) dX5_follow_6 rfl ?_
  refine r_iconst (pc := 8) dX5_follow_8 ?_
  refine r_icmp_lt (pc := 9) (tgt := 35) h dX5_follow_9 (by decide) (fun h => ?_) (fun h => ?_)
  · refine r_iconst (pc := 35) dX5_follow_35 ?_
    exact r_zrets (pc := 36) h rfl dX5_follow_36
  · refine r_iload (pc := 12) dX5_follow_12 rfl ?_
    refine r_bipush (pc := 14) dX5_follow_14 ⟨by decide, by decide⟩ ?_
    refine r_icmp_gt (pc := 16) (tgt := 35) h dX5_follow_16 (by decide) (fun h => ?_) (fun h => ?_)
    · refine r_iconst (pc := 35) dX5_follow_35 ?_
      exact r_zrets (pc := 36) h rfl dX5_follow_36
    · refine r_aload_n (pc := 19) dX5_follow_19 rfl rfl ?_
      refine r_gRs (b := x2 + 1) (pc := 20) dX5_follow_20 fw_X5_72 rfl (ok1 hx2) (ok1_0 hx2).1 ?_
      refine r_iload (pc := 23) dX5_follow_23 rfl ?_
      refine r_iconst (pc := 25) dX5_follow_25 ?_
      refine r_isub (pc := 26) dX5_follow_26 ?_
      refine r_ialoads (pc := 27) h dX5_follow_27 (ok1_0 hx2).2 (fun h => ?_)
      refine r_aload_n (pc := 28) dX5_follow_28 rfl rfl ?_
      refine r_gIs (pc := 29) dX5_follow_29 fw_X5_50 rfl (ok0 hx1) ?_
      refine r_icmp_le (pc := 32) (tgt := 37) h dX5_follow_32 (by decide) (fun h => ?_) (fun h => ?_)
      · refine r_iconst (pc := 37) dX5_follow_37 ?_
        refine r_istore (ln := [some (sj_r (some a0)), some (sj_r (some x1)), some (sj_r (some x2)), some (sj_i x3), some (sj_i v1), some (sj_i 1), none, none, none, none]) (pc := 38) dX5_follow_38 (Nat.le_of_ble_eq_true rfl) rfl ?_
        refine r_aload_n (pc := 40) dX5_follow_40 rfl rfl ?_
        refine r_gRs (b := x2 + 1) (pc := 41) dX5_follow_41 fw_X5_72 rfl (ok1 hx2) (ok1_0 hx2).1 ?_
        refine r_iconst (pc := 44) dX5_follow_44 ?_
        refine r_ialoads (pc := 45) h dX5_follow_45 (ok1_0 hx2).2 (fun h => ?_)
        refine r_istoreL (ln := fun w => [some (sj_r (some a0)), some (sj_r (some x1)), some (sj_r (some x2)), some (sj_i x3), some (sj_i v1), some (sj_i 1), some (sj_i w), none, none, none]) (pc := 46) h dX5_follow_46 (Nat.le_of_ble_eq_true rfl) (fun _ => rfl) (fun v2 h => ?_)
        refine r_aload_n (pc := 48) dX5_follow_48 rfl rfl ?_
        refine r_gRs (b := x2 + 1) (pc := 49) dX5_follow_49 fw_X5_72 rfl (ok1 hx2) (ok1_0 hx2).1 ?_
        refine r_iload (pc := 52) dX5_follow_52 rfl ?_
        refine r_iconst (pc := 54) dX5_follow_54 ?_
        refine r_isub (pc := 55) dX5_follow_55 ?_
        refine r_ialoads (pc := 56) h dX5_follow_56 (ok1_0 hx2).2 (fun h => ?_)
        refine r_istoreL (ln := fun w => [some (sj_r (some a0)), some (sj_r (some x1)), some (sj_r (some x2)), some (sj_i x3), some (sj_i v1), some (sj_i 1), some (sj_i v2), some (sj_i w), none, none]) (pc := 57) h dX5_follow_57 (Nat.le_of_ble_eq_true rfl) (fun _ => rfl) (fun v3 h => ?_)
        refine r_iload (pc := 59) dX5_follow_59 rfl ?_
        refine r_iconst (pc := 61) dX5_follow_61 ?_
        refine r_iadd (pc := 62) dX5_follow_62 ?_
        refine r_istoreL (ln := fun w => [some (sj_r (some a0)), some (sj_r (some x1)), some (sj_r (some x2)), some (sj_i x3), some (sj_i v1), some (sj_i 1), some (sj_i v2), some (sj_i v3), some (sj_i w), none]) (pc := 63) h dX5_follow_63 (Nat.le_of_ble_eq_true rfl) (fun _ => rfl) (fun v4 h => ?_)
        exact sj_weak (l2 := [some (sj_r (some a0)), some (sj_r (some x1)), some (sj_r (some x2)), some (sj_i x3), some (sj_i v1), some (sj_i 1), some (sj_i v2), some (sj_i v3), some (sj_i v4), none]) (⟨rfl, ⟨rfl, ⟨rfl, ⟨rfl, ⟨rfl, ⟨rfl, ⟨rfl, ⟨rfl, ⟨rfl, trivial⟩⟩⟩⟩⟩⟩⟩⟩⟩) (st_X5_follow_65 N a0 x1 x2 x3 v1 1 v2 v3 v4 V ha0 hx1 hx2 h)
      · refine r_iconst (pc := 35) dX5_follow_35 ?_
        exact r_zrets (pc := 36) h rfl dX5_follow_36
set_option maxHeartbeats 4000000 in
theorem cg_X5_follow {X : sj_X} {g : sj_G} {N : Nat} {a0 : Nat} {x1 : Nat} {x2 : Nat} {x3 : Int} {V : sj_VV} {q : Int × sj_VV} (ha0 : OK5 g a0) (hx1 : OK0 g x1) (hx2 : OK1 g x2) (h : g_X5_follow N a0 x1 x2 x3 V = some q) : sj_C X m_X5_follow [sj_r (some a0), sj_r (some x1), sj_r (some x2), sj_i x3] (g, V) (some (sj_i q.1), (g, q.2)) :=
  sj_C_of (by decide +kernel) (Nat.le_of_ble_eq_true rfl) (lo := [some (sj_r (some a0)), some (sj_r (some x1)), some (sj_r (some x2)), some (sj_i x3), none, none, none, none, none, none]) rfl (sj_weak (l2 := [some (sj_r (some a0)), some (sj_r (some x1)), some (sj_r (some x2)), some (sj_i x3), none, none, none, none, none, none]) (⟨rfl, ⟨rfl, ⟨rfl, ⟨rfl, trivial⟩⟩⟩⟩) (st_X5_follow_0 a0 x1 x2 x3 V ha0 hx1 hx2 h))
set_option maxHeartbeats 4000000 in
theorem c_X5_follow {X : sj_X} {N : Nat} {a0 : Nat} {x1 : Option Nat} {x2 : Option Nat} {x3 : Int} {s : sj_Mem} {q : Int × sj_Mem} (h : f_X5_follow N a0 x1 x2 x3 s = some q) : sj_C X m_X5_follow [sj_r (some a0), sj_r x1, sj_r x2, sj_i x3] s (some (sj_i q.1), q.2) := by
  obtain ⟨g, V⟩ := s
  unfold f_X5_follow at h
  obtain ⟨ho, h1⟩ := e_ok_some h
  obtain ⟨q2, h2, rfl⟩ := sj_map_some h1
  obtain ⟨z1, hz1⟩ : ∃ z, x1 = some z := ⟨_, ho.2.1⟩
  subst hz1
  obtain ⟨z2, hz2⟩ : ∃ z, x2 = some z := ⟨_, ho.2.2.2.1⟩
  subst hz2
  exact cg_X5_follow ho.1 ho.2.2.1 ho.2.2.2.2 h2
theorem dX6_weighAll_0 : decode cX6_weighAll 0 = .ok (.iconst 0, 1) := by decide +kernel
theorem dX6_weighAll_1 : decode cX6_weighAll 1 = .ok (.istore_n 1, 1) := by decide +kernel
theorem dX6_weighAll_2 : decode cX6_weighAll 2 = .ok (.iload_n 1, 1) := by decide +kernel
theorem dX6_weighAll_3 : decode cX6_weighAll 3 = .ok (.aload_n 0, 1) := by decide +kernel
theorem dX6_weighAll_4 : decode cX6_weighAll 4 = .ok (.getfield 32, 3) := by decide +kernel
theorem dX6_weighAll_7 : decode cX6_weighAll 7 = .ok (.getfield 67, 3) := by decide +kernel
theorem dX6_weighAll_10 : decode cX6_weighAll 10 = .ok (.if_icmp .gt 58, 3) := by decide +kernel
theorem dX6_weighAll_13 : decode cX6_weighAll 13 = .ok (.aload_n 0, 1) := by decide +kernel
theorem dX6_weighAll_14 : decode cX6_weighAll 14 = .ok (.getfield 32, 3) := by decide +kernel
theorem dX6_weighAll_17 : decode cX6_weighAll 17 = .ok (.getfield 72, 3) := by decide +kernel
theorem dX6_weighAll_20 : decode cX6_weighAll 20 = .ok (.iload_n 1, 1) := by decide +kernel
theorem dX6_weighAll_21 : decode cX6_weighAll 21 = .ok (.iaload, 1) := by decide +kernel
theorem dX6_weighAll_22 : decode cX6_weighAll 22 = .ok (.istore_n 2, 1) := by decide +kernel
theorem dX6_weighAll_23 : decode cX6_weighAll 23 = .ok (.iload_n 2, 1) := by decide +kernel
theorem dX6_weighAll_24 : decode cX6_weighAll 24 = .ok (.aload_n 0, 1) := by decide +kernel
theorem dX6_weighAll_25 : decode cX6_weighAll 25 = .ok (.getfield 32, 3) := by decide +kernel
theorem dX6_weighAll_28 : decode cX6_weighAll 28 = .ok (.getfield 75, 3) := by decide +kernel
theorem dX6_weighAll_31 : decode cX6_weighAll 31 = .ok (.iload_n 1, 1) := by decide +kernel
theorem dX6_weighAll_32 : decode cX6_weighAll 32 = .ok (.iaload, 1) := by decide +kernel
theorem dX6_weighAll_33 : decode cX6_weighAll 33 = .ok (.if_icmp .gt 29, 3) := by decide +kernel
theorem dX6_weighAll_36 : decode cX6_weighAll 36 = .ok (.aload_n 0, 1) := by decide +kernel
theorem dX6_weighAll_37 : decode cX6_weighAll 37 = .ok (.getfield 19, 3) := by decide +kernel
theorem dX6_weighAll_40 : decode cX6_weighAll 40 = .ok (.iload_n 1, 1) := by decide +kernel
theorem dX6_weighAll_41 : decode cX6_weighAll 41 = .ok (.bipush 101, 2) := by decide +kernel
theorem dX6_weighAll_43 : decode cX6_weighAll 43 = .ok (.imul, 1) := by decide +kernel
theorem dX6_weighAll_44 : decode cX6_weighAll 44 = .ok (.iload_n 2, 1) := by decide +kernel
theorem dX6_weighAll_45 : decode cX6_weighAll 45 = .ok (.iadd, 1) := by decide +kernel
theorem dX6_weighAll_46 : decode cX6_weighAll 46 = .ok (.aload_n 0, 1) := by decide +kernel
theorem dX6_weighAll_47 : decode cX6_weighAll 47 = .ok (.getfield 32, 3) := by decide +kernel
theorem dX6_weighAll_50 : decode cX6_weighAll 50 = .ok (.iload_n 1, 1) := by decide +kernel
theorem dX6_weighAll_51 : decode cX6_weighAll 51 = .ok (.iload_n 2, 1) := by decide +kernel
theorem dX6_weighAll_52 : decode cX6_weighAll 52 = .ok (.invokevirtual 78, 3) := by decide +kernel
theorem dX6_weighAll_55 : decode cX6_weighAll 55 = .ok (.iastore, 1) := by decide +kernel
theorem dX6_weighAll_56 : decode cX6_weighAll 56 = .ok (.iinc 2 1, 3) := by decide +kernel
theorem dX6_weighAll_59 : decode cX6_weighAll 59 = .ok (.goto (-36), 3) := by decide +kernel
theorem dX6_weighAll_62 : decode cX6_weighAll 62 = .ok (.iinc 1 1, 3) := by decide +kernel
theorem dX6_weighAll_65 : decode cX6_weighAll 65 = .ok (.goto (-63), 3) := by decide +kernel
theorem dX6_weighAll_68 : decode cX6_weighAll 68 = .ok (.return_, 1) := by decide +kernel
set_option maxHeartbeats 4000000 in
theorem st_X6_weighAll_23_b {X : sj_X} {g : sj_G} {s0 : sj_Mem} {N : Nat} {q : Unit × sj_VV} {k2 : Nat → Int → sj_VV → Option (Unit × sj_VV)} {k23 : Nat → Int → Int → sj_VV → Option (Unit × sj_VV)} (hk2 : ∀ (a0 : Nat) (x1 : Int) (V : sj_VV), OK6 g a0 → k2 a0 x1 V = some q → sj_T X m_X6_weighAll s0 (none, (g, q.2)) 2 [some (sj_r (some a0)), some (sj_i x1), none] [] (g, V)) (hk23 : ∀ (a0 : Nat) (x1 : Int) (x2 : Int) (V : sj_VV), OK6 g a0 → k23 a0 x1 x2 V = some q → sj_T X m_X6_weighAll s0 (none, (g, q.2)) 23 [some (sj_r (some a0)), some (sj_i x1), some (sj_i x2)] [] (g, V)) :
    ∀ (a0 : Nat) (x1 : Int) (x2 : Int) (V : sj_VV), OK6 g a0 → g_X6_weighAll_23_b N k2 k23 a0 x1 x2 V = some q → sj_T X m_X6_weighAll s0 (none, (g, q.2)) 23 [some (sj_r (some a0)), some (sj_i x1), some (sj_i x2)] [] (g, V) := by
  intro a0 x1 x2 V ha0 h
  unfold g_X6_weighAll_23_b at h
  refine r_iload_n (pc := 23) dX6_weighAll_23 rfl rfl ?_
  refine r_aload_n (pc := 24) dX6_weighAll_24 rfl rfl ?_
  refine r_gRs (b := 1) (pc := 25) dX6_weighAll_25 fw_X6_32 rfl (ok6 ha0) (ok6_5 ha0).1 ?_
  refine r_gRs (b := 1 + 1) (pc := 28) dX6_weighAll_28 fw_X6_75 rfl (ok0 (ok6_5 ha0).2) (ok0_3 (ok6_5 ha0).2).1 ?_
  refine r_iload_n (pc := 31) dX6_weighAll_31 rfl rfl ?_
  refine r_ialoads (pc := 32) h dX6_weighAll_32 (ok0_3 (ok6_5 ha0).2).2 (fun h => ?_)
  refine r_icmp_gt (pc := 33) (tgt := 62) h dX6_weighAll_33 (by decide) (fun h => ?_) (fun h => ?_)
  · refine r_iinc (ln := fun w => [some (sj_r (some a0)), some (sj_i w), some (sj_i x2)]) (pc := 62) h dX6_weighAll_62 rfl (Nat.le_of_ble_eq_true rfl) (fun _ => rfl) (fun v1 h => ?_)
    refine r_goto (pc := 65) (tgt := 2) dX6_weighAll_65 (by decide) ?_
    exact sj_weak (l2 := [some (sj_r (some a0)), some (sj_i v1), none]) (⟨rfl, ⟨rfl, trivial⟩⟩) (hk2 a0 v1 V ha0 h)
  · refine r_aload_n (pc := 36) dX6_weighAll_36 rfl rfl ?_
    refine r_gRs (b := a0 + 3) (pc := 37) dX6_weighAll_37 fw_X6_19 rfl (ok6 ha0) (ok6_2 ha0).1 ?_
    refine r_iload_n (pc := 40) dX6_weighAll_40 rfl rfl ?_
    refine r_bipush (pc := 41) dX6_weighAll_41 ⟨by decide, by decide⟩ ?_
    refine r_imul (pc := 43) dX6_weighAll_43 ?_
    refine r_iload_n (pc := 44) dX6_weighAll_44 rfl rfl ?_
    refine r_iadd (pc := 45) dX6_weighAll_45 ?_
    refine r_aload_n (pc := 46) dX6_weighAll_46 rfl rfl ?_
    refine r_gRs (b := 1) (pc := 47) dX6_weighAll_47 fw_X6_32 rfl (ok6 ha0) (ok6_5 ha0).1 ?_
    refine r_iload_n (pc := 50) dX6_weighAll_50 rfl rfl ?_
    refine r_iload_n (pc := 51) dX6_weighAll_51 rfl rfl ?_
    refine r_callVs (pc := 52) (fun v => some (sj_i v)) (As := [sj_i x1, sj_i x2]) (rest := [(sj_i ((x1 * 101) + x2)), (sj_r (some (a0 + 3)))]) (b := 1) (ok0 (ok6_5 ha0).2) h dX6_weighAll_52 mw_X6_78 vw_X0_weightOn (fun _ _ hc => cg_X0_weightOn (ok6_5 ha0).2 hc) rfl ⟨(Nat.le_of_ble_eq_true rfl), (Nat.le_of_ble_eq_true rfl)⟩ (Nat.le_of_ble_eq_true rfl) rfl (fun v3 V2 h => ?_)
    refine r_iastores (pc := 55) h dX6_weighAll_55 (ok6_2 ha0).2 (fun V4 h => ?_)
    refine r_iinc (ln := fun w => [some (sj_r (some a0)), some (sj_i x1), some (sj_i w)]) (pc := 56) h dX6_weighAll_56 rfl (Nat.le_of_ble_eq_true rfl) (fun _ => rfl) (fun v5 h => ?_)
    refine r_goto (pc := 59) (tgt := 23) dX6_weighAll_59 (by decide) ?_
    exact sj_weak (l2 := [some (sj_r (some a0)), some (sj_i x1), some (sj_i v5)]) (⟨rfl, ⟨rfl, ⟨rfl, trivial⟩⟩⟩) (hk23 a0 x1 v5 V4 ha0 h)
set_option maxHeartbeats 4000000 in
theorem st_X6_weighAll_23 {X : sj_X} {g : sj_G} {s0 : sj_Mem} {N : Nat} {q : Unit × sj_VV} {k2 : Nat → Int → sj_VV → Option (Unit × sj_VV)} (hk2 : ∀ (a0 : Nat) (x1 : Int) (V : sj_VV), OK6 g a0 → k2 a0 x1 V = some q → sj_T X m_X6_weighAll s0 (none, (g, q.2)) 2 [some (sj_r (some a0)), some (sj_i x1), none] [] (g, V)) :
    ∀ (n : Nat) (a0 : Nat) (x1 : Int) (x2 : Int) (V : sj_VV), OK6 g a0 → g_X6_weighAll_23 N k2 n a0 x1 x2 V = some q → sj_T X m_X6_weighAll s0 (none, (g, q.2)) 23 [some (sj_r (some a0)), some (sj_i x1), some (sj_i x2)] [] (g, V) := by
  intro n
  induction n with
  | zero => intro a0 x1 x2 V ha0 h; exact nomatch h
  | succ n ih => intro a0 x1 x2 V ha0 h; exact st_X6_weighAll_23_b (N := N) hk2 ih a0 x1 x2 V ha0 h
set_option maxHeartbeats 4000000 in
theorem st_X6_weighAll_2_b {X : sj_X} {g : sj_G} {s0 : sj_Mem} {N : Nat} {q : Unit × sj_VV} {k2 : Nat → Int → sj_VV → Option (Unit × sj_VV)} (hk2 : ∀ (a0 : Nat) (x1 : Int) (V : sj_VV), OK6 g a0 → k2 a0 x1 V = some q → sj_T X m_X6_weighAll s0 (none, (g, q.2)) 2 [some (sj_r (some a0)), some (sj_i x1), none] [] (g, V)) :
    ∀ (a0 : Nat) (x1 : Int) (V : sj_VV), OK6 g a0 → g_X6_weighAll_2_b N k2 a0 x1 V = some q → sj_T X m_X6_weighAll s0 (none, (g, q.2)) 2 [some (sj_r (some a0)), some (sj_i x1), none] [] (g, V) := by
  intro a0 x1 V ha0 h
  unfold g_X6_weighAll_2_b at h
  refine r_iload_n (pc := 2) dX6_weighAll_2 rfl rfl ?_
  refine r_aload_n (pc := 3) dX6_weighAll_3 rfl rfl ?_
  refine r_gRs (b := 1) (pc := 4) dX6_weighAll_4 fw_X6_32 rfl (ok6 ha0) (ok6_5 ha0).1 ?_
  refine r_gIs (pc := 7) dX6_weighAll_7 fw_X6_67 rfl (ok0 (ok6_5 ha0).2) ?_
  refine r_icmp_gt (pc := 10) (tgt := 68) h dX6_weighAll_10 (by decide) (fun h => ?_) (fun h => ?_)
  · exact r_vrets (pc := 68) h rfl dX6_weighAll_68
  · refine r_aload_n (pc := 13) dX6_weighAll_13 rfl rfl ?_
    refine r_gRs (b := 1) (pc := 14) dX6_weighAll_14 fw_X6_32 rfl (ok6 ha0) (ok6_5 ha0).1 ?_
    refine r_gRs (b := 1 + 2) (pc := 17) dX6_weighAll_17 fw_X6_72 rfl (ok0 (ok6_5 ha0).2) (ok0_4 (ok6_5 ha0).2).1 ?_
    refine r_iload_n (pc := 20) dX6_weighAll_20 rfl rfl ?_
    refine r_ialoads (pc := 21) h dX6_weighAll_21 (ok0_4 (ok6_5 ha0).2).2 (fun h => ?_)
    refine r_istore_nL (ln := fun w => [some (sj_r (some a0)), some (sj_i x1), some (sj_i w)]) (pc := 22) h dX6_weighAll_22 rfl (Nat.le_of_ble_eq_true rfl) (fun _ => rfl) (fun v1 h => ?_)
    exact sj_weak (l2 := [some (sj_r (some a0)), some (sj_i x1), some (sj_i v1)]) (⟨rfl, ⟨rfl, ⟨rfl, trivial⟩⟩⟩) (st_X6_weighAll_23 hk2 N a0 x1 v1 V ha0 h)
set_option maxHeartbeats 4000000 in
theorem st_X6_weighAll_2 {X : sj_X} {g : sj_G} {s0 : sj_Mem} {N : Nat} {q : Unit × sj_VV} :
    ∀ (n : Nat) (a0 : Nat) (x1 : Int) (V : sj_VV), OK6 g a0 → g_X6_weighAll_2 N n a0 x1 V = some q → sj_T X m_X6_weighAll s0 (none, (g, q.2)) 2 [some (sj_r (some a0)), some (sj_i x1), none] [] (g, V) := by
  intro n
  induction n with
  | zero => intro a0 x1 V ha0 h; exact nomatch h
  | succ n ih => intro a0 x1 V ha0 h; exact st_X6_weighAll_2_b (N := N) ih a0 x1 V ha0 h
set_option maxHeartbeats 4000000 in
theorem st_X6_weighAll_0 {X : sj_X} {g : sj_G} {s0 : sj_Mem} {N : Nat} {q : Unit × sj_VV} :
    ∀ (a0 : Nat) (V : sj_VV), OK6 g a0 → g_X6_weighAll N a0 V = some q → sj_T X m_X6_weighAll s0 (none, (g, q.2)) 0 [some (sj_r (some a0)), none, none] [] (g, V) := by
  intro a0 V ha0 h
  unfold g_X6_weighAll at h
  refine r_iconst (pc := 0) dX6_weighAll_0 ?_
  refine r_istore_n (ln := [some (sj_r (some a0)), some (sj_i 0), none]) (pc := 1) dX6_weighAll_1 rfl (Nat.le_of_ble_eq_true rfl) rfl ?_
  exact sj_weak (l2 := [some (sj_r (some a0)), some (sj_i 0), none]) (⟨rfl, ⟨rfl, trivial⟩⟩) (st_X6_weighAll_2 N a0 0 V ha0 h)
set_option maxHeartbeats 4000000 in
theorem cg_X6_weighAll {X : sj_X} {g : sj_G} {N : Nat} {a0 : Nat} {V : sj_VV} {q : Unit × sj_VV} (ha0 : OK6 g a0) (h : g_X6_weighAll N a0 V = some q) : sj_C X m_X6_weighAll [sj_r (some a0)] (g, V) (none, (g, q.2)) :=
  sj_C_of (by decide +kernel) (Nat.le_of_ble_eq_true rfl) (lo := [some (sj_r (some a0)), none, none]) rfl (sj_weak (l2 := [some (sj_r (some a0)), none, none]) (⟨rfl, trivial⟩) (st_X6_weighAll_0 a0 V ha0 h))
set_option maxHeartbeats 4000000 in
theorem c_X6_weighAll {X : sj_X} {N : Nat} {a0 : Nat} {s : sj_Mem} {q : Unit × sj_Mem} (h : f_X6_weighAll N a0 s = some q) : sj_C X m_X6_weighAll [sj_r (some a0)] s (none, q.2) := by
  obtain ⟨g, V⟩ := s
  unfold f_X6_weighAll at h
  obtain ⟨ho, h1⟩ := e_ok_some h
  obtain ⟨q2, h2, rfl⟩ := sj_map_some h1
  exact cg_X6_weighAll ho h2
theorem dX6_addTops_0 : decode cX6_addTops 0 = .ok (.iconst 0, 1) := by decide +kernel
theorem dX6_addTops_1 : decode cX6_addTops 1 = .ok (.istore_n 2, 1) := by decide +kernel
theorem dX6_addTops_2 : decode cX6_addTops 2 = .ok (.iload_n 2, 1) := by decide +kernel
theorem dX6_addTops_3 : decode cX6_addTops 3 = .ok (.iconst 4, 1) := by decide +kernel
theorem dX6_addTops_4 : decode cX6_addTops 4 = .ok (.if_icmp .ge 36, 3) := by decide +kernel
theorem dX6_addTops_7 : decode cX6_addTops 7 = .ok (.aload_n 0, 1) := by decide +kernel
theorem dX6_addTops_8 : decode cX6_addTops 8 = .ok (.getfield 22, 3) := by decide +kernel
theorem dX6_addTops_11 : decode cX6_addTops 11 = .ok (.iload_n 2, 1) := by decide +kernel
theorem dX6_addTops_12 : decode cX6_addTops 12 = .ok (.aload_n 0, 1) := by decide +kernel
theorem dX6_addTops_13 : decode cX6_addTops 13 = .ok (.getfield 32, 3) := by decide +kernel
theorem dX6_addTops_16 : decode cX6_addTops 16 = .ok (.iload_n 2, 1) := by decide +kernel
theorem dX6_addTops_17 : decode cX6_addTops 17 = .ok (.iload_n 1, 1) := by decide +kernel
theorem dX6_addTops_18 : decode cX6_addTops 18 = .ok (.invokevirtual 101, 3) := by decide +kernel
theorem dX6_addTops_21 : decode cX6_addTops 21 = .ok (.aload_n 0, 1) := by decide +kernel
theorem dX6_addTops_22 : decode cX6_addTops 22 = .ok (.getfield 32, 3) := by decide +kernel
theorem dX6_addTops_25 : decode cX6_addTops 25 = .ok (.iload_n 2, 1) := by decide +kernel
theorem dX6_addTops_26 : decode cX6_addTops 26 = .ok (.iload_n 1, 1) := by decide +kernel
theorem dX6_addTops_27 : decode cX6_addTops 27 = .ok (.iconst 1, 1) := by decide +kernel
theorem dX6_addTops_28 : decode cX6_addTops 28 = .ok (.iadd, 1) := by decide +kernel
theorem dX6_addTops_29 : decode cX6_addTops 29 = .ok (.invokevirtual 101, 3) := by decide +kernel
theorem dX6_addTops_32 : decode cX6_addTops 32 = .ok (.iadd, 1) := by decide +kernel
theorem dX6_addTops_33 : decode cX6_addTops 33 = .ok (.iastore, 1) := by decide +kernel
theorem dX6_addTops_34 : decode cX6_addTops 34 = .ok (.iinc 2 1, 3) := by decide +kernel
theorem dX6_addTops_37 : decode cX6_addTops 37 = .ok (.goto (-35), 3) := by decide +kernel
theorem dX6_addTops_40 : decode cX6_addTops 40 = .ok (.return_, 1) := by decide +kernel
set_option maxHeartbeats 4000000 in
theorem st_X6_addTops_2_b {X : sj_X} {g : sj_G} {s0 : sj_Mem} {N : Nat} {q : Unit × sj_VV} {k2 : Nat → Int → Int → sj_VV → Option (Unit × sj_VV)} (hk2 : ∀ (a0 : Nat) (x1 : Int) (x2 : Int) (V : sj_VV), OK6 g a0 → k2 a0 x1 x2 V = some q → sj_T X m_X6_addTops s0 (none, (g, q.2)) 2 [some (sj_r (some a0)), some (sj_i x1), some (sj_i x2)] [] (g, V)) :
    ∀ (a0 : Nat) (x1 : Int) (x2 : Int) (V : sj_VV), OK6 g a0 → g_X6_addTops_2_b N k2 a0 x1 x2 V = some q → sj_T X m_X6_addTops s0 (none, (g, q.2)) 2 [some (sj_r (some a0)), some (sj_i x1), some (sj_i x2)] [] (g, V) := by
  intro a0 x1 x2 V ha0 h
  unfold g_X6_addTops_2_b at h
  refine r_iload_n (pc := 2) dX6_addTops_2 rfl rfl ?_
  refine r_iconst (pc := 3) dX6_addTops_3 ?_
  refine r_icmp_ge (pc := 4) (tgt := 40) h dX6_addTops_4 (by decide) (fun h => ?_) (fun h => ?_)
  · exact r_vrets (pc := 40) h rfl dX6_addTops_40
  · refine r_aload_n (pc := 7) dX6_addTops_7 rfl rfl ?_
    refine r_gRs (b := a0 + 4) (pc := 8) dX6_addTops_8 fw_X6_22 rfl (ok6 ha0) (ok6_3 ha0).1 ?_
    refine r_iload_n (pc := 11) dX6_addTops_11 rfl rfl ?_
    refine r_aload_n (pc := 12) dX6_addTops_12 rfl rfl ?_
    refine r_gRs (b := 1) (pc := 13) dX6_addTops_13 fw_X6_32 rfl (ok6 ha0) (ok6_5 ha0).1 ?_
    refine r_iload_n (pc := 16) dX6_addTops_16 rfl rfl ?_
    refine r_iload_n (pc := 17) dX6_addTops_17 rfl rfl ?_
    refine r_callVs (pc := 18) (fun v => some (sj_i v)) (As := [sj_i x2, sj_i x1]) (rest := [(sj_i x2), (sj_r (some (a0 + 4)))]) (b := 1) (ok0 (ok6_5 ha0).2) h dX6_addTops_18 mw_X6_101 vw_X0_topAt (fun _ _ hc => cg_X0_topAt (ok6_5 ha0).2 hc) rfl ⟨(Nat.le_of_ble_eq_true rfl), (Nat.le_of_ble_eq_true rfl)⟩ (Nat.le_of_ble_eq_true rfl) rfl (fun v2 V1 h => ?_)
    refine r_aload_n (pc := 21) dX6_addTops_21 rfl rfl ?_
    refine r_gRs (b := 1) (pc := 22) dX6_addTops_22 fw_X6_32 rfl (ok6 ha0) (ok6_5 ha0).1 ?_
    refine r_iload_n (pc := 25) dX6_addTops_25 rfl rfl ?_
    refine r_iload_n (pc := 26) dX6_addTops_26 rfl rfl ?_
    refine r_iconst (pc := 27) dX6_addTops_27 ?_
    refine r_iadd (pc := 28) dX6_addTops_28 ?_
    refine r_callVs (pc := 29) (fun v => some (sj_i v)) (As := [sj_i x2, sj_i (x1 + 1)]) (rest := [(sj_i v2), (sj_i x2), (sj_r (some (a0 + 4)))]) (b := 1) (ok0 (ok6_5 ha0).2) h dX6_addTops_29 mw_X6_101 vw_X0_topAt (fun _ _ hc => cg_X0_topAt (ok6_5 ha0).2 hc) rfl ⟨(Nat.le_of_ble_eq_true rfl), (Nat.le_of_ble_eq_true rfl)⟩ (Nat.le_of_ble_eq_true rfl) rfl (fun v4 V3 h => ?_)
    refine r_iadd (pc := 32) dX6_addTops_32 ?_
    refine r_iastores (pc := 33) h dX6_addTops_33 (ok6_3 ha0).2 (fun V5 h => ?_)
    refine r_iinc (ln := fun w => [some (sj_r (some a0)), some (sj_i x1), some (sj_i w)]) (pc := 34) h dX6_addTops_34 rfl (Nat.le_of_ble_eq_true rfl) (fun _ => rfl) (fun v6 h => ?_)
    refine r_goto (pc := 37) (tgt := 2) dX6_addTops_37 (by decide) ?_
    exact sj_weak (l2 := [some (sj_r (some a0)), some (sj_i x1), some (sj_i v6)]) (⟨rfl, ⟨rfl, ⟨rfl, trivial⟩⟩⟩) (hk2 a0 x1 v6 V5 ha0 h)
set_option maxHeartbeats 4000000 in
theorem st_X6_addTops_2 {X : sj_X} {g : sj_G} {s0 : sj_Mem} {N : Nat} {q : Unit × sj_VV} :
    ∀ (n : Nat) (a0 : Nat) (x1 : Int) (x2 : Int) (V : sj_VV), OK6 g a0 → g_X6_addTops_2 N n a0 x1 x2 V = some q → sj_T X m_X6_addTops s0 (none, (g, q.2)) 2 [some (sj_r (some a0)), some (sj_i x1), some (sj_i x2)] [] (g, V) := by
  intro n
  induction n with
  | zero => intro a0 x1 x2 V ha0 h; exact nomatch h
  | succ n ih => intro a0 x1 x2 V ha0 h; exact st_X6_addTops_2_b (N := N) ih a0 x1 x2 V ha0 h
set_option maxHeartbeats 4000000 in
theorem st_X6_addTops_0 {X : sj_X} {g : sj_G} {s0 : sj_Mem} {N : Nat} {q : Unit × sj_VV} :
    ∀ (a0 : Nat) (x1 : Int) (V : sj_VV), OK6 g a0 → g_X6_addTops N a0 x1 V = some q → sj_T X m_X6_addTops s0 (none, (g, q.2)) 0 [some (sj_r (some a0)), some (sj_i x1), none] [] (g, V) := by
  intro a0 x1 V ha0 h
  unfold g_X6_addTops at h
  refine r_iconst (pc := 0) dX6_addTops_0 ?_
  refine r_istore_n (ln := [some (sj_r (some a0)), some (sj_i x1), some (sj_i 0)]) (pc := 1) dX6_addTops_1 rfl (Nat.le_of_ble_eq_true rfl) rfl ?_
  exact sj_weak (l2 := [some (sj_r (some a0)), some (sj_i x1), some (sj_i 0)]) (⟨rfl, ⟨rfl, ⟨rfl, trivial⟩⟩⟩) (st_X6_addTops_2 N a0 x1 0 V ha0 h)
set_option maxHeartbeats 4000000 in
theorem cg_X6_addTops {X : sj_X} {g : sj_G} {N : Nat} {a0 : Nat} {x1 : Int} {V : sj_VV} {q : Unit × sj_VV} (ha0 : OK6 g a0) (h : g_X6_addTops N a0 x1 V = some q) : sj_C X m_X6_addTops [sj_r (some a0), sj_i x1] (g, V) (none, (g, q.2)) :=
  sj_C_of (by decide +kernel) (Nat.le_of_ble_eq_true rfl) (lo := [some (sj_r (some a0)), some (sj_i x1), none]) rfl (sj_weak (l2 := [some (sj_r (some a0)), some (sj_i x1), none]) (⟨rfl, ⟨rfl, trivial⟩⟩) (st_X6_addTops_0 a0 x1 V ha0 h))
set_option maxHeartbeats 4000000 in
theorem c_X6_addTops {X : sj_X} {N : Nat} {a0 : Nat} {x1 : Int} {s : sj_Mem} {q : Unit × sj_Mem} (h : f_X6_addTops N a0 x1 s = some q) : sj_C X m_X6_addTops [sj_r (some a0), sj_i x1] s (none, q.2) := by
  obtain ⟨g, V⟩ := s
  unfold f_X6_addTops at h
  obtain ⟨ho, h1⟩ := e_ok_some h
  obtain ⟨q2, h2, rfl⟩ := sj_map_some h1
  exact cg_X6_addTops ho h2
