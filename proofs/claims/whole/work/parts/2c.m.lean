theorem dX6_leftOver_0 : decode cX6_leftOver 0 = .ok (.iconst 3, 1) := by decide +kernel
theorem dX6_leftOver_1 : decode cX6_leftOver 1 = .ok (.istore 4, 2) := by decide +kernel
theorem dX6_leftOver_3 : decode cX6_leftOver 3 = .ok (.iload 4, 2) := by decide +kernel
theorem dX6_leftOver_5 : decode cX6_leftOver 5 = .ok (.ifCond .le 22, 3) := by decide +kernel
theorem dX6_leftOver_8 : decode cX6_leftOver 8 = .ok (.aload_n 0, 1) := by decide +kernel
theorem dX6_leftOver_9 : decode cX6_leftOver 9 = .ok (.getfield 22, 3) := by decide +kernel
theorem dX6_leftOver_12 : decode cX6_leftOver 12 = .ok (.iload 4, 2) := by decide +kernel
theorem dX6_leftOver_14 : decode cX6_leftOver 14 = .ok (.iaload, 1) := by decide +kernel
theorem dX6_leftOver_15 : decode cX6_leftOver 15 = .ok (.iload_n 2, 1) := by decide +kernel
theorem dX6_leftOver_16 : decode cX6_leftOver 16 = .ok (.iload_n 3, 1) := by decide +kernel
theorem dX6_leftOver_17 : decode cX6_leftOver 17 = .ok (.iadd, 1) := by decide +kernel
theorem dX6_leftOver_18 : decode cX6_leftOver 18 = .ok (.if_icmp .gt 9, 3) := by decide +kernel
theorem dX6_leftOver_21 : decode cX6_leftOver 21 = .ok (.iinc 4 (-1), 3) := by decide +kernel
theorem dX6_leftOver_24 : decode cX6_leftOver 24 = .ok (.goto (-21), 3) := by decide +kernel
theorem dX6_leftOver_27 : decode cX6_leftOver 27 = .ok (.aload_n 0, 1) := by decide +kernel
theorem dX6_leftOver_28 : decode cX6_leftOver 28 = .ok (.getfield 32, 3) := by decide +kernel
theorem dX6_leftOver_31 : decode cX6_leftOver 31 = .ok (.getfield 126, 3) := by decide +kernel
theorem dX6_leftOver_34 : decode cX6_leftOver 34 = .ok (.istore 5, 2) := by decide +kernel
theorem dX6_leftOver_36 : decode cX6_leftOver 36 = .ok (.aload_n 0, 1) := by decide +kernel
theorem dX6_leftOver_37 : decode cX6_leftOver 37 = .ok (.getfield 32, 3) := by decide +kernel
theorem dX6_leftOver_40 : decode cX6_leftOver 40 = .ok (.getfield 129, 3) := by decide +kernel
theorem dX6_leftOver_43 : decode cX6_leftOver 43 = .ok (.iload 4, 2) := by decide +kernel
theorem dX6_leftOver_45 : decode cX6_leftOver 45 = .ok (.iaload, 1) := by decide +kernel
theorem dX6_leftOver_46 : decode cX6_leftOver 46 = .ok (.istore 6, 2) := by decide +kernel
theorem dX6_leftOver_48 : decode cX6_leftOver 48 = .ok (.aload_n 0, 1) := by decide +kernel
theorem dX6_leftOver_49 : decode cX6_leftOver 49 = .ok (.getfield 40, 3) := by decide +kernel
theorem dX6_leftOver_52 : decode cX6_leftOver 52 = .ok (.ifCond .eq 9, 3) := by decide +kernel
theorem dX6_leftOver_55 : decode cX6_leftOver 55 = .ok (.iload_n 3, 1) := by decide +kernel
theorem dX6_leftOver_56 : decode cX6_leftOver 56 = .ok (.iload_n 2, 1) := by decide +kernel
theorem dX6_leftOver_57 : decode cX6_leftOver 57 = .ok (.isub, 1) := by decide +kernel
theorem dX6_leftOver_58 : decode cX6_leftOver 58 = .ok (.goto 6, 3) := by decide +kernel
theorem dX6_leftOver_61 : decode cX6_leftOver 61 = .ok (.iload_n 2, 1) := by decide +kernel
theorem dX6_leftOver_62 : decode cX6_leftOver 62 = .ok (.iload_n 3, 1) := by decide +kernel
theorem dX6_leftOver_63 : decode cX6_leftOver 63 = .ok (.isub, 1) := by decide +kernel
theorem dX6_leftOver_64 : decode cX6_leftOver 64 = .ok (.istore 7, 2) := by decide +kernel
theorem dX6_leftOver_66 : decode cX6_leftOver 66 = .ok (.iload 5, 2) := by decide +kernel
theorem dX6_leftOver_68 : decode cX6_leftOver 68 = .ok (.i2l, 1) := by decide +kernel
theorem dX6_leftOver_69 : decode cX6_leftOver 69 = .ok (.aload_n 0, 1) := by decide +kernel
theorem dX6_leftOver_70 : decode cX6_leftOver 70 = .ok (.getfield 81, 3) := by decide +kernel
theorem dX6_leftOver_73 : decode cX6_leftOver 73 = .ok (.i2l, 1) := by decide +kernel
theorem dX6_leftOver_74 : decode cX6_leftOver 74 = .ok (.lmul, 1) := by decide +kernel
theorem dX6_leftOver_75 : decode cX6_leftOver 75 = .ok (.iload 7, 2) := by decide +kernel
theorem dX6_leftOver_77 : decode cX6_leftOver 77 = .ok (.i2l, 1) := by decide +kernel
theorem dX6_leftOver_78 : decode cX6_leftOver 78 = .ok (.iload 6, 2) := by decide +kernel
theorem dX6_leftOver_80 : decode cX6_leftOver 80 = .ok (.i2l, 1) := by decide +kernel
theorem dX6_leftOver_81 : decode cX6_leftOver 81 = .ok (.lmul, 1) := by decide +kernel
theorem dX6_leftOver_82 : decode cX6_leftOver 82 = .ok (.ladd, 1) := by decide +kernel
theorem dX6_leftOver_83 : decode cX6_leftOver 83 = .ok (.lstore 8, 2) := by decide +kernel
theorem dX6_leftOver_85 : decode cX6_leftOver 85 = .ok (.aload_n 0, 1) := by decide +kernel
theorem dX6_leftOver_86 : decode cX6_leftOver 86 = .ok (.lload 8, 2) := by decide +kernel
theorem dX6_leftOver_88 : decode cX6_leftOver 88 = .ok (.lconst 0, 1) := by decide +kernel
theorem dX6_leftOver_89 : decode cX6_leftOver 89 = .ok (.lcmp, 1) := by decide +kernel
theorem dX6_leftOver_90 : decode cX6_leftOver 90 = .ok (.ifCond .gt 7, 3) := by decide +kernel
theorem dX6_leftOver_93 : decode cX6_leftOver 93 = .ok (.iconst 1, 1) := by decide +kernel
theorem dX6_leftOver_94 : decode cX6_leftOver 94 = .ok (.goto 4, 3) := by decide +kernel
theorem dX6_leftOver_97 : decode cX6_leftOver 97 = .ok (.iconst 0, 1) := by decide +kernel
theorem dX6_leftOver_98 : decode cX6_leftOver 98 = .ok (.putfield 116, 3) := by decide +kernel
theorem dX6_leftOver_101 : decode cX6_leftOver 101 = .ok (.lload 8, 2) := by decide +kernel
theorem dX6_leftOver_103 : decode cX6_leftOver 103 = .ok (.lconst 0, 1) := by decide +kernel
theorem dX6_leftOver_104 : decode cX6_leftOver 104 = .ok (.lcmp, 1) := by decide +kernel
theorem dX6_leftOver_105 : decode cX6_leftOver 105 = .ok (.ifCond .gt 5, 3) := by decide +kernel
theorem dX6_leftOver_108 : decode cX6_leftOver 108 = .ok (.lconst 0, 1) := by decide +kernel
theorem dX6_leftOver_109 : decode cX6_leftOver 109 = .ok (.lreturn, 1) := by decide +kernel
theorem dX6_leftOver_110 : decode cX6_leftOver 110 = .ok (.iload 5, 2) := by decide +kernel
theorem dX6_leftOver_112 : decode cX6_leftOver 112 = .ok (.aload_n 0, 1) := by decide +kernel
theorem dX6_leftOver_113 : decode cX6_leftOver 113 = .ok (.getfield 19, 3) := by decide +kernel
theorem dX6_leftOver_116 : decode cX6_leftOver 116 = .ok (.iload_n 1, 1) := by decide +kernel
theorem dX6_leftOver_117 : decode cX6_leftOver 117 = .ok (.bipush 101, 2) := by decide +kernel
theorem dX6_leftOver_119 : decode cX6_leftOver 119 = .ok (.imul, 1) := by decide +kernel
theorem dX6_leftOver_120 : decode cX6_leftOver 120 = .ok (.iload_n 2, 1) := by decide +kernel
theorem dX6_leftOver_121 : decode cX6_leftOver 121 = .ok (.iadd, 1) := by decide +kernel
theorem dX6_leftOver_122 : decode cX6_leftOver 122 = .ok (.iaload, 1) := by decide +kernel
theorem dX6_leftOver_123 : decode cX6_leftOver 123 = .ok (.aload_n 0, 1) := by decide +kernel
theorem dX6_leftOver_124 : decode cX6_leftOver 124 = .ok (.getfield 19, 3) := by decide +kernel
theorem dX6_leftOver_127 : decode cX6_leftOver 127 = .ok (.iload_n 1, 1) := by decide +kernel
theorem dX6_leftOver_128 : decode cX6_leftOver 128 = .ok (.iconst 1, 1) := by decide +kernel
theorem dX6_leftOver_129 : decode cX6_leftOver 129 = .ok (.iadd, 1) := by decide +kernel
theorem dX6_leftOver_130 : decode cX6_leftOver 130 = .ok (.bipush 101, 2) := by decide +kernel
theorem dX6_leftOver_132 : decode cX6_leftOver 132 = .ok (.imul, 1) := by decide +kernel
theorem dX6_leftOver_133 : decode cX6_leftOver 133 = .ok (.iload_n 3, 1) := by decide +kernel
theorem dX6_leftOver_134 : decode cX6_leftOver 134 = .ok (.iadd, 1) := by decide +kernel
theorem dX6_leftOver_135 : decode cX6_leftOver 135 = .ok (.iaload, 1) := by decide +kernel
theorem dX6_leftOver_136 : decode cX6_leftOver 136 = .ok (.iadd, 1) := by decide +kernel
theorem dX6_leftOver_137 : decode cX6_leftOver 137 = .ok (.imul, 1) := by decide +kernel
theorem dX6_leftOver_138 : decode cX6_leftOver 138 = .ok (.istore 10, 2) := by decide +kernel
theorem dX6_leftOver_140 : decode cX6_leftOver 140 = .ok (.bipush 10, 2) := by decide +kernel
theorem dX6_leftOver_142 : decode cX6_leftOver 142 = .ok (.iload 5, 2) := by decide +kernel
theorem dX6_leftOver_144 : decode cX6_leftOver 144 = .ok (.imul, 1) := by decide +kernel
theorem dX6_leftOver_145 : decode cX6_leftOver 145 = .ok (.aload_n 0, 1) := by decide +kernel
theorem dX6_leftOver_146 : decode cX6_leftOver 146 = .ok (.getfield 32, 3) := by decide +kernel
theorem dX6_leftOver_149 : decode cX6_leftOver 149 = .ok (.iload_n 1, 1) := by decide +kernel
theorem dX6_leftOver_150 : decode cX6_leftOver 150 = .ok (.iload_n 2, 1) := by decide +kernel
theorem dX6_leftOver_151 : decode cX6_leftOver 151 = .ok (.invokevirtual 132, 3) := by decide +kernel
theorem dX6_leftOver_154 : decode cX6_leftOver 154 = .ok (.aload_n 0, 1) := by decide +kernel
theorem dX6_leftOver_155 : decode cX6_leftOver 155 = .ok (.getfield 32, 3) := by decide +kernel
theorem dX6_leftOver_158 : decode cX6_leftOver 158 = .ok (.iload_n 1, 1) := by decide +kernel
theorem dX6_leftOver_159 : decode cX6_leftOver 159 = .ok (.iconst 1, 1) := by decide +kernel
theorem dX6_leftOver_160 : decode cX6_leftOver 160 = .ok (.iadd, 1) := by decide +kernel
theorem dX6_leftOver_161 : decode cX6_leftOver 161 = .ok (.iload_n 3, 1) := by decide +kernel
theorem dX6_leftOver_162 : decode cX6_leftOver 162 = .ok (.invokevirtual 132, 3) := by decide +kernel
theorem dX6_leftOver_165 : decode cX6_leftOver 165 = .ok (.iadd, 1) := by decide +kernel
theorem dX6_leftOver_166 : decode cX6_leftOver 166 = .ok (.imul, 1) := by decide +kernel
theorem dX6_leftOver_167 : decode cX6_leftOver 167 = .ok (.istore 11, 2) := by decide +kernel
theorem dX6_leftOver_169 : decode cX6_leftOver 169 = .ok (.ldc2_w 135, 3) := by decide +kernel
theorem dX6_leftOver_172 : decode cX6_leftOver 172 = .ok (.aload_n 0, 1) := by decide +kernel
theorem dX6_leftOver_173 : decode cX6_leftOver 173 = .ok (.getfield 32, 3) := by decide +kernel
theorem dX6_leftOver_176 : decode cX6_leftOver 176 = .ok (.getfield 137, 3) := by decide +kernel
theorem dX6_leftOver_179 : decode cX6_leftOver 179 = .ok (.iload 4, 2) := by decide +kernel
theorem dX6_leftOver_181 : decode cX6_leftOver 181 = .ok (.iaload, 1) := by decide +kernel
theorem dX6_leftOver_182 : decode cX6_leftOver 182 = .ok (.i2l, 1) := by decide +kernel
theorem dX6_leftOver_183 : decode cX6_leftOver 183 = .ok (.lmul, 1) := by decide +kernel
theorem dX6_leftOver_184 : decode cX6_leftOver 184 = .ok (.iload 5, 2) := by decide +kernel
theorem dX6_leftOver_186 : decode cX6_leftOver 186 = .ok (.i2l, 1) := by decide +kernel
theorem dX6_leftOver_187 : decode cX6_leftOver 187 = .ok (.lmul, 1) := by decide +kernel
theorem dX6_leftOver_188 : decode cX6_leftOver 188 = .ok (.iconst 0, 1) := by decide +kernel
theorem dX6_leftOver_189 : decode cX6_leftOver 189 = .ok (.iload 10, 2) := by decide +kernel
theorem dX6_leftOver_191 : decode cX6_leftOver 191 = .ok (.iload 11, 2) := by decide +kernel
theorem dX6_leftOver_193 : decode cX6_leftOver 193 = .ok (.isub, 1) := by decide +kernel
theorem dX6_leftOver_194 : decode cX6_leftOver 194 = .ok (.invokestatic 109, 3) := by decide +kernel
theorem dX6_leftOver_197 : decode cX6_leftOver 197 = .ok (.i2l, 1) := by decide +kernel
theorem dX6_leftOver_198 : decode cX6_leftOver 198 = .ok (.iload 6, 2) := by decide +kernel
theorem dX6_leftOver_200 : decode cX6_leftOver 200 = .ok (.i2l, 1) := by decide +kernel
theorem dX6_leftOver_201 : decode cX6_leftOver 201 = .ok (.lmul, 1) := by decide +kernel
theorem dX6_leftOver_202 : decode cX6_leftOver 202 = .ok (.ladd, 1) := by decide +kernel
theorem dX6_leftOver_203 : decode cX6_leftOver 203 = .ok (.lstore 12, 2) := by decide +kernel
theorem dX6_leftOver_205 : decode cX6_leftOver 205 = .ok (.lload 12, 2) := by decide +kernel
theorem dX6_leftOver_207 : decode cX6_leftOver 207 = .ok (.iload 5, 2) := by decide +kernel
theorem dX6_leftOver_209 : decode cX6_leftOver 209 = .ok (.iload 5, 2) := by decide +kernel
theorem dX6_leftOver_211 : decode cX6_leftOver 211 = .ok (.imul, 1) := by decide +kernel
theorem dX6_leftOver_212 : decode cX6_leftOver 212 = .ok (.iload 7, 2) := by decide +kernel
theorem dX6_leftOver_214 : decode cX6_leftOver 214 = .ok (.iload 7, 2) := by decide +kernel
theorem dX6_leftOver_216 : decode cX6_leftOver 216 = .ok (.imul, 1) := by decide +kernel
theorem dX6_leftOver_217 : decode cX6_leftOver 217 = .ok (.iadd, 1) := by decide +kernel
theorem dX6_leftOver_218 : decode cX6_leftOver 218 = .ok (.i2l, 1) := by decide +kernel
theorem dX6_leftOver_219 : decode cX6_leftOver 219 = .ok (.lmul, 1) := by decide +kernel
theorem dX6_leftOver_220 : decode cX6_leftOver 220 = .ok (.aload_n 0, 1) := by decide +kernel
theorem dX6_leftOver_221 : decode cX6_leftOver 221 = .ok (.getfield 81, 3) := by decide +kernel
theorem dX6_leftOver_224 : decode cX6_leftOver 224 = .ok (.i2l, 1) := by decide +kernel
theorem dX6_leftOver_225 : decode cX6_leftOver 225 = .ok (.lmul, 1) := by decide +kernel
theorem dX6_leftOver_226 : decode cX6_leftOver 226 = .ok (.lload 8, 2) := by decide +kernel
theorem dX6_leftOver_228 : decode cX6_leftOver 228 = .ok (.ldiv, 1) := by decide +kernel
theorem dX6_leftOver_229 : decode cX6_leftOver 229 = .ok (.lstore 14, 2) := by decide +kernel
theorem dX6_leftOver_231 : decode cX6_leftOver 231 = .ok (.ldc2_w 140, 3) := by decide +kernel
theorem dX6_leftOver_234 : decode cX6_leftOver 234 = .ok (.lload 14, 2) := by decide +kernel
theorem dX6_leftOver_236 : decode cX6_leftOver 236 = .ok (.lmul, 1) := by decide +kernel
theorem dX6_leftOver_237 : decode cX6_leftOver 237 = .ok (.aload_n 0, 1) := by decide +kernel
theorem dX6_leftOver_238 : decode cX6_leftOver 238 = .ok (.getfield 81, 3) := by decide +kernel
theorem dX6_leftOver_241 : decode cX6_leftOver 241 = .ok (.i2l, 1) := by decide +kernel
theorem dX6_leftOver_242 : decode cX6_leftOver 242 = .ok (.iload 10, 2) := by decide +kernel
theorem dX6_leftOver_244 : decode cX6_leftOver 244 = .ok (.i2l, 1) := by decide +kernel
theorem dX6_leftOver_245 : decode cX6_leftOver 245 = .ok (.ldc2_w 140, 3) := by decide +kernel
theorem dX6_leftOver_248 : decode cX6_leftOver 248 = .ok (.iload 7, 2) := by decide +kernel
theorem dX6_leftOver_250 : decode cX6_leftOver 250 = .ok (.i2l, 1) := by decide +kernel
theorem dX6_leftOver_251 : decode cX6_leftOver 251 = .ok (.lmul, 1) := by decide +kernel
theorem dX6_leftOver_252 : decode cX6_leftOver 252 = .ok (.aload_n 0, 1) := by decide +kernel
theorem dX6_leftOver_253 : decode cX6_leftOver 253 = .ok (.getfield 32, 3) := by decide +kernel
theorem dX6_leftOver_256 : decode cX6_leftOver 256 = .ok (.getfield 142, 3) := by decide +kernel
theorem dX6_leftOver_259 : decode cX6_leftOver 259 = .ok (.iload 5, 2) := by decide +kernel
theorem dX6_leftOver_261 : decode cX6_leftOver 261 = .ok (.imul, 1) := by decide +kernel
theorem dX6_leftOver_262 : decode cX6_leftOver 262 = .ok (.i2l, 1) := by decide +kernel
theorem dX6_leftOver_263 : decode cX6_leftOver 263 = .ok (.ladd, 1) := by decide +kernel
theorem dX6_leftOver_264 : decode cX6_leftOver 264 = .ok (.lmul, 1) := by decide +kernel
theorem dX6_leftOver_265 : decode cX6_leftOver 265 = .ok (.lmul, 1) := by decide +kernel
theorem dX6_leftOver_266 : decode cX6_leftOver 266 = .ok (.lsub, 1) := by decide +kernel
theorem dX6_leftOver_267 : decode cX6_leftOver 267 = .ok (.lreturn, 1) := by decide +kernel
set_option maxHeartbeats 4000000 in
theorem st_X6_leftOver_98 {X : sj_X} {g : sj_G} {s0 : sj_Mem} {N : Nat} {q : Int × sj_VV} :
    ∀ (a0 : Nat) (x1 : Int) (x2 : Int) (x3 : Int) (x4 : Int) (x5 : Int) (x6 : Int) (x7 : Int) (x8 : Int) (y0 : Int) (y1 : Nat) (V : sj_VV), OK6 g a0 → OK6 g y1 → g_X6_leftOver_98 N a0 x1 x2 x3 x4 x5 x6 x7 x8 y0 y1 V = some q → sj_T X m_X6_leftOver s0 (some (sj_j q.1), (g, q.2)) 98 [some (sj_r (some a0)), some (sj_i x1), some (sj_i x2), some (sj_i x3), some (sj_i x4), some (sj_i x5), some (sj_i x6), some (sj_i x7), some (sj_j x8), none, none, none, none, none, none, none] [(sj_i y0), (sj_r (some y1))] (g, V) := by
  intro a0 x1 x2 x3 x4 x5 x6 x7 x8 y0 y1 V ha0 hy1 h
  unfold g_X6_leftOver_98 at h
  refine r_pZs (pc := 98) h dX6_leftOver_98 fw_X6_116 rfl rfl (nf6_13) (ok6 hy1) (fun V1 h => ?_)
  refine r_lload (pc := 101) dX6_leftOver_101 rfl ?_
  refine r_lconst0 (pc := 103) dX6_leftOver_103 ?_
  refine r_lgt (pc := 104) (tgt := 110) h dX6_leftOver_104 rfl dX6_leftOver_105 (by decide) (fun h => ?_) (fun h => ?_)
  · refine r_iload (pc := 110) dX6_leftOver_110 rfl ?_
    refine r_aload_n (pc := 112) dX6_leftOver_112 rfl rfl ?_
    refine r_gRs (b := a0 + 3) (pc := 113) dX6_leftOver_113 fw_X6_19 rfl (ok6 ha0) (ok6_2 ha0).1 ?_
    refine r_iload_n (pc := 116) dX6_leftOver_116 rfl rfl ?_
    refine r_bipush (pc := 117) dX6_leftOver_117 ⟨by decide, by decide⟩ ?_
    refine r_imul (pc := 119) dX6_leftOver_119 ?_
    refine r_iload_n (pc := 120) dX6_leftOver_120 rfl rfl ?_
    refine r_iadd (pc := 121) dX6_leftOver_121 ?_
    refine r_ialoads (pc := 122) h dX6_leftOver_122 (ok6_2 ha0).2 (fun h => ?_)
    refine r_aload_n (pc := 123) dX6_leftOver_123 rfl rfl ?_
    refine r_gRs (b := a0 + 3) (pc := 124) dX6_leftOver_124 fw_X6_19 rfl (ok6 ha0) (ok6_2 ha0).1 ?_
    refine r_iload_n (pc := 127) dX6_leftOver_127 rfl rfl ?_
    refine r_iconst (pc := 128) dX6_leftOver_128 ?_
    refine r_iadd (pc := 129) dX6_leftOver_129 ?_
    refine r_bipush (pc := 130) dX6_leftOver_130 ⟨by decide, by decide⟩ ?_
    refine r_imul (pc := 132) dX6_leftOver_132 ?_
    refine r_iload_n (pc := 133) dX6_leftOver_133 rfl rfl ?_
    refine r_iadd (pc := 134) dX6_leftOver_134 ?_
    refine r_ialoads (pc := 135) h dX6_leftOver_135 (ok6_2 ha0).2 (fun h => ?_)
    refine r_iadd (pc := 136) dX6_leftOver_136 ?_
    refine r_imul (pc := 137) dX6_leftOver_137 ?_
    refine r_istoreL (ln := fun w => [some (sj_r (some a0)), some (sj_i x1), some (sj_i x2), some (sj_i x3), some (sj_i x4), some (sj_i x5), some (sj_i x6), some (sj_i x7), some (sj_j x8), none, some (sj_i w), none, none, none, none, none]) (pc := 138) h dX6_leftOver_138 (Nat.le_of_ble_eq_true rfl) (fun _ => rfl) (fun v2 h => ?_)
    refine r_bipush (pc := 140) dX6_leftOver_140 ⟨by decide, by decide⟩ ?_
    refine r_iload (pc := 142) dX6_leftOver_142 rfl ?_
    refine r_imul (pc := 144) dX6_leftOver_144 ?_
    refine r_aload_n (pc := 145) dX6_leftOver_145 rfl rfl ?_
    refine r_gRs (b := 1) (pc := 146) dX6_leftOver_146 fw_X6_32 rfl (ok6 ha0) (ok6_5 ha0).1 ?_
    refine r_iload_n (pc := 149) dX6_leftOver_149 rfl rfl ?_
    refine r_iload_n (pc := 150) dX6_leftOver_150 rfl rfl ?_
    refine r_callVs (pc := 151) (fun v => some (sj_i v)) (As := [sj_i x1, sj_i x2]) (rest := [(sj_i (10 * x5))]) (b := 1) (ok0 (ok6_5 ha0).2) h dX6_leftOver_151 mw_X6_132 vw_X0_headOn (fun _ _ hc => cg_X0_headOn (ok6_5 ha0).2 hc) rfl ⟨(Nat.le_of_ble_eq_true rfl), (Nat.le_of_ble_eq_true rfl)⟩ (Nat.le_of_ble_eq_true rfl) rfl (fun v4 V3 h => ?_)
    refine r_aload_n (pc := 154) dX6_leftOver_154 rfl rfl ?_
    refine r_gRs (b := 1) (pc := 155) dX6_leftOver_155 fw_X6_32 rfl (ok6 ha0) (ok6_5 ha0).1 ?_
    refine r_iload_n (pc := 158) dX6_leftOver_158 rfl rfl ?_
    refine r_iconst (pc := 159) dX6_leftOver_159 ?_
    refine r_iadd (pc := 160) dX6_leftOver_160 ?_
    refine r_iload_n (pc := 161) dX6_leftOver_161 rfl rfl ?_
    refine r_callVs (pc := 162) (fun v => some (sj_i v)) (As := [sj_i (x1 + 1), sj_i x3]) (rest := [(sj_i v4), (sj_i (10 * x5))]) (b := 1) (ok0 (ok6_5 ha0).2) h dX6_leftOver_162 mw_X6_132 vw_X0_headOn (fun _ _ hc => cg_X0_headOn (ok6_5 ha0).2 hc) rfl ⟨(Nat.le_of_ble_eq_true rfl), (Nat.le_of_ble_eq_true rfl)⟩ (Nat.le_of_ble_eq_true rfl) rfl (fun v6 V5 h => ?_)
    refine r_iadd (pc := 165) dX6_leftOver_165 ?_
    refine r_imul (pc := 166) dX6_leftOver_166 ?_
    refine r_istoreL (ln := fun w => [some (sj_r (some a0)), some (sj_i x1), some (sj_i x2), some (sj_i x3), some (sj_i x4), some (sj_i x5), some (sj_i x6), some (sj_i x7), some (sj_j x8), none, some (sj_i v2), some (sj_i w), none, none, none, none]) (pc := 167) h dX6_leftOver_167 (Nat.le_of_ble_eq_true rfl) (fun _ => rfl) (fun v7 h => ?_)
    refine r_ldc2 (n := 2000) (pc := 169) dX6_leftOver_169 kc_X6_135 ?_
    refine r_aload_n (pc := 172) dX6_leftOver_172 rfl rfl ?_
    refine r_gRs (b := 1) (pc := 173) dX6_leftOver_173 fw_X6_32 rfl (ok6 ha0) (ok6_5 ha0).1 ?_
    refine r_gRs (b := 1 + 7) (pc := 176) dX6_leftOver_176 fw_X6_137 rfl (ok0 (ok6_5 ha0).2) (ok0_9 (ok6_5 ha0).2).1 ?_
    refine r_iload (pc := 179) dX6_leftOver_179 rfl ?_
    refine r_ialoads (pc := 181) h dX6_leftOver_181 (ok0_9 (ok6_5 ha0).2).2 (fun h => ?_)
    refine r_i2l (pc := 182) h dX6_leftOver_182 (fun v8 h => ?_)
    refine r_lmul (pc := 183) dX6_leftOver_183 ?_
    refine r_iload (pc := 184) dX6_leftOver_184 rfl ?_
    refine r_i2l (pc := 186) h dX6_leftOver_186 (fun v9 h => ?_)
    refine r_lmul (pc := 187) dX6_leftOver_187 ?_
    refine r_iconst (pc := 188) dX6_leftOver_188 ?_
    refine r_iload (pc := 189) dX6_leftOver_189 rfl ?_
    refine r_iload (pc := 191) dX6_leftOver_191 rfl ?_
    refine r_isub (pc := 193) dX6_leftOver_193 ?_
    refine r_mmax (pc := 194) h dX6_leftOver_194 mx_X6_109 (Nat.le_of_ble_eq_true rfl) (Nat.le_of_ble_eq_true rfl) (fun v10 h => ?_)
    refine r_i2l (pc := 197) h dX6_leftOver_197 (fun v11 h => ?_)
    refine r_iload (pc := 198) dX6_leftOver_198 rfl ?_
    refine r_i2l (pc := 200) h dX6_leftOver_200 (fun v12 h => ?_)
    refine r_lmul (pc := 201) dX6_leftOver_201 ?_
    refine r_ladd (pc := 202) dX6_leftOver_202 ?_
    refine r_lstoreL (ln := fun w => [some (sj_r (some a0)), some (sj_i x1), some (sj_i x2), some (sj_i x3), some (sj_i x4), some (sj_i x5), some (sj_i x6), some (sj_i x7), some (sj_j x8), none, some (sj_i v2), some (sj_i v7), some (sj_j w), none, none, none]) (pc := 203) h dX6_leftOver_203 (Nat.le_of_ble_eq_true rfl) (fun _ => rfl) (fun v13 h => ?_)
    refine r_lload (pc := 205) dX6_leftOver_205 rfl ?_
    refine r_iload (pc := 207) dX6_leftOver_207 rfl ?_
    refine r_iload (pc := 209) dX6_leftOver_209 rfl ?_
    refine r_imul (pc := 211) dX6_leftOver_211 ?_
    refine r_iload (pc := 212) dX6_leftOver_212 rfl ?_
    refine r_iload (pc := 214) dX6_leftOver_214 rfl ?_
    refine r_imul (pc := 216) dX6_leftOver_216 ?_
    refine r_iadd (pc := 217) dX6_leftOver_217 ?_
    refine r_i2l (pc := 218) h dX6_leftOver_218 (fun v14 h => ?_)
    refine r_lmul (pc := 219) dX6_leftOver_219 ?_
    refine r_aload_n (pc := 220) dX6_leftOver_220 rfl rfl ?_
    refine r_gIs (pc := 221) dX6_leftOver_221 fw_X6_81 rfl (ok6 ha0) ?_
    refine r_i2l (pc := 224) h dX6_leftOver_224 (fun v15 h => ?_)
    refine r_lmul (pc := 225) dX6_leftOver_225 ?_
    refine r_lload (pc := 226) dX6_leftOver_226 rfl ?_
    refine r_ldiv (pc := 228) h dX6_leftOver_228 (fun v16 h => ?_)
    refine r_lstore (ln := [some (sj_r (some a0)), some (sj_i x1), some (sj_i x2), some (sj_i x3), some (sj_i x4), some (sj_i x5), some (sj_i x6), some (sj_i x7), some (sj_j x8), none, some (sj_i v2), some (sj_i v7), some (sj_j v13), none, some (sj_j v16), none]) (pc := 229) dX6_leftOver_229 (Nat.le_of_ble_eq_true rfl) rfl ?_
    refine r_ldc2 (n := 1000) (pc := 231) dX6_leftOver_231 kc_X6_140 ?_
    refine r_lload (pc := 234) dX6_leftOver_234 rfl ?_
    refine r_lmul (pc := 236) dX6_leftOver_236 ?_
    refine r_aload_n (pc := 237) dX6_leftOver_237 rfl rfl ?_
    refine r_gIs (pc := 238) dX6_leftOver_238 fw_X6_81 rfl (ok6 ha0) ?_
    refine r_i2l (pc := 241) h dX6_leftOver_241 (fun v17 h => ?_)
    refine r_iload (pc := 242) dX6_leftOver_242 rfl ?_
    refine r_i2l (pc := 244) h dX6_leftOver_244 (fun v18 h => ?_)
    refine r_ldc2 (n := 1000) (pc := 245) dX6_leftOver_245 kc_X6_140 ?_
    refine r_iload (pc := 248) dX6_leftOver_248 rfl ?_
    refine r_i2l (pc := 250) h dX6_leftOver_250 (fun v19 h => ?_)
    refine r_lmul (pc := 251) dX6_leftOver_251 ?_
    refine r_aload_n (pc := 252) dX6_leftOver_252 rfl rfl ?_
    refine r_gRs (b := 1) (pc := 253) dX6_leftOver_253 fw_X6_32 rfl (ok6 ha0) (ok6_5 ha0).1 ?_
    refine r_gIs (pc := 256) dX6_leftOver_256 fw_X6_142 rfl (ok0 (ok6_5 ha0).2) ?_
    refine r_iload (pc := 259) dX6_leftOver_259 rfl ?_
    refine r_imul (pc := 261) dX6_leftOver_261 ?_
    refine r_i2l (pc := 262) h dX6_leftOver_262 (fun v20 h => ?_)
    refine r_ladd (pc := 263) dX6_leftOver_263 ?_
    refine r_lmul (pc := 264) dX6_leftOver_264 ?_
    refine r_lmul (pc := 265) dX6_leftOver_265 ?_
    refine r_lsub (pc := 266) dX6_leftOver_266 ?_
    exact r_lrets (pc := 267) h rfl dX6_leftOver_267
  · refine r_lconst0 (pc := 108) dX6_leftOver_108 ?_
    exact r_lrets (pc := 109) h rfl dX6_leftOver_109
set_option maxHeartbeats 4000000 in
theorem st_X6_leftOver_64 {X : sj_X} {g : sj_G} {s0 : sj_Mem} {N : Nat} {q : Int × sj_VV} :
    ∀ (a0 : Nat) (x1 : Int) (x2 : Int) (x3 : Int) (x4 : Int) (x5 : Int) (x6 : Int) (y0 : Int) (V : sj_VV), OK6 g a0 → g_X6_leftOver_64 N a0 x1 x2 x3 x4 x5 x6 y0 V = some q → sj_T X m_X6_leftOver s0 (some (sj_j q.1), (g, q.2)) 64 [some (sj_r (some a0)), some (sj_i x1), some (sj_i x2), some (sj_i x3), some (sj_i x4), some (sj_i x5), some (sj_i x6), none, none, none, none, none, none, none, none, none] [(sj_i y0)] (g, V) := by
  intro a0 x1 x2 x3 x4 x5 x6 y0 V ha0 h
  unfold g_X6_leftOver_64 at h
  refine r_istore (ln := [some (sj_r (some a0)), some (sj_i x1), some (sj_i x2), some (sj_i x3), some (sj_i x4), some (sj_i x5), some (sj_i x6), some (sj_i y0), none, none, none, none, none, none, none, none]) (pc := 64) dX6_leftOver_64 (Nat.le_of_ble_eq_true rfl) rfl ?_
  refine r_iload (pc := 66) dX6_leftOver_66 rfl ?_
  refine r_i2l (pc := 68) h dX6_leftOver_68 (fun v1 h => ?_)
  refine r_aload_n (pc := 69) dX6_leftOver_69 rfl rfl ?_
  refine r_gIs (pc := 70) dX6_leftOver_70 fw_X6_81 rfl (ok6 ha0) ?_
  refine r_i2l (pc := 73) h dX6_leftOver_73 (fun v2 h => ?_)
  refine r_lmul (pc := 74) dX6_leftOver_74 ?_
  refine r_iload (pc := 75) dX6_leftOver_75 rfl ?_
  refine r_i2l (pc := 77) h dX6_leftOver_77 (fun v3 h => ?_)
  refine r_iload (pc := 78) dX6_leftOver_78 rfl ?_
  refine r_i2l (pc := 80) h dX6_leftOver_80 (fun v4 h => ?_)
  refine r_lmul (pc := 81) dX6_leftOver_81 ?_
  refine r_ladd (pc := 82) dX6_leftOver_82 ?_
  refine r_lstoreL (ln := fun w => [some (sj_r (some a0)), some (sj_i x1), some (sj_i x2), some (sj_i x3), some (sj_i x4), some (sj_i x5), some (sj_i x6), some (sj_i y0), some (sj_j w), none, none, none, none, none, none, none]) (pc := 83) h dX6_leftOver_83 (Nat.le_of_ble_eq_true rfl) (fun _ => rfl) (fun v5 h => ?_)
  refine r_aload_n (pc := 85) dX6_leftOver_85 rfl rfl ?_
  refine r_lload (pc := 86) dX6_leftOver_86 rfl ?_
  refine r_lconst0 (pc := 88) dX6_leftOver_88 ?_
  refine r_lgt (pc := 89) (tgt := 97) h dX6_leftOver_89 rfl dX6_leftOver_90 (by decide) (fun h => ?_) (fun h => ?_)
  · refine r_iconst (pc := 97) dX6_leftOver_97 ?_
    exact sj_weak (l2 := [some (sj_r (some a0)), some (sj_i x1), some (sj_i x2), some (sj_i x3), some (sj_i x4), some (sj_i x5), some (sj_i x6), some (sj_i y0), some (sj_j v5), none, none, none, none, none, none, none]) (⟨rfl, ⟨rfl, ⟨rfl, ⟨rfl, ⟨rfl, ⟨rfl, ⟨rfl, ⟨rfl, ⟨rfl, trivial⟩⟩⟩⟩⟩⟩⟩⟩⟩) (st_X6_leftOver_98 a0 x1 x2 x3 x4 x5 x6 y0 v5 0 a0 V ha0 ha0 h)
  · refine r_iconst (pc := 93) dX6_leftOver_93 ?_
    refine r_goto (pc := 94) (tgt := 98) dX6_leftOver_94 (by decide) ?_
    exact sj_weak (l2 := [some (sj_r (some a0)), some (sj_i x1), some (sj_i x2), some (sj_i x3), some (sj_i x4), some (sj_i x5), some (sj_i x6), some (sj_i y0), some (sj_j v5), none, none, none, none, none, none, none]) (⟨rfl, ⟨rfl, ⟨rfl, ⟨rfl, ⟨rfl, ⟨rfl, ⟨rfl, ⟨rfl, ⟨rfl, trivial⟩⟩⟩⟩⟩⟩⟩⟩⟩) (st_X6_leftOver_98 a0 x1 x2 x3 x4 x5 x6 y0 v5 1 a0 V ha0 ha0 h)
set_option maxHeartbeats 4000000 in
theorem st_X6_leftOver_27 {X : sj_X} {g : sj_G} {s0 : sj_Mem} {N : Nat} {q : Int × sj_VV} :
    ∀ (a0 : Nat) (x1 : Int) (x2 : Int) (x3 : Int) (x4 : Int) (V : sj_VV), OK6 g a0 → g_X6_leftOver_27 N a0 x1 x2 x3 x4 V = some q → sj_T X m_X6_leftOver s0 (some (sj_j q.1), (g, q.2)) 27 [some (sj_r (some a0)), some (sj_i x1), some (sj_i x2), some (sj_i x3), some (sj_i x4), none, none, none, none, none, none, none, none, none, none, none] [] (g, V) := by
  intro a0 x1 x2 x3 x4 V ha0 h
  unfold g_X6_leftOver_27 at h
  refine r_aload_n (pc := 27) dX6_leftOver_27 rfl rfl ?_
  refine r_gRs (b := 1) (pc := 28) dX6_leftOver_28 fw_X6_32 rfl (ok6 ha0) (ok6_5 ha0).1 ?_
  refine r_gIs (pc := 31) dX6_leftOver_31 fw_X6_126 rfl (ok0 (ok6_5 ha0).2) ?_
  refine r_istoreL (ln := fun w => [some (sj_r (some a0)), some (sj_i x1), some (sj_i x2), some (sj_i x3), some (sj_i x4), some (sj_i w), none, none, none, none, none, none, none, none, none, none]) (pc := 34) h dX6_leftOver_34 (Nat.le_of_ble_eq_true rfl) (fun _ => rfl) (fun v1 h => ?_)
  refine r_aload_n (pc := 36) dX6_leftOver_36 rfl rfl ?_
  refine r_gRs (b := 1) (pc := 37) dX6_leftOver_37 fw_X6_32 rfl (ok6 ha0) (ok6_5 ha0).1 ?_
  refine r_gRs (b := 1 + 8) (pc := 40) dX6_leftOver_40 fw_X6_129 rfl (ok0 (ok6_5 ha0).2) (ok0_10 (ok6_5 ha0).2).1 ?_
  refine r_iload (pc := 43) dX6_leftOver_43 rfl ?_
  refine r_ialoads (pc := 45) h dX6_leftOver_45 (ok0_10 (ok6_5 ha0).2).2 (fun h => ?_)
  refine r_istoreL (ln := fun w => [some (sj_r (some a0)), some (sj_i x1), some (sj_i x2), some (sj_i x3), some (sj_i x4), some (sj_i v1), some (sj_i w), none, none, none, none, none, none, none, none, none]) (pc := 46) h dX6_leftOver_46 (Nat.le_of_ble_eq_true rfl) (fun _ => rfl) (fun v2 h => ?_)
  refine r_aload_n (pc := 48) dX6_leftOver_48 rfl rfl ?_
  refine r_gIs (pc := 49) dX6_leftOver_49 fw_X6_40 rfl (ok6 ha0) ?_
  refine r_if_eq (pc := 52) (tgt := 61) h dX6_leftOver_52 (by decide) (fun h => ?_) (fun h => ?_)
  · refine r_iload_n (pc := 61) dX6_leftOver_61 rfl rfl ?_
    refine r_iload_n (pc := 62) dX6_leftOver_62 rfl rfl ?_
    refine r_isub (pc := 63) dX6_leftOver_63 ?_
    exact sj_weak (l2 := [some (sj_r (some a0)), some (sj_i x1), some (sj_i x2), some (sj_i x3), some (sj_i x4), some (sj_i v1), some (sj_i v2), none, none, none, none, none, none, none, none, none]) (⟨rfl, ⟨rfl, ⟨rfl, ⟨rfl, ⟨rfl, ⟨rfl, ⟨rfl, trivial⟩⟩⟩⟩⟩⟩⟩) (st_X6_leftOver_64 a0 x1 x2 x3 x4 v1 v2 (x2 - x3) V ha0 h)
  · refine r_iload_n (pc := 55) dX6_leftOver_55 rfl rfl ?_
    refine r_iload_n (pc := 56) dX6_leftOver_56 rfl rfl ?_
    refine r_isub (pc := 57) dX6_leftOver_57 ?_
    refine r_goto (pc := 58) (tgt := 64) dX6_leftOver_58 (by decide) ?_
    exact sj_weak (l2 := [some (sj_r (some a0)), some (sj_i x1), some (sj_i x2), some (sj_i x3), some (sj_i x4), some (sj_i v1), some (sj_i v2), none, none, none, none, none, none, none, none, none]) (⟨rfl, ⟨rfl, ⟨rfl, ⟨rfl, ⟨rfl, ⟨rfl, ⟨rfl, trivial⟩⟩⟩⟩⟩⟩⟩) (st_X6_leftOver_64 a0 x1 x2 x3 x4 v1 v2 (x3 - x2) V ha0 h)
set_option maxHeartbeats 4000000 in
theorem st_X6_leftOver_3_b {X : sj_X} {g : sj_G} {s0 : sj_Mem} {N : Nat} {q : Int × sj_VV} {k3 : Nat → Int → Int → Int → Int → sj_VV → Option (Int × sj_VV)} (hk3 : ∀ (a0 : Nat) (x1 : Int) (x2 : Int) (x3 : Int) (x4 : Int) (V : sj_VV), OK6 g a0 → k3 a0 x1 x2 x3 x4 V = some q → sj_T X m_X6_leftOver s0 (some (sj_j q.1), (g, q.2)) 3 [some (sj_r (some a0)), some (sj_i x1), some (sj_i x2), some (sj_i x3), some (sj_i x4), none, none, none, none, none, none, none, none, none, none, none] [] (g, V)) :
    ∀ (a0 : Nat) (x1 : Int) (x2 : Int) (x3 : Int) (x4 : Int) (V : sj_VV), OK6 g a0 → g_X6_leftOver_3_b N k3 a0 x1 x2 x3 x4 V = some q → sj_T X m_X6_leftOver s0 (some (sj_j q.1), (g, q.2)) 3 [some (sj_r (some a0)), some (sj_i x1), some (sj_i x2), some (sj_i x3), some (sj_i x4), none, none, none, none, none, none, none, none, none, none, none] [] (g, V) := by
  intro a0 x1 x2 x3 x4 V ha0 h
  unfold g_X6_leftOver_3_b at h
  refine r_iload (pc := 3) dX6_leftOver_3 rfl ?_
  refine r_if_le (pc := 5) (tgt := 27) h dX6_leftOver_5 (by decide) (fun h => ?_) (fun h => ?_)
  · exact sj_weak (l2 := [some (sj_r (some a0)), some (sj_i x1), some (sj_i x2), some (sj_i x3), some (sj_i x4), none, none, none, none, none, none, none, none, none, none, none]) (⟨rfl, ⟨rfl, ⟨rfl, ⟨rfl, ⟨rfl, trivial⟩⟩⟩⟩⟩) (st_X6_leftOver_27 a0 x1 x2 x3 x4 V ha0 h)
  · refine r_aload_n (pc := 8) dX6_leftOver_8 rfl rfl ?_
    refine r_gRs (b := a0 + 4) (pc := 9) dX6_leftOver_9 fw_X6_22 rfl (ok6 ha0) (ok6_3 ha0).1 ?_
    refine r_iload (pc := 12) dX6_leftOver_12 rfl ?_
    refine r_ialoads (pc := 14) h dX6_leftOver_14 (ok6_3 ha0).2 (fun h => ?_)
    refine r_iload_n (pc := 15) dX6_leftOver_15 rfl rfl ?_
    refine r_iload_n (pc := 16) dX6_leftOver_16 rfl rfl ?_
    refine r_iadd (pc := 17) dX6_leftOver_17 ?_
    refine r_icmp_gt (pc := 18) (tgt := 27) h dX6_leftOver_18 (by decide) (fun h => ?_) (fun h => ?_)
    · exact sj_weak (l2 := [some (sj_r (some a0)), some (sj_i x1), some (sj_i x2), some (sj_i x3), some (sj_i x4), none, none, none, none, none, none, none, none, none, none, none]) (⟨rfl, ⟨rfl, ⟨rfl, ⟨rfl, ⟨rfl, trivial⟩⟩⟩⟩⟩) (st_X6_leftOver_27 a0 x1 x2 x3 x4 V ha0 h)
    · refine r_iinc (ln := fun w => [some (sj_r (some a0)), some (sj_i x1), some (sj_i x2), some (sj_i x3), some (sj_i w), none, none, none, none, none, none, none, none, none, none, none]) (pc := 21) h dX6_leftOver_21 rfl (Nat.le_of_ble_eq_true rfl) (fun _ => rfl) (fun v1 h => ?_)
      refine r_goto (pc := 24) (tgt := 3) dX6_leftOver_24 (by decide) ?_
      exact sj_weak (l2 := [some (sj_r (some a0)), some (sj_i x1), some (sj_i x2), some (sj_i x3), some (sj_i v1), none, none, none, none, none, none, none, none, none, none, none]) (⟨rfl, ⟨rfl, ⟨rfl, ⟨rfl, ⟨rfl, trivial⟩⟩⟩⟩⟩) (hk3 a0 x1 x2 x3 v1 V ha0 h)
set_option maxHeartbeats 4000000 in
theorem st_X6_leftOver_3 {X : sj_X} {g : sj_G} {s0 : sj_Mem} {N : Nat} {q : Int × sj_VV} :
    ∀ (n : Nat) (a0 : Nat) (x1 : Int) (x2 : Int) (x3 : Int) (x4 : Int) (V : sj_VV), OK6 g a0 → g_X6_leftOver_3 N n a0 x1 x2 x3 x4 V = some q → sj_T X m_X6_leftOver s0 (some (sj_j q.1), (g, q.2)) 3 [some (sj_r (some a0)), some (sj_i x1), some (sj_i x2), some (sj_i x3), some (sj_i x4), none, none, none, none, none, none, none, none, none, none, none] [] (g, V) := by
  intro n
  induction n with
  | zero => intro a0 x1 x2 x3 x4 V ha0 h; exact nomatch h
  | succ n ih => intro a0 x1 x2 x3 x4 V ha0 h; exact st_X6_leftOver_3_b (N := N) ih a0 x1 x2 x3 x4 V ha0 h
set_option maxHeartbeats 4000000 in
theorem st_X6_leftOver_0 {X : sj_X} {g : sj_G} {s0 : sj_Mem} {N : Nat} {q : Int × sj_VV} :
    ∀ (a0 : Nat) (x1 : Int) (x2 : Int) (x3 : Int) (V : sj_VV), OK6 g a0 → g_X6_leftOver N a0 x1 x2 x3 V = some q → sj_T X m_X6_leftOver s0 (some (sj_j q.1), (g, q.2)) 0 [some (sj_r (some a0)), some (sj_i x1), some (sj_i x2), some (sj_i x3), none, none, none, none, none, none, none, none, none, none, none, none] [] (g, V) := by
  intro a0 x1 x2 x3 V ha0 h
  unfold g_X6_leftOver at h
  refine r_iconst (pc := 0) dX6_leftOver_0 ?_
  refine r_istore (ln := [some (sj_r (some a0)), some (sj_i x1), some (sj_i x2), some (sj_i x3), some (sj_i 3), none, none, none, none, none, none, none, none, none, none, none]) (pc := 1) dX6_leftOver_1 (Nat.le_of_ble_eq_true rfl) rfl ?_
  exact sj_weak (l2 := [some (sj_r (some a0)), some (sj_i x1), some (sj_i x2), some (sj_i x3), some (sj_i 3), none, none, none, none, none, none, none, none, none, none, none]) (⟨rfl, ⟨rfl, ⟨rfl, ⟨rfl, ⟨rfl, trivial⟩⟩⟩⟩⟩) (st_X6_leftOver_3 N a0 x1 x2 x3 3 V ha0 h)
set_option maxHeartbeats 4000000 in
theorem cg_X6_leftOver {X : sj_X} {g : sj_G} {N : Nat} {a0 : Nat} {x1 : Int} {x2 : Int} {x3 : Int} {V : sj_VV} {q : Int × sj_VV} (ha0 : OK6 g a0) (h : g_X6_leftOver N a0 x1 x2 x3 V = some q) : sj_C X m_X6_leftOver [sj_r (some a0), sj_i x1, sj_i x2, sj_i x3] (g, V) (some (sj_j q.1), (g, q.2)) :=
  sj_C_of (by decide +kernel) (Nat.le_of_ble_eq_true rfl) (lo := [some (sj_r (some a0)), some (sj_i x1), some (sj_i x2), some (sj_i x3), none, none, none, none, none, none, none, none, none, none, none, none]) rfl (sj_weak (l2 := [some (sj_r (some a0)), some (sj_i x1), some (sj_i x2), some (sj_i x3), none, none, none, none, none, none, none, none, none, none, none, none]) (⟨rfl, ⟨rfl, ⟨rfl, ⟨rfl, trivial⟩⟩⟩⟩) (st_X6_leftOver_0 a0 x1 x2 x3 V ha0 h))
set_option maxHeartbeats 4000000 in
theorem c_X6_leftOver {X : sj_X} {N : Nat} {a0 : Nat} {x1 : Int} {x2 : Int} {x3 : Int} {s : sj_Mem} {q : Int × sj_Mem} (h : f_X6_leftOver N a0 x1 x2 x3 s = some q) : sj_C X m_X6_leftOver [sj_r (some a0), sj_i x1, sj_i x2, sj_i x3] s (some (sj_j q.1), q.2) := by
  obtain ⟨g, V⟩ := s
  unfold f_X6_leftOver at h
  obtain ⟨ho, h1⟩ := e_ok_some h
  obtain ⟨q2, h2, rfl⟩ := sj_map_some h1
  exact cg_X6_leftOver ho h2
theorem dX6_pass_0 : decode cX6_pass 0 = .ok (.aload_n 0, 1) := by decide +kernel
theorem dX6_pass_1 : decode cX6_pass 1 = .ok (.getfield 15, 3) := by decide +kernel
theorem dX6_pass_4 : decode cX6_pass 4 = .ok (.iload_n 1, 1) := by decide +kernel
theorem dX6_pass_5 : decode cX6_pass 5 = .ok (.iaload, 1) := by decide +kernel
theorem dX6_pass_6 : decode cX6_pass 6 = .ok (.iconst (-1), 1) := by decide +kernel
theorem dX6_pass_7 : decode cX6_pass 7 = .ok (.if_icmp .eq 35, 3) := by decide +kernel
theorem dX6_pass_10 : decode cX6_pass 10 = .ok (.lload_n 3, 1) := by decide +kernel
theorem dX6_pass_11 : decode cX6_pass 11 = .ok (.aload_n 0, 1) := by decide +kernel
theorem dX6_pass_12 : decode cX6_pass 12 = .ok (.getfield 9, 3) := by decide +kernel
theorem dX6_pass_15 : decode cX6_pass 15 = .ok (.iload_n 1, 1) := by decide +kernel
theorem dX6_pass_16 : decode cX6_pass 16 = .ok (.laload, 1) := by decide +kernel
theorem dX6_pass_17 : decode cX6_pass 17 = .ok (.lcmp, 1) := by decide +kernel
theorem dX6_pass_18 : decode cX6_pass 18 = .ok (.ifCond .lt 24, 3) := by decide +kernel
theorem dX6_pass_21 : decode cX6_pass 21 = .ok (.lload_n 3, 1) := by decide +kernel
theorem dX6_pass_22 : decode cX6_pass 22 = .ok (.aload_n 0, 1) := by decide +kernel
theorem dX6_pass_23 : decode cX6_pass 23 = .ok (.getfield 9, 3) := by decide +kernel
theorem dX6_pass_26 : decode cX6_pass 26 = .ok (.iload_n 1, 1) := by decide +kernel
theorem dX6_pass_27 : decode cX6_pass 27 = .ok (.laload, 1) := by decide +kernel
theorem dX6_pass_28 : decode cX6_pass 28 = .ok (.lcmp, 1) := by decide +kernel
theorem dX6_pass_29 : decode cX6_pass 29 = .ok (.ifCond .ne 27, 3) := by decide +kernel
theorem dX6_pass_32 : decode cX6_pass 32 = .ok (.iload_n 2, 1) := by decide +kernel
theorem dX6_pass_33 : decode cX6_pass 33 = .ok (.aload_n 0, 1) := by decide +kernel
theorem dX6_pass_34 : decode cX6_pass 34 = .ok (.getfield 15, 3) := by decide +kernel
theorem dX6_pass_37 : decode cX6_pass 37 = .ok (.iload_n 1, 1) := by decide +kernel
theorem dX6_pass_38 : decode cX6_pass 38 = .ok (.iaload, 1) := by decide +kernel
theorem dX6_pass_39 : decode cX6_pass 39 = .ok (.if_icmp .ge 17, 3) := by decide +kernel
theorem dX6_pass_42 : decode cX6_pass 42 = .ok (.aload_n 0, 1) := by decide +kernel
theorem dX6_pass_43 : decode cX6_pass 43 = .ok (.getfield 9, 3) := by decide +kernel
theorem dX6_pass_46 : decode cX6_pass 46 = .ok (.iload_n 1, 1) := by decide +kernel
theorem dX6_pass_47 : decode cX6_pass 47 = .ok (.lload_n 3, 1) := by decide +kernel
theorem dX6_pass_48 : decode cX6_pass 48 = .ok (.lastore, 1) := by decide +kernel
theorem dX6_pass_49 : decode cX6_pass 49 = .ok (.aload_n 0, 1) := by decide +kernel
theorem dX6_pass_50 : decode cX6_pass 50 = .ok (.getfield 15, 3) := by decide +kernel
theorem dX6_pass_53 : decode cX6_pass 53 = .ok (.iload_n 1, 1) := by decide +kernel
theorem dX6_pass_54 : decode cX6_pass 54 = .ok (.iload_n 2, 1) := by decide +kernel
theorem dX6_pass_55 : decode cX6_pass 55 = .ok (.iastore, 1) := by decide +kernel
theorem dX6_pass_56 : decode cX6_pass 56 = .ok (.return_, 1) := by decide +kernel
set_option maxHeartbeats 4000000 in
theorem st_X6_pass_42 {X : sj_X} {g : sj_G} {s0 : sj_Mem} {N : Nat} {q : Unit × sj_VV} :
    ∀ (a0 : Nat) (x1 : Int) (x2 : Int) (x3 : Int) (V : sj_VV), OK6 g a0 → g_X6_pass_42 N a0 x1 x2 x3 V = some q → sj_T X m_X6_pass s0 (none, (g, q.2)) 42 [some (sj_r (some a0)), some (sj_i x1), some (sj_i x2), some (sj_j x3), none] [] (g, V) := by
  intro a0 x1 x2 x3 V ha0 h
  unfold g_X6_pass_42 at h
  refine r_aload_n (pc := 42) dX6_pass_42 rfl rfl ?_
  refine r_gRs (b := a0 + 1) (pc := 43) dX6_pass_43 fw_X6_9 rfl (ok6 ha0) (ok6_0 ha0).1 ?_
  refine r_iload_n (pc := 46) dX6_pass_46 rfl rfl ?_
  refine r_lload_n (pc := 47) dX6_pass_47 rfl rfl ?_
  refine r_lastores (pc := 48) h dX6_pass_48 (ok6_0 ha0).2 (fun V1 h => ?_)
  refine r_aload_n (pc := 49) dX6_pass_49 rfl rfl ?_
  refine r_gRs (b := a0 + 2) (pc := 50) dX6_pass_50 fw_X6_15 rfl (ok6 ha0) (ok6_1 ha0).1 ?_
  refine r_iload_n (pc := 53) dX6_pass_53 rfl rfl ?_
  refine r_iload_n (pc := 54) dX6_pass_54 rfl rfl ?_
  refine r_iastores (pc := 55) h dX6_pass_55 (ok6_1 ha0).2 (fun V2 h => ?_)
  exact r_vrets (pc := 56) h rfl dX6_pass_56
set_option maxHeartbeats 4000000 in
theorem st_X6_pass_0 {X : sj_X} {g : sj_G} {s0 : sj_Mem} {N : Nat} {q : Unit × sj_VV} :
    ∀ (a0 : Nat) (x1 : Int) (x2 : Int) (x3 : Int) (V : sj_VV), OK6 g a0 → g_X6_pass N a0 x1 x2 x3 V = some q → sj_T X m_X6_pass s0 (none, (g, q.2)) 0 [some (sj_r (some a0)), some (sj_i x1), some (sj_i x2), some (sj_j x3), none] [] (g, V) := by
  intro a0 x1 x2 x3 V ha0 h
  unfold g_X6_pass at h
  refine r_aload_n (pc := 0) dX6_pass_0 rfl rfl ?_
  refine r_gRs (b := a0 + 2) (pc := 1) dX6_pass_1 fw_X6_15 rfl (ok6 ha0) (ok6_1 ha0).1 ?_
  refine r_iload_n (pc := 4) dX6_pass_4 rfl rfl ?_
  refine r_ialoads (pc := 5) h dX6_pass_5 (ok6_1 ha0).2 (fun h => ?_)
  refine r_iconst (pc := 6) dX6_pass_6 ?_
  refine r_icmp_eq (pc := 7) (tgt := 42) h dX6_pass_7 (by decide) (fun h => ?_) (fun h => ?_)
  · exact sj_weak (l2 := [some (sj_r (some a0)), some (sj_i x1), some (sj_i x2), some (sj_j x3), none]) (⟨rfl, ⟨rfl, ⟨rfl, ⟨rfl, trivial⟩⟩⟩⟩) (st_X6_pass_42 a0 x1 x2 x3 V ha0 h)
  · refine r_lload_n (pc := 10) dX6_pass_10 rfl rfl ?_
    refine r_aload_n (pc := 11) dX6_pass_11 rfl rfl ?_
    refine r_gRs (b := a0 + 1) (pc := 12) dX6_pass_12 fw_X6_9 rfl (ok6 ha0) (ok6_0 ha0).1 ?_
    refine r_iload_n (pc := 15) dX6_pass_15 rfl rfl ?_
    refine r_laloads (pc := 16) h dX6_pass_16 (ok6_0 ha0).2 (fun h => ?_)
    refine r_llt (pc := 17) (tgt := 42) h dX6_pass_17 rfl dX6_pass_18 (by decide) (fun h => ?_) (fun h => ?_)
    · exact sj_weak (l2 := [some (sj_r (some a0)), some (sj_i x1), some (sj_i x2), some (sj_j x3), none]) (⟨rfl, ⟨rfl, ⟨rfl, ⟨rfl, trivial⟩⟩⟩⟩) (st_X6_pass_42 a0 x1 x2 x3 V ha0 h)
    · refine r_lload_n (pc := 21) dX6_pass_21 rfl rfl ?_
      refine r_aload_n (pc := 22) dX6_pass_22 rfl rfl ?_
      refine r_gRs (b := a0 + 1) (pc := 23) dX6_pass_23 fw_X6_9 rfl (ok6 ha0) (ok6_0 ha0).1 ?_
      refine r_iload_n (pc := 26) dX6_pass_26 rfl rfl ?_
      refine r_laloads (pc := 27) h dX6_pass_27 (ok6_0 ha0).2 (fun h => ?_)
      refine r_lne (pc := 28) (tgt := 56) h dX6_pass_28 rfl dX6_pass_29 (by decide) (fun h => ?_) (fun h => ?_)
      · refine r_iload_n (pc := 32) dX6_pass_32 rfl rfl ?_
        refine r_aload_n (pc := 33) dX6_pass_33 rfl rfl ?_
        refine r_gRs (b := a0 + 2) (pc := 34) dX6_pass_34 fw_X6_15 rfl (ok6 ha0) (ok6_1 ha0).1 ?_
        refine r_iload_n (pc := 37) dX6_pass_37 rfl rfl ?_
        refine r_ialoads (pc := 38) h dX6_pass_38 (ok6_1 ha0).2 (fun h => ?_)
        refine r_icmp_ge (pc := 39) (tgt := 56) h dX6_pass_39 (by decide) (fun h => ?_) (fun h => ?_)
        · exact r_vrets (pc := 56) h rfl dX6_pass_56
        · exact sj_weak (l2 := [some (sj_r (some a0)), some (sj_i x1), some (sj_i x2), some (sj_j x3), none]) (⟨rfl, ⟨rfl, ⟨rfl, ⟨rfl, trivial⟩⟩⟩⟩) (st_X6_pass_42 a0 x1 x2 x3 V ha0 h)
      · exact r_vrets (pc := 56) h rfl dX6_pass_56
set_option maxHeartbeats 4000000 in
theorem cg_X6_pass {X : sj_X} {g : sj_G} {N : Nat} {a0 : Nat} {x1 : Int} {x2 : Int} {x3 : Int} {V : sj_VV} {q : Unit × sj_VV} (ha0 : OK6 g a0) (h : g_X6_pass N a0 x1 x2 x3 V = some q) : sj_C X m_X6_pass [sj_r (some a0), sj_i x1, sj_i x2, sj_j x3] (g, V) (none, (g, q.2)) :=
  sj_C_of (by decide +kernel) (Nat.le_of_ble_eq_true rfl) (lo := [some (sj_r (some a0)), some (sj_i x1), some (sj_i x2), some (sj_j x3), none]) rfl (sj_weak (l2 := [some (sj_r (some a0)), some (sj_i x1), some (sj_i x2), some (sj_j x3), none]) (⟨rfl, ⟨rfl, ⟨rfl, ⟨rfl, trivial⟩⟩⟩⟩) (st_X6_pass_0 a0 x1 x2 x3 V ha0 h))
set_option maxHeartbeats 4000000 in
theorem c_X6_pass {X : sj_X} {N : Nat} {a0 : Nat} {x1 : Int} {x2 : Int} {x3 : Int} {s : sj_Mem} {q : Unit × sj_Mem} (h : f_X6_pass N a0 x1 x2 x3 s = some q) : sj_C X m_X6_pass [sj_r (some a0), sj_i x1, sj_i x2, sj_j x3] s (none, q.2) := by
  obtain ⟨g, V⟩ := s
  unfold f_X6_pass at h
  obtain ⟨ho, h1⟩ := e_ok_some h
  obtain ⟨q2, h2, rfl⟩ := sj_map_some h1
  exact cg_X6_pass ho h2
theorem dX6_close_0 : decode cX6_close 0 = .ok (.aload_n 0, 1) := by decide +kernel
theorem dX6_close_1 : decode cX6_close 1 = .ok (.getfield 57, 3) := by decide +kernel
theorem dX6_close_4 : decode cX6_close 4 = .ok (.iconst (-1), 1) := by decide +kernel
theorem dX6_close_5 : decode cX6_close 5 = .ok (.if_icmp .eq 29, 3) := by decide +kernel
theorem dX6_close_8 : decode cX6_close 8 = .ok (.lload_n 3, 1) := by decide +kernel
theorem dX6_close_9 : decode cX6_close 9 = .ok (.aload_n 0, 1) := by decide +kernel
theorem dX6_close_10 : decode cX6_close 10 = .ok (.getfield 60, 3) := by decide +kernel
theorem dX6_close_13 : decode cX6_close 13 = .ok (.lcmp, 1) := by decide +kernel
theorem dX6_close_14 : decode cX6_close 14 = .ok (.ifCond .lt 20, 3) := by decide +kernel
theorem dX6_close_17 : decode cX6_close 17 = .ok (.lload_n 3, 1) := by decide +kernel
theorem dX6_close_18 : decode cX6_close 18 = .ok (.aload_n 0, 1) := by decide +kernel
theorem dX6_close_19 : decode cX6_close 19 = .ok (.getfield 60, 3) := by decide +kernel
theorem dX6_close_22 : decode cX6_close 22 = .ok (.lcmp, 1) := by decide +kernel
theorem dX6_close_23 : decode cX6_close 23 = .ok (.ifCond .ne 26, 3) := by decide +kernel
theorem dX6_close_26 : decode cX6_close 26 = .ok (.iload_n 2, 1) := by decide +kernel
theorem dX6_close_27 : decode cX6_close 27 = .ok (.aload_n 0, 1) := by decide +kernel
theorem dX6_close_28 : decode cX6_close 28 = .ok (.getfield 57, 3) := by decide +kernel
theorem dX6_close_31 : decode cX6_close 31 = .ok (.if_icmp .ge 18, 3) := by decide +kernel
theorem dX6_close_34 : decode cX6_close 34 = .ok (.aload_n 0, 1) := by decide +kernel
theorem dX6_close_35 : decode cX6_close 35 = .ok (.lload_n 3, 1) := by decide +kernel
theorem dX6_close_36 : decode cX6_close 36 = .ok (.putfield 60, 3) := by decide +kernel
theorem dX6_close_39 : decode cX6_close 39 = .ok (.aload_n 0, 1) := by decide +kernel
theorem dX6_close_40 : decode cX6_close 40 = .ok (.iload_n 2, 1) := by decide +kernel
theorem dX6_close_41 : decode cX6_close 41 = .ok (.putfield 57, 3) := by decide +kernel
theorem dX6_close_44 : decode cX6_close 44 = .ok (.aload_n 0, 1) := by decide +kernel
theorem dX6_close_45 : decode cX6_close 45 = .ok (.iload_n 1, 1) := by decide +kernel
theorem dX6_close_46 : decode cX6_close 46 = .ok (.putfield 84, 3) := by decide +kernel
theorem dX6_close_49 : decode cX6_close 49 = .ok (.return_, 1) := by decide +kernel
set_option maxHeartbeats 4000000 in
theorem st_X6_close_34 {X : sj_X} {g : sj_G} {s0 : sj_Mem} {N : Nat} {q : Unit × sj_VV} :
    ∀ (a0 : Nat) (x1 : Int) (x2 : Int) (x3 : Int) (V : sj_VV), OK6 g a0 → g_X6_close_34 N a0 x1 x2 x3 V = some q → sj_T X m_X6_close s0 (none, (g, q.2)) 34 [some (sj_r (some a0)), some (sj_i x1), some (sj_i x2), some (sj_j x3), none] [] (g, V) := by
  intro a0 x1 x2 x3 V ha0 h
  unfold g_X6_close_34 at h
  refine r_aload_n (pc := 34) dX6_close_34 rfl rfl ?_
  refine r_lload_n (pc := 35) dX6_close_35 rfl rfl ?_
  refine r_pJs (pc := 36) h dX6_close_36 fw_X6_60 rfl rfl (nf6_10) (ok6 ha0) (fun V1 h => ?_)
  refine r_aload_n (pc := 39) dX6_close_39 rfl rfl ?_
  refine r_iload_n (pc := 40) dX6_close_40 rfl rfl ?_
  refine r_pIs (pc := 41) h dX6_close_41 fw_X6_57 rfl rfl (nf6_11) (ok6 ha0) (fun V2 h => ?_)
  refine r_aload_n (pc := 44) dX6_close_44 rfl rfl ?_
  refine r_iload_n (pc := 45) dX6_close_45 rfl rfl ?_
  refine r_pIs (pc := 46) h dX6_close_46 fw_X6_84 rfl rfl (nf6_12) (ok6 ha0) (fun V3 h => ?_)
  exact r_vrets (pc := 49) h rfl dX6_close_49
set_option maxHeartbeats 4000000 in
theorem st_X6_close_0 {X : sj_X} {g : sj_G} {s0 : sj_Mem} {N : Nat} {q : Unit × sj_VV} :
    ∀ (a0 : Nat) (x1 : Int) (x2 : Int) (x3 : Int) (V : sj_VV), OK6 g a0 → g_X6_close N a0 x1 x2 x3 V = some q → sj_T X m_X6_close s0 (none, (g, q.2)) 0 [some (sj_r (some a0)), some (sj_i x1), some (sj_i x2), some (sj_j x3), none] [] (g, V) := by
  intro a0 x1 x2 x3 V ha0 h
  unfold g_X6_close at h
  refine r_aload_n (pc := 0) dX6_close_0 rfl rfl ?_
  refine r_gIs (pc := 1) dX6_close_1 fw_X6_57 rfl (ok6 ha0) ?_
  refine r_iconst (pc := 4) dX6_close_4 ?_
  refine r_icmp_eq (pc := 5) (tgt := 34) h dX6_close_5 (by decide) (fun h => ?_) (fun h => ?_)
  · exact sj_weak (l2 := [some (sj_r (some a0)), some (sj_i x1), some (sj_i x2), some (sj_j x3), none]) (⟨rfl, ⟨rfl, ⟨rfl, ⟨rfl, trivial⟩⟩⟩⟩) (st_X6_close_34 a0 x1 x2 x3 V ha0 h)
  · refine r_lload_n (pc := 8) dX6_close_8 rfl rfl ?_
    refine r_aload_n (pc := 9) dX6_close_9 rfl rfl ?_
    refine r_gJs (pc := 10) dX6_close_10 fw_X6_60 rfl (ok6 ha0) ?_
    refine r_llt (pc := 13) (tgt := 34) h dX6_close_13 rfl dX6_close_14 (by decide) (fun h => ?_) (fun h => ?_)
    · exact sj_weak (l2 := [some (sj_r (some a0)), some (sj_i x1), some (sj_i x2), some (sj_j x3), none]) (⟨rfl, ⟨rfl, ⟨rfl, ⟨rfl, trivial⟩⟩⟩⟩) (st_X6_close_34 a0 x1 x2 x3 V ha0 h)
    · refine r_lload_n (pc := 17) dX6_close_17 rfl rfl ?_
      refine r_aload_n (pc := 18) dX6_close_18 rfl rfl ?_
      refine r_gJs (pc := 19) dX6_close_19 fw_X6_60 rfl (ok6 ha0) ?_
      refine r_lne (pc := 22) (tgt := 49) h dX6_close_22 rfl dX6_close_23 (by decide) (fun h => ?_) (fun h => ?_)
      · refine r_iload_n (pc := 26) dX6_close_26 rfl rfl ?_
        refine r_aload_n (pc := 27) dX6_close_27 rfl rfl ?_
        refine r_gIs (pc := 28) dX6_close_28 fw_X6_57 rfl (ok6 ha0) ?_
        refine r_icmp_ge (pc := 31) (tgt := 49) h dX6_close_31 (by decide) (fun h => ?_) (fun h => ?_)
        · exact r_vrets (pc := 49) h rfl dX6_close_49
        · exact sj_weak (l2 := [some (sj_r (some a0)), some (sj_i x1), some (sj_i x2), some (sj_j x3), none]) (⟨rfl, ⟨rfl, ⟨rfl, ⟨rfl, trivial⟩⟩⟩⟩) (st_X6_close_34 a0 x1 x2 x3 V ha0 h)
      · exact r_vrets (pc := 49) h rfl dX6_close_49
set_option maxHeartbeats 4000000 in
theorem cg_X6_close {X : sj_X} {g : sj_G} {N : Nat} {a0 : Nat} {x1 : Int} {x2 : Int} {x3 : Int} {V : sj_VV} {q : Unit × sj_VV} (ha0 : OK6 g a0) (h : g_X6_close N a0 x1 x2 x3 V = some q) : sj_C X m_X6_close [sj_r (some a0), sj_i x1, sj_i x2, sj_j x3] (g, V) (none, (g, q.2)) :=
  sj_C_of (by decide +kernel) (Nat.le_of_ble_eq_true rfl) (lo := [some (sj_r (some a0)), some (sj_i x1), some (sj_i x2), some (sj_j x3), none]) rfl (sj_weak (l2 := [some (sj_r (some a0)), some (sj_i x1), some (sj_i x2), some (sj_j x3), none]) (⟨rfl, ⟨rfl, ⟨rfl, ⟨rfl, trivial⟩⟩⟩⟩) (st_X6_close_0 a0 x1 x2 x3 V ha0 h))
set_option maxHeartbeats 4000000 in
theorem c_X6_close {X : sj_X} {N : Nat} {a0 : Nat} {x1 : Int} {x2 : Int} {x3 : Int} {s : sj_Mem} {q : Unit × sj_Mem} (h : f_X6_close N a0 x1 x2 x3 s = some q) : sj_C X m_X6_close [sj_r (some a0), sj_i x1, sj_i x2, sj_j x3] s (none, q.2) := by
  obtain ⟨g, V⟩ := s
  unfold f_X6_close at h
  obtain ⟨ho, h1⟩ := e_ok_some h
  obtain ⟨q2, h2, rfl⟩ := sj_map_some h1
  exact cg_X6_close ho h2
theorem dX6_stepOn_0 : decode cX6_stepOn 0 = .ok (.aload_n 0, 1) := by decide +kernel
theorem dX6_stepOn_1 : decode cX6_stepOn 1 = .ok (.getfield 15, 3) := by decide +kernel
theorem dX6_stepOn_4 : decode cX6_stepOn 4 = .ok (.iload_n 1, 1) := by decide +kernel
theorem dX6_stepOn_5 : decode cX6_stepOn 5 = .ok (.bipush 101, 2) := by decide +kernel
theorem dX6_stepOn_7 : decode cX6_stepOn 7 = .ok (.imul, 1) := by decide +kernel
theorem dX6_stepOn_8 : decode cX6_stepOn 8 = .ok (.iload_n 2, 1) := by decide +kernel
theorem dX6_stepOn_9 : decode cX6_stepOn 9 = .ok (.iadd, 1) := by decide +kernel
theorem dX6_stepOn_10 : decode cX6_stepOn 10 = .ok (.iaload, 1) := by decide +kernel
theorem dX6_stepOn_11 : decode cX6_stepOn 11 = .ok (.istore_n 3, 1) := by decide +kernel
theorem dX6_stepOn_12 : decode cX6_stepOn 12 = .ok (.aload_n 0, 1) := by decide +kernel
theorem dX6_stepOn_13 : decode cX6_stepOn 13 = .ok (.getfield 9, 3) := by decide +kernel
theorem dX6_stepOn_16 : decode cX6_stepOn 16 = .ok (.iload_n 1, 1) := by decide +kernel
theorem dX6_stepOn_17 : decode cX6_stepOn 17 = .ok (.bipush 101, 2) := by decide +kernel
theorem dX6_stepOn_19 : decode cX6_stepOn 19 = .ok (.imul, 1) := by decide +kernel
theorem dX6_stepOn_20 : decode cX6_stepOn 20 = .ok (.iload_n 2, 1) := by decide +kernel
theorem dX6_stepOn_21 : decode cX6_stepOn 21 = .ok (.iadd, 1) := by decide +kernel
theorem dX6_stepOn_22 : decode cX6_stepOn 22 = .ok (.laload, 1) := by decide +kernel
theorem dX6_stepOn_23 : decode cX6_stepOn 23 = .ok (.lstore 4, 2) := by decide +kernel
theorem dX6_stepOn_25 : decode cX6_stepOn 25 = .ok (.aload_n 0, 1) := by decide +kernel
theorem dX6_stepOn_26 : decode cX6_stepOn 26 = .ok (.getfield 32, 3) := by decide +kernel
theorem dX6_stepOn_29 : decode cX6_stepOn 29 = .ok (.getfield 75, 3) := by decide +kernel
theorem dX6_stepOn_32 : decode cX6_stepOn 32 = .ok (.iload_n 1, 1) := by decide +kernel
theorem dX6_stepOn_33 : decode cX6_stepOn 33 = .ok (.iconst 1, 1) := by decide +kernel
theorem dX6_stepOn_34 : decode cX6_stepOn 34 = .ok (.iadd, 1) := by decide +kernel
theorem dX6_stepOn_35 : decode cX6_stepOn 35 = .ok (.iaload, 1) := by decide +kernel
theorem dX6_stepOn_36 : decode cX6_stepOn 36 = .ok (.istore 6, 2) := by decide +kernel
theorem dX6_stepOn_38 : decode cX6_stepOn 38 = .ok (.iload 6, 2) := by decide +kernel
theorem dX6_stepOn_40 : decode cX6_stepOn 40 = .ok (.iload_n 2, 1) := by decide +kernel
theorem dX6_stepOn_41 : decode cX6_stepOn 41 = .ok (.aload_n 0, 1) := by decide +kernel
theorem dX6_stepOn_42 : decode cX6_stepOn 42 = .ok (.getfield 36, 3) := by decide +kernel
theorem dX6_stepOn_45 : decode cX6_stepOn 45 = .ok (.iadd, 1) := by decide +kernel
theorem dX6_stepOn_46 : decode cX6_stepOn 46 = .ok (.invokestatic 104, 3) := by decide +kernel
theorem dX6_stepOn_49 : decode cX6_stepOn 49 = .ok (.istore 7, 2) := by decide +kernel
theorem dX6_stepOn_51 : decode cX6_stepOn 51 = .ok (.aload_n 0, 1) := by decide +kernel
theorem dX6_stepOn_52 : decode cX6_stepOn 52 = .ok (.getfield 32, 3) := by decide +kernel
theorem dX6_stepOn_55 : decode cX6_stepOn 55 = .ok (.getfield 72, 3) := by decide +kernel
theorem dX6_stepOn_58 : decode cX6_stepOn 58 = .ok (.iload_n 1, 1) := by decide +kernel
theorem dX6_stepOn_59 : decode cX6_stepOn 59 = .ok (.iconst 1, 1) := by decide +kernel
theorem dX6_stepOn_60 : decode cX6_stepOn 60 = .ok (.iadd, 1) := by decide +kernel
theorem dX6_stepOn_61 : decode cX6_stepOn 61 = .ok (.iaload, 1) := by decide +kernel
theorem dX6_stepOn_62 : decode cX6_stepOn 62 = .ok (.iload_n 2, 1) := by decide +kernel
theorem dX6_stepOn_63 : decode cX6_stepOn 63 = .ok (.aload_n 0, 1) := by decide +kernel
theorem dX6_stepOn_64 : decode cX6_stepOn 64 = .ok (.getfield 36, 3) := by decide +kernel
theorem dX6_stepOn_67 : decode cX6_stepOn 67 = .ok (.isub, 1) := by decide +kernel
theorem dX6_stepOn_68 : decode cX6_stepOn 68 = .ok (.invokestatic 109, 3) := by decide +kernel
theorem dX6_stepOn_71 : decode cX6_stepOn 71 = .ok (.istore 8, 2) := by decide +kernel
theorem dX6_stepOn_73 : decode cX6_stepOn 73 = .ok (.iload 8, 2) := by decide +kernel
theorem dX6_stepOn_75 : decode cX6_stepOn 75 = .ok (.iload 7, 2) := by decide +kernel
theorem dX6_stepOn_77 : decode cX6_stepOn 77 = .ok (.if_icmp .gt 68, 3) := by decide +kernel
theorem dX6_stepOn_80 : decode cX6_stepOn 80 = .ok (.lload 4, 2) := by decide +kernel
theorem dX6_stepOn_82 : decode cX6_stepOn 82 = .ok (.aload_n 0, 1) := by decide +kernel
theorem dX6_stepOn_83 : decode cX6_stepOn 83 = .ok (.iload_n 1, 1) := by decide +kernel
theorem dX6_stepOn_84 : decode cX6_stepOn 84 = .ok (.iload_n 2, 1) := by decide +kernel
theorem dX6_stepOn_85 : decode cX6_stepOn 85 = .ok (.iload 8, 2) := by decide +kernel
theorem dX6_stepOn_87 : decode cX6_stepOn 87 = .ok (.invokevirtual 112, 3) := by decide +kernel
theorem dX6_stepOn_90 : decode cX6_stepOn 90 = .ok (.ladd, 1) := by decide +kernel
theorem dX6_stepOn_91 : decode cX6_stepOn 91 = .ok (.lstore 9, 2) := by decide +kernel
theorem dX6_stepOn_93 : decode cX6_stepOn 93 = .ok (.aload_n 0, 1) := by decide +kernel
theorem dX6_stepOn_94 : decode cX6_stepOn 94 = .ok (.getfield 116, 3) := by decide +kernel
theorem dX6_stepOn_97 : decode cX6_stepOn 97 = .ok (.ifCond .eq 6, 3) := by decide +kernel
theorem dX6_stepOn_100 : decode cX6_stepOn 100 = .ok (.goto 39, 3) := by decide +kernel
theorem dX6_stepOn_103 : decode cX6_stepOn 103 = .ok (.iload 8, 2) := by decide +kernel
theorem dX6_stepOn_105 : decode cX6_stepOn 105 = .ok (.iload 6, 2) := by decide +kernel
theorem dX6_stepOn_107 : decode cX6_stepOn 107 = .ok (.if_icmp .ne 16, 3) := by decide +kernel
theorem dX6_stepOn_110 : decode cX6_stepOn 110 = .ok (.aload_n 0, 1) := by decide +kernel
theorem dX6_stepOn_111 : decode cX6_stepOn 111 = .ok (.iload_n 1, 1) := by decide +kernel
theorem dX6_stepOn_112 : decode cX6_stepOn 112 = .ok (.iconst 1, 1) := by decide +kernel
theorem dX6_stepOn_113 : decode cX6_stepOn 113 = .ok (.iadd, 1) := by decide +kernel
theorem dX6_stepOn_114 : decode cX6_stepOn 114 = .ok (.iload_n 3, 1) := by decide +kernel
theorem dX6_stepOn_115 : decode cX6_stepOn 115 = .ok (.lload 9, 2) := by decide +kernel
theorem dX6_stepOn_117 : decode cX6_stepOn 117 = .ok (.invokevirtual 119, 3) := by decide +kernel
theorem dX6_stepOn_120 : decode cX6_stepOn 120 = .ok (.goto 19, 3) := by decide +kernel
theorem dX6_stepOn_123 : decode cX6_stepOn 123 = .ok (.aload_n 0, 1) := by decide +kernel
theorem dX6_stepOn_124 : decode cX6_stepOn 124 = .ok (.iload_n 1, 1) := by decide +kernel
theorem dX6_stepOn_125 : decode cX6_stepOn 125 = .ok (.iconst 1, 1) := by decide +kernel
theorem dX6_stepOn_126 : decode cX6_stepOn 126 = .ok (.iadd, 1) := by decide +kernel
theorem dX6_stepOn_127 : decode cX6_stepOn 127 = .ok (.bipush 101, 2) := by decide +kernel
theorem dX6_stepOn_129 : decode cX6_stepOn 129 = .ok (.imul, 1) := by decide +kernel
theorem dX6_stepOn_130 : decode cX6_stepOn 130 = .ok (.iload 8, 2) := by decide +kernel
theorem dX6_stepOn_132 : decode cX6_stepOn 132 = .ok (.iadd, 1) := by decide +kernel
theorem dX6_stepOn_133 : decode cX6_stepOn 133 = .ok (.iload_n 3, 1) := by decide +kernel
theorem dX6_stepOn_134 : decode cX6_stepOn 134 = .ok (.lload 9, 2) := by decide +kernel
theorem dX6_stepOn_136 : decode cX6_stepOn 136 = .ok (.invokevirtual 123, 3) := by decide +kernel
theorem dX6_stepOn_139 : decode cX6_stepOn 139 = .ok (.iinc 8 1, 3) := by decide +kernel
theorem dX6_stepOn_142 : decode cX6_stepOn 142 = .ok (.goto (-69), 3) := by decide +kernel
theorem dX6_stepOn_145 : decode cX6_stepOn 145 = .ok (.return_, 1) := by decide +kernel
set_option maxHeartbeats 4000000 in
theorem st_X6_stepOn_139 {X : sj_X} {g : sj_G} {s0 : sj_Mem} {N : Nat} {q : Unit × sj_VV} {k73 : Nat → Int → Int → Int → Int → Int → Int → Int → sj_VV → Option (Unit × sj_VV)} (hk73 : ∀ (a0 : Nat) (x1 : Int) (x2 : Int) (x3 : Int) (x4 : Int) (x6 : Int) (x7 : Int) (x8 : Int) (V : sj_VV), OK6 g a0 → k73 a0 x1 x2 x3 x4 x6 x7 x8 V = some q → sj_T X m_X6_stepOn s0 (none, (g, q.2)) 73 [some (sj_r (some a0)), some (sj_i x1), some (sj_i x2), some (sj_i x3), some (sj_j x4), none, some (sj_i x6), some (sj_i x7), some (sj_i x8), none, none] [] (g, V)) :
    ∀ (a0 : Nat) (x1 : Int) (x2 : Int) (x3 : Int) (x4 : Int) (x6 : Int) (x7 : Int) (x8 : Int) (V : sj_VV), OK6 g a0 → g_X6_stepOn_139 N k73 a0 x1 x2 x3 x4 x6 x7 x8 V = some q → sj_T X m_X6_stepOn s0 (none, (g, q.2)) 139 [some (sj_r (some a0)), some (sj_i x1), some (sj_i x2), some (sj_i x3), some (sj_j x4), none, some (sj_i x6), some (sj_i x7), some (sj_i x8), none, none] [] (g, V) := by
  intro a0 x1 x2 x3 x4 x6 x7 x8 V ha0 h
  unfold g_X6_stepOn_139 at h
  refine r_iinc (ln := fun w => [some (sj_r (some a0)), some (sj_i x1), some (sj_i x2), some (sj_i x3), some (sj_j x4), none, some (sj_i x6), some (sj_i x7), some (sj_i w), none, none]) (pc := 139) h dX6_stepOn_139 rfl (Nat.le_of_ble_eq_true rfl) (fun _ => rfl) (fun v1 h => ?_)
  refine r_goto (pc := 142) (tgt := 73) dX6_stepOn_142 (by decide) ?_
  exact sj_weak (l2 := [some (sj_r (some a0)), some (sj_i x1), some (sj_i x2), some (sj_i x3), some (sj_j x4), none, some (sj_i x6), some (sj_i x7), some (sj_i v1), none, none]) (⟨rfl, ⟨rfl, ⟨rfl, ⟨rfl, ⟨rfl, ⟨rfl, ⟨rfl, ⟨rfl, trivial⟩⟩⟩⟩⟩⟩⟩⟩) (hk73 a0 x1 x2 x3 x4 x6 x7 v1 V ha0 h)
set_option maxHeartbeats 4000000 in
theorem st_X6_stepOn_73_b {X : sj_X} {g : sj_G} {s0 : sj_Mem} {N : Nat} {q : Unit × sj_VV} {k73 : Nat → Int → Int → Int → Int → Int → Int → Int → sj_VV → Option (Unit × sj_VV)} (hk73 : ∀ (a0 : Nat) (x1 : Int) (x2 : Int) (x3 : Int) (x4 : Int) (x6 : Int) (x7 : Int) (x8 : Int) (V : sj_VV), OK6 g a0 → k73 a0 x1 x2 x3 x4 x6 x7 x8 V = some q → sj_T X m_X6_stepOn s0 (none, (g, q.2)) 73 [some (sj_r (some a0)), some (sj_i x1), some (sj_i x2), some (sj_i x3), some (sj_j x4), none, some (sj_i x6), some (sj_i x7), some (sj_i x8), none, none] [] (g, V)) :
    ∀ (a0 : Nat) (x1 : Int) (x2 : Int) (x3 : Int) (x4 : Int) (x6 : Int) (x7 : Int) (x8 : Int) (V : sj_VV), OK6 g a0 → g_X6_stepOn_73_b N k73 a0 x1 x2 x3 x4 x6 x7 x8 V = some q → sj_T X m_X6_stepOn s0 (none, (g, q.2)) 73 [some (sj_r (some a0)), some (sj_i x1), some (sj_i x2), some (sj_i x3), some (sj_j x4), none, some (sj_i x6), some (sj_i x7), some (sj_i x8), none, none] [] (g, V) := by
  intro a0 x1 x2 x3 x4 x6 x7 x8 V ha0 h
  unfold g_X6_stepOn_73_b at h
  refine r_iload (pc := 73) dX6_stepOn_73 rfl ?_
  refine r_iload (pc := 75) dX6_stepOn_75 rfl ?_
  refine r_icmp_gt (pc := 77) (tgt := 145) h dX6_stepOn_77 (by decide) (fun h => ?_) (fun h => ?_)
  · exact r_vrets (pc := 145) h rfl dX6_stepOn_145
  · refine r_lload (pc := 80) dX6_stepOn_80 rfl ?_
    refine r_aload_n (pc := 82) dX6_stepOn_82 rfl rfl ?_
    refine r_iload_n (pc := 83) dX6_stepOn_83 rfl rfl ?_
    refine r_iload_n (pc := 84) dX6_stepOn_84 rfl rfl ?_
    refine r_iload (pc := 85) dX6_stepOn_85 rfl ?_
    refine r_callVs (pc := 87) (fun v => some (sj_j v)) (As := [sj_i x1, sj_i x2, sj_i x8]) (rest := [(sj_j x4)]) (b := a0) (ok6 ha0) h dX6_stepOn_87 mw_X6_112 vw_X6_leftOver (fun _ _ hc => cg_X6_leftOver ha0 hc) rfl ⟨(Nat.le_of_ble_eq_true rfl), (Nat.le_of_ble_eq_true rfl)⟩ (Nat.le_of_ble_eq_true rfl) rfl (fun v2 V1 h => ?_)
    refine r_ladd (pc := 90) dX6_stepOn_90 ?_
    refine r_lstoreL (ln := fun w => [some (sj_r (some a0)), some (sj_i x1), some (sj_i x2), some (sj_i x3), some (sj_j x4), none, some (sj_i x6), some (sj_i x7), some (sj_i x8), some (sj_j w), none]) (pc := 91) h dX6_stepOn_91 (Nat.le_of_ble_eq_true rfl) (fun _ => rfl) (fun v3 h => ?_)
    refine r_aload_n (pc := 93) dX6_stepOn_93 rfl rfl ?_
    refine r_gIs (pc := 94) dX6_stepOn_94 fw_X6_116 rfl (ok6 ha0) ?_
    refine r_if_eq (pc := 97) (tgt := 103) h dX6_stepOn_97 (by decide) (fun h => ?_) (fun h => ?_)
    · refine r_iload (pc := 103) dX6_stepOn_103 rfl ?_
      refine r_iload (pc := 105) dX6_stepOn_105 rfl ?_
      refine r_icmp_ne (pc := 107) (tgt := 123) h dX6_stepOn_107 (by decide) (fun h => ?_) (fun h => ?_)
      · refine r_aload_n (pc := 110) dX6_stepOn_110 rfl rfl ?_
        refine r_iload_n (pc := 111) dX6_stepOn_111 rfl rfl ?_
        refine r_iconst (pc := 112) dX6_stepOn_112 ?_
        refine r_iadd (pc := 113) dX6_stepOn_113 ?_
        refine r_iload_n (pc := 114) dX6_stepOn_114 rfl rfl ?_
        refine r_lload (pc := 115) dX6_stepOn_115 rfl ?_
        refine r_callVs (pc := 117) (fun _ => none) (As := [sj_i (x1 + 1), sj_i x3, sj_j v3]) (rest := []) (b := a0) (ok6 ha0) h dX6_stepOn_117 mw_X6_119 vw_X6_close (fun _ _ hc => cg_X6_close ha0 hc) rfl ⟨(Nat.le_of_ble_eq_true rfl), (Nat.le_of_ble_eq_true rfl)⟩ (Nat.le_of_ble_eq_true rfl) rfl (fun _u V5 h => ?_)
        refine r_goto (pc := 120) (tgt := 139) dX6_stepOn_120 (by decide) ?_
        exact sj_weak (l2 := [some (sj_r (some a0)), some (sj_i x1), some (sj_i x2), some (sj_i x3), some (sj_j x4), none, some (sj_i x6), some (sj_i x7), some (sj_i x8), none, none]) (⟨rfl, ⟨rfl, ⟨rfl, ⟨rfl, ⟨rfl, ⟨rfl, ⟨rfl, ⟨rfl, trivial⟩⟩⟩⟩⟩⟩⟩⟩) (st_X6_stepOn_139 hk73 a0 x1 x2 x3 x4 x6 x7 x8 V5 ha0 h)
      · refine r_aload_n (pc := 123) dX6_stepOn_123 rfl rfl ?_
        refine r_iload_n (pc := 124) dX6_stepOn_124 rfl rfl ?_
        refine r_iconst (pc := 125) dX6_stepOn_125 ?_
        refine r_iadd (pc := 126) dX6_stepOn_126 ?_
        refine r_bipush (pc := 127) dX6_stepOn_127 ⟨by decide, by decide⟩ ?_
        refine r_imul (pc := 129) dX6_stepOn_129 ?_
        refine r_iload (pc := 130) dX6_stepOn_130 rfl ?_
        refine r_iadd (pc := 132) dX6_stepOn_132 ?_
        refine r_iload_n (pc := 133) dX6_stepOn_133 rfl rfl ?_
        refine r_lload (pc := 134) dX6_stepOn_134 rfl ?_
        refine r_callVs (pc := 136) (fun _ => none) (As := [sj_i (((x1 + 1) * 101) + x8), sj_i x3, sj_j v3]) (rest := []) (b := a0) (ok6 ha0) h dX6_stepOn_136 mw_X6_123 vw_X6_pass (fun _ _ hc => cg_X6_pass ha0 hc) rfl ⟨(Nat.le_of_ble_eq_true rfl), (Nat.le_of_ble_eq_true rfl)⟩ (Nat.le_of_ble_eq_true rfl) rfl (fun _u V4 h => ?_)
        exact sj_weak (l2 := [some (sj_r (some a0)), some (sj_i x1), some (sj_i x2), some (sj_i x3), some (sj_j x4), none, some (sj_i x6), some (sj_i x7), some (sj_i x8), none, none]) (⟨rfl, ⟨rfl, ⟨rfl, ⟨rfl, ⟨rfl, ⟨rfl, ⟨rfl, ⟨rfl, trivial⟩⟩⟩⟩⟩⟩⟩⟩) (st_X6_stepOn_139 hk73 a0 x1 x2 x3 x4 x6 x7 x8 V4 ha0 h)
    · refine r_goto (pc := 100) (tgt := 139) dX6_stepOn_100 (by decide) ?_
      exact sj_weak (l2 := [some (sj_r (some a0)), some (sj_i x1), some (sj_i x2), some (sj_i x3), some (sj_j x4), none, some (sj_i x6), some (sj_i x7), some (sj_i x8), none, none]) (⟨rfl, ⟨rfl, ⟨rfl, ⟨rfl, ⟨rfl, ⟨rfl, ⟨rfl, ⟨rfl, trivial⟩⟩⟩⟩⟩⟩⟩⟩) (st_X6_stepOn_139 hk73 a0 x1 x2 x3 x4 x6 x7 x8 V1 ha0 h)
set_option maxHeartbeats 4000000 in
theorem st_X6_stepOn_73 {X : sj_X} {g : sj_G} {s0 : sj_Mem} {N : Nat} {q : Unit × sj_VV} :
    ∀ (n : Nat) (a0 : Nat) (x1 : Int) (x2 : Int) (x3 : Int) (x4 : Int) (x6 : Int) (x7 : Int) (x8 : Int) (V : sj_VV), OK6 g a0 → g_X6_stepOn_73 N n a0 x1 x2 x3 x4 x6 x7 x8 V = some q → sj_T X m_X6_stepOn s0 (none, (g, q.2)) 73 [some (sj_r (some a0)), some (sj_i x1), some (sj_i x2), some (sj_i x3), some (sj_j x4), none, some (sj_i x6), some (sj_i x7), some (sj_i x8), none, none] [] (g, V) := by
  intro n
  induction n with
  | zero => intro a0 x1 x2 x3 x4 x6 x7 x8 V ha0 h; exact nomatch h
  | succ n ih => intro a0 x1 x2 x3 x4 x6 x7 x8 V ha0 h; exact st_X6_stepOn_73_b (N := N) ih a0 x1 x2 x3 x4 x6 x7 x8 V ha0 h
set_option maxHeartbeats 4000000 in
theorem st_X6_stepOn_0 {X : sj_X} {g : sj_G} {s0 : sj_Mem} {N : Nat} {q : Unit × sj_VV} :
    ∀ (a0 : Nat) (x1 : Int) (x2 : Int) (V : sj_VV), OK6 g a0 → g_X6_stepOn N a0 x1 x2 V = some q → sj_T X m_X6_stepOn s0 (none, (g, q.2)) 0 [some (sj_r (some a0)), some (sj_i x1), some (sj_i x2), none, none, none, none, none, none, none, none] [] (g, V) := by
  intro a0 x1 x2 V ha0 h
  unfold g_X6_stepOn at h
  refine r_aload_n (pc := 0) dX6_stepOn_0 rfl rfl ?_
  refine r_gRs (b := a0 + 2) (pc := 1) dX6_stepOn_1 fw_X6_15 rfl (ok6 ha0) (ok6_1 ha0).1 ?_
  refine r_iload_n (pc := 4) dX6_stepOn_4 rfl rfl ?_
  refine r_bipush (pc := 5) dX6_stepOn_5 ⟨by decide, by decide⟩ ?_
  refine r_imul (pc := 7) dX6_stepOn_7 ?_
  refine r_iload_n (pc := 8) dX6_stepOn_8 rfl rfl ?_
  refine r_iadd (pc := 9) dX6_stepOn_9 ?_
  refine r_ialoads (pc := 10) h dX6_stepOn_10 (ok6_1 ha0).2 (fun h => ?_)
  refine r_istore_nL (ln := fun w => [some (sj_r (some a0)), some (sj_i x1), some (sj_i x2), some (sj_i w), none, none, none, none, none, none, none]) (pc := 11) h dX6_stepOn_11 rfl (Nat.le_of_ble_eq_true rfl) (fun _ => rfl) (fun v1 h => ?_)
  refine r_aload_n (pc := 12) dX6_stepOn_12 rfl rfl ?_
  refine r_gRs (b := a0 + 1) (pc := 13) dX6_stepOn_13 fw_X6_9 rfl (ok6 ha0) (ok6_0 ha0).1 ?_
  refine r_iload_n (pc := 16) dX6_stepOn_16 rfl rfl ?_
  refine r_bipush (pc := 17) dX6_stepOn_17 ⟨by decide, by decide⟩ ?_
  refine r_imul (pc := 19) dX6_stepOn_19 ?_
  refine r_iload_n (pc := 20) dX6_stepOn_20 rfl rfl ?_
  refine r_iadd (pc := 21) dX6_stepOn_21 ?_
  refine r_laloads (pc := 22) h dX6_stepOn_22 (ok6_0 ha0).2 (fun h => ?_)
  refine r_lstoreL (ln := fun w => [some (sj_r (some a0)), some (sj_i x1), some (sj_i x2), some (sj_i v1), some (sj_j w), none, none, none, none, none, none]) (pc := 23) h dX6_stepOn_23 (Nat.le_of_ble_eq_true rfl) (fun _ => rfl) (fun v2 h => ?_)
  refine r_aload_n (pc := 25) dX6_stepOn_25 rfl rfl ?_
  refine r_gRs (b := 1) (pc := 26) dX6_stepOn_26 fw_X6_32 rfl (ok6 ha0) (ok6_5 ha0).1 ?_
  refine r_gRs (b := 1 + 1) (pc := 29) dX6_stepOn_29 fw_X6_75 rfl (ok0 (ok6_5 ha0).2) (ok0_3 (ok6_5 ha0).2).1 ?_
  refine r_iload_n (pc := 32) dX6_stepOn_32 rfl rfl ?_
  refine r_iconst (pc := 33) dX6_stepOn_33 ?_
  refine r_iadd (pc := 34) dX6_stepOn_34 ?_
  refine r_ialoads (pc := 35) h dX6_stepOn_35 (ok0_3 (ok6_5 ha0).2).2 (fun h => ?_)
  refine r_istoreL (ln := fun w => [some (sj_r (some a0)), some (sj_i x1), some (sj_i x2), some (sj_i v1), some (sj_j v2), none, some (sj_i w), none, none, none, none]) (pc := 36) h dX6_stepOn_36 (Nat.le_of_ble_eq_true rfl) (fun _ => rfl) (fun v3 h => ?_)
  refine r_iload (pc := 38) dX6_stepOn_38 rfl ?_
  refine r_iload_n (pc := 40) dX6_stepOn_40 rfl rfl ?_
  refine r_aload_n (pc := 41) dX6_stepOn_41 rfl rfl ?_
  refine r_gIs (pc := 42) dX6_stepOn_42 fw_X6_36 rfl (ok6 ha0) ?_
  refine r_iadd (pc := 45) dX6_stepOn_45 ?_
  refine r_mmin (pc := 46) h dX6_stepOn_46 mx_X6_104 (Nat.le_of_ble_eq_true rfl) (Nat.le_of_ble_eq_true rfl) (fun v4 h => ?_)
  refine r_istore (ln := [some (sj_r (some a0)), some (sj_i x1), some (sj_i x2), some (sj_i v1), some (sj_j v2), none, some (sj_i v3), some (sj_i v4), none, none, none]) (pc := 49) dX6_stepOn_49 (Nat.le_of_ble_eq_true rfl) rfl ?_
  refine r_aload_n (pc := 51) dX6_stepOn_51 rfl rfl ?_
  refine r_gRs (b := 1) (pc := 52) dX6_stepOn_52 fw_X6_32 rfl (ok6 ha0) (ok6_5 ha0).1 ?_
  refine r_gRs (b := 1 + 2) (pc := 55) dX6_stepOn_55 fw_X6_72 rfl (ok0 (ok6_5 ha0).2) (ok0_4 (ok6_5 ha0).2).1 ?_
  refine r_iload_n (pc := 58) dX6_stepOn_58 rfl rfl ?_
  refine r_iconst (pc := 59) dX6_stepOn_59 ?_
  refine r_iadd (pc := 60) dX6_stepOn_60 ?_
  refine r_ialoads (pc := 61) h dX6_stepOn_61 (ok0_4 (ok6_5 ha0).2).2 (fun h => ?_)
  refine r_iload_n (pc := 62) dX6_stepOn_62 rfl rfl ?_
  refine r_aload_n (pc := 63) dX6_stepOn_63 rfl rfl ?_
  refine r_gIs (pc := 64) dX6_stepOn_64 fw_X6_36 rfl (ok6 ha0) ?_
  refine r_isub (pc := 67) dX6_stepOn_67 ?_
  refine r_mmax (pc := 68) h dX6_stepOn_68 mx_X6_109 (Nat.le_of_ble_eq_true rfl) (Nat.le_of_ble_eq_true rfl) (fun v5 h => ?_)
  refine r_istore (ln := [some (sj_r (some a0)), some (sj_i x1), some (sj_i x2), some (sj_i v1), some (sj_j v2), none, some (sj_i v3), some (sj_i v4), some (sj_i v5), none, none]) (pc := 71) dX6_stepOn_71 (Nat.le_of_ble_eq_true rfl) rfl ?_
  exact sj_weak (l2 := [some (sj_r (some a0)), some (sj_i x1), some (sj_i x2), some (sj_i v1), some (sj_j v2), none, some (sj_i v3), some (sj_i v4), some (sj_i v5), none, none]) (⟨rfl, ⟨rfl, ⟨rfl, ⟨rfl, ⟨rfl, ⟨rfl, ⟨rfl, ⟨rfl, trivial⟩⟩⟩⟩⟩⟩⟩⟩) (st_X6_stepOn_73 N a0 x1 x2 v1 v2 v3 v4 v5 V ha0 h)
set_option maxHeartbeats 4000000 in
theorem cg_X6_stepOn {X : sj_X} {g : sj_G} {N : Nat} {a0 : Nat} {x1 : Int} {x2 : Int} {V : sj_VV} {q : Unit × sj_VV} (ha0 : OK6 g a0) (h : g_X6_stepOn N a0 x1 x2 V = some q) : sj_C X m_X6_stepOn [sj_r (some a0), sj_i x1, sj_i x2] (g, V) (none, (g, q.2)) :=
  sj_C_of (by decide +kernel) (Nat.le_of_ble_eq_true rfl) (lo := [some (sj_r (some a0)), some (sj_i x1), some (sj_i x2), none, none, none, none, none, none, none, none]) rfl (sj_weak (l2 := [some (sj_r (some a0)), some (sj_i x1), some (sj_i x2), none, none, none, none, none, none, none, none]) (⟨rfl, ⟨rfl, ⟨rfl, trivial⟩⟩⟩) (st_X6_stepOn_0 a0 x1 x2 V ha0 h))
set_option maxHeartbeats 4000000 in
theorem c_X6_stepOn {X : sj_X} {N : Nat} {a0 : Nat} {x1 : Int} {x2 : Int} {s : sj_Mem} {q : Unit × sj_Mem} (h : f_X6_stepOn N a0 x1 x2 s = some q) : sj_C X m_X6_stepOn [sj_r (some a0), sj_i x1, sj_i x2] s (none, q.2) := by
  obtain ⟨g, V⟩ := s
  unfold f_X6_stepOn at h
  obtain ⟨ho, h1⟩ := e_ok_some h
  obtain ⟨q2, h2, rfl⟩ := sj_map_some h1
  exact cg_X6_stepOn ho h2
theorem dX6_sweep_0 : decode cX6_sweep 0 = .ok (.aload_n 0, 1) := by decide +kernel
theorem dX6_sweep_1 : decode cX6_sweep 1 = .ok (.iload_n 1, 1) := by decide +kernel
theorem dX6_sweep_2 : decode cX6_sweep 2 = .ok (.putfield 81, 3) := by decide +kernel
theorem dX6_sweep_5 : decode cX6_sweep 5 = .ok (.aload_n 0, 1) := by decide +kernel
theorem dX6_sweep_6 : decode cX6_sweep 6 = .ok (.lconst 0, 1) := by decide +kernel
theorem dX6_sweep_7 : decode cX6_sweep 7 = .ok (.putfield 60, 3) := by decide +kernel
theorem dX6_sweep_10 : decode cX6_sweep 10 = .ok (.aload_n 0, 1) := by decide +kernel
theorem dX6_sweep_11 : decode cX6_sweep 11 = .ok (.iconst (-1), 1) := by decide +kernel
theorem dX6_sweep_12 : decode cX6_sweep 12 = .ok (.putfield 57, 3) := by decide +kernel
theorem dX6_sweep_15 : decode cX6_sweep 15 = .ok (.aload_n 0, 1) := by decide +kernel
theorem dX6_sweep_16 : decode cX6_sweep 16 = .ok (.iconst (-1), 1) := by decide +kernel
theorem dX6_sweep_17 : decode cX6_sweep 17 = .ok (.putfield 84, 3) := by decide +kernel
theorem dX6_sweep_20 : decode cX6_sweep 20 = .ok (.aload_n 0, 1) := by decide +kernel
theorem dX6_sweep_21 : decode cX6_sweep 21 = .ok (.getfield 15, 3) := by decide +kernel
theorem dX6_sweep_24 : decode cX6_sweep 24 = .ok (.iconst (-1), 1) := by decide +kernel
theorem dX6_sweep_25 : decode cX6_sweep 25 = .ok (.invokestatic 87, 3) := by decide +kernel
theorem dX6_sweep_28 : decode cX6_sweep 28 = .ok (.iconst 0, 1) := by decide +kernel
theorem dX6_sweep_29 : decode cX6_sweep 29 = .ok (.istore_n 3, 1) := by decide +kernel
theorem dX6_sweep_30 : decode cX6_sweep 30 = .ok (.iload_n 3, 1) := by decide +kernel
theorem dX6_sweep_31 : decode cX6_sweep 31 = .ok (.aload_n 0, 1) := by decide +kernel
theorem dX6_sweep_32 : decode cX6_sweep 32 = .ok (.getfield 32, 3) := by decide +kernel
theorem dX6_sweep_35 : decode cX6_sweep 35 = .ok (.getfield 67, 3) := by decide +kernel
theorem dX6_sweep_38 : decode cX6_sweep 38 = .ok (.if_icmp .gt 49, 3) := by decide +kernel
theorem dX6_sweep_41 : decode cX6_sweep 41 = .ok (.aload_n 0, 1) := by decide +kernel
theorem dX6_sweep_42 : decode cX6_sweep 42 = .ok (.getfield 9, 3) := by decide +kernel
theorem dX6_sweep_45 : decode cX6_sweep 45 = .ok (.iload_n 3, 1) := by decide +kernel
theorem dX6_sweep_46 : decode cX6_sweep 46 = .ok (.bipush 101, 2) := by decide +kernel
theorem dX6_sweep_48 : decode cX6_sweep 48 = .ok (.imul, 1) := by decide +kernel
theorem dX6_sweep_49 : decode cX6_sweep 49 = .ok (.aload_n 0, 1) := by decide +kernel
theorem dX6_sweep_50 : decode cX6_sweep 50 = .ok (.getfield 32, 3) := by decide +kernel
theorem dX6_sweep_53 : decode cX6_sweep 53 = .ok (.getfield 75, 3) := by decide +kernel
theorem dX6_sweep_56 : decode cX6_sweep 56 = .ok (.iload_n 3, 1) := by decide +kernel
theorem dX6_sweep_57 : decode cX6_sweep 57 = .ok (.iaload, 1) := by decide +kernel
theorem dX6_sweep_58 : decode cX6_sweep 58 = .ok (.iadd, 1) := by decide +kernel
theorem dX6_sweep_59 : decode cX6_sweep 59 = .ok (.lconst 0, 1) := by decide +kernel
theorem dX6_sweep_60 : decode cX6_sweep 60 = .ok (.lastore, 1) := by decide +kernel
theorem dX6_sweep_61 : decode cX6_sweep 61 = .ok (.aload_n 0, 1) := by decide +kernel
theorem dX6_sweep_62 : decode cX6_sweep 62 = .ok (.getfield 15, 3) := by decide +kernel
theorem dX6_sweep_65 : decode cX6_sweep 65 = .ok (.iload_n 3, 1) := by decide +kernel
theorem dX6_sweep_66 : decode cX6_sweep 66 = .ok (.bipush 101, 2) := by decide +kernel
theorem dX6_sweep_68 : decode cX6_sweep 68 = .ok (.imul, 1) := by decide +kernel
theorem dX6_sweep_69 : decode cX6_sweep 69 = .ok (.aload_n 0, 1) := by decide +kernel
theorem dX6_sweep_70 : decode cX6_sweep 70 = .ok (.getfield 32, 3) := by decide +kernel
theorem dX6_sweep_73 : decode cX6_sweep 73 = .ok (.getfield 75, 3) := by decide +kernel
theorem dX6_sweep_76 : decode cX6_sweep 76 = .ok (.iload_n 3, 1) := by decide +kernel
theorem dX6_sweep_77 : decode cX6_sweep 77 = .ok (.iaload, 1) := by decide +kernel
theorem dX6_sweep_78 : decode cX6_sweep 78 = .ok (.iadd, 1) := by decide +kernel
theorem dX6_sweep_79 : decode cX6_sweep 79 = .ok (.iload_n 3, 1) := by decide +kernel
theorem dX6_sweep_80 : decode cX6_sweep 80 = .ok (.iastore, 1) := by decide +kernel
theorem dX6_sweep_81 : decode cX6_sweep 81 = .ok (.iinc 3 1, 3) := by decide +kernel
theorem dX6_sweep_84 : decode cX6_sweep 84 = .ok (.goto (-54), 3) := by decide +kernel
theorem dX6_sweep_87 : decode cX6_sweep 87 = .ok (.iconst 0, 1) := by decide +kernel
theorem dX6_sweep_88 : decode cX6_sweep 88 = .ok (.istore_n 3, 1) := by decide +kernel
theorem dX6_sweep_89 : decode cX6_sweep 89 = .ok (.iload_n 3, 1) := by decide +kernel
theorem dX6_sweep_90 : decode cX6_sweep 90 = .ok (.aload_n 0, 1) := by decide +kernel
theorem dX6_sweep_91 : decode cX6_sweep 91 = .ok (.getfield 32, 3) := by decide +kernel
theorem dX6_sweep_94 : decode cX6_sweep 94 = .ok (.getfield 67, 3) := by decide +kernel
theorem dX6_sweep_97 : decode cX6_sweep 97 = .ok (.if_icmp .ge 89, 3) := by decide +kernel
theorem dX6_sweep_100 : decode cX6_sweep 100 = .ok (.iload_n 2, 1) := by decide +kernel
theorem dX6_sweep_101 : decode cX6_sweep 101 = .ok (.ifCond .eq 20, 3) := by decide +kernel
theorem dX6_sweep_104 : decode cX6_sweep 104 = .ok (.aload_n 0, 1) := by decide +kernel
theorem dX6_sweep_105 : decode cX6_sweep 105 = .ok (.getfield 57, 3) := by decide +kernel
theorem dX6_sweep_108 : decode cX6_sweep 108 = .ok (.iconst (-1), 1) := by decide +kernel
theorem dX6_sweep_109 : decode cX6_sweep 109 = .ok (.if_icmp .eq 12, 3) := by decide +kernel
theorem dX6_sweep_112 : decode cX6_sweep 112 = .ok (.aload_n 0, 1) := by decide +kernel
theorem dX6_sweep_113 : decode cX6_sweep 113 = .ok (.getfield 60, 3) := by decide +kernel
theorem dX6_sweep_116 : decode cX6_sweep 116 = .ok (.lconst 0, 1) := by decide +kernel
theorem dX6_sweep_117 : decode cX6_sweep 117 = .ok (.lcmp, 1) := by decide +kernel
theorem dX6_sweep_118 : decode cX6_sweep 118 = .ok (.ifCond .lt 68, 3) := by decide +kernel
theorem dX6_sweep_121 : decode cX6_sweep 121 = .ok (.aload_n 0, 1) := by decide +kernel
theorem dX6_sweep_122 : decode cX6_sweep 122 = .ok (.iload_n 3, 1) := by decide +kernel
theorem dX6_sweep_123 : decode cX6_sweep 123 = .ok (.invokevirtual 93, 3) := by decide +kernel
theorem dX6_sweep_126 : decode cX6_sweep 126 = .ok (.aload_n 0, 1) := by decide +kernel
theorem dX6_sweep_127 : decode cX6_sweep 127 = .ok (.getfield 32, 3) := by decide +kernel
theorem dX6_sweep_130 : decode cX6_sweep 130 = .ok (.getfield 72, 3) := by decide +kernel
theorem dX6_sweep_133 : decode cX6_sweep 133 = .ok (.iload_n 3, 1) := by decide +kernel
theorem dX6_sweep_134 : decode cX6_sweep 134 = .ok (.iaload, 1) := by decide +kernel
theorem dX6_sweep_135 : decode cX6_sweep 135 = .ok (.istore 4, 2) := by decide +kernel
theorem dX6_sweep_137 : decode cX6_sweep 137 = .ok (.iload 4, 2) := by decide +kernel
theorem dX6_sweep_139 : decode cX6_sweep 139 = .ok (.aload_n 0, 1) := by decide +kernel
theorem dX6_sweep_140 : decode cX6_sweep 140 = .ok (.getfield 32, 3) := by decide +kernel
theorem dX6_sweep_143 : decode cX6_sweep 143 = .ok (.getfield 75, 3) := by decide +kernel
theorem dX6_sweep_146 : decode cX6_sweep 146 = .ok (.iload_n 3, 1) := by decide +kernel
theorem dX6_sweep_147 : decode cX6_sweep 147 = .ok (.iaload, 1) := by decide +kernel
theorem dX6_sweep_148 : decode cX6_sweep 148 = .ok (.if_icmp .gt 32, 3) := by decide +kernel
theorem dX6_sweep_151 : decode cX6_sweep 151 = .ok (.aload_n 0, 1) := by decide +kernel
theorem dX6_sweep_152 : decode cX6_sweep 152 = .ok (.getfield 15, 3) := by decide +kernel
theorem dX6_sweep_155 : decode cX6_sweep 155 = .ok (.iload_n 3, 1) := by decide +kernel
theorem dX6_sweep_156 : decode cX6_sweep 156 = .ok (.bipush 101, 2) := by decide +kernel
theorem dX6_sweep_158 : decode cX6_sweep 158 = .ok (.imul, 1) := by decide +kernel
theorem dX6_sweep_159 : decode cX6_sweep 159 = .ok (.iload 4, 2) := by decide +kernel
theorem dX6_sweep_161 : decode cX6_sweep 161 = .ok (.iadd, 1) := by decide +kernel
theorem dX6_sweep_162 : decode cX6_sweep 162 = .ok (.iaload, 1) := by decide +kernel
theorem dX6_sweep_163 : decode cX6_sweep 163 = .ok (.iconst (-1), 1) := by decide +kernel
theorem dX6_sweep_164 : decode cX6_sweep 164 = .ok (.if_icmp .eq 10, 3) := by decide +kernel
theorem dX6_sweep_167 : decode cX6_sweep 167 = .ok (.aload_n 0, 1) := by decide +kernel
theorem dX6_sweep_168 : decode cX6_sweep 168 = .ok (.iload_n 3, 1) := by decide +kernel
theorem dX6_sweep_169 : decode cX6_sweep 169 = .ok (.iload 4, 2) := by decide +kernel
theorem dX6_sweep_171 : decode cX6_sweep 171 = .ok (.invokevirtual 97, 3) := by decide +kernel
theorem dX6_sweep_174 : decode cX6_sweep 174 = .ok (.iinc 4 1, 3) := by decide +kernel
theorem dX6_sweep_177 : decode cX6_sweep 177 = .ok (.goto (-40), 3) := by decide +kernel
theorem dX6_sweep_180 : decode cX6_sweep 180 = .ok (.iinc 3 1, 3) := by decide +kernel
theorem dX6_sweep_183 : decode cX6_sweep 183 = .ok (.goto (-94), 3) := by decide +kernel
theorem dX6_sweep_186 : decode cX6_sweep 186 = .ok (.return_, 1) := by decide +kernel
set_option maxHeartbeats 4000000 in
theorem st_X6_sweep_174 {X : sj_X} {g : sj_G} {s0 : sj_Mem} {N : Nat} {q : Unit × sj_VV} {k89 : Nat → Int → Int → sj_VV → Option (Unit × sj_VV)} {k137 : Nat → Int → Int → Int → sj_VV → Option (Unit × sj_VV)} (hk89 : ∀ (a0 : Nat) (x2 : Int) (x3 : Int) (V : sj_VV), OK6 g a0 → k89 a0 x2 x3 V = some q → sj_T X m_X6_sweep s0 (none, (g, q.2)) 89 [some (sj_r (some a0)), none, some (sj_i x2), some (sj_i x3), none] [] (g, V)) (hk137 : ∀ (a0 : Nat) (x2 : Int) (x3 : Int) (x4 : Int) (V : sj_VV), OK6 g a0 → k137 a0 x2 x3 x4 V = some q → sj_T X m_X6_sweep s0 (none, (g, q.2)) 137 [some (sj_r (some a0)), none, some (sj_i x2), some (sj_i x3), some (sj_i x4)] [] (g, V)) :
    ∀ (a0 : Nat) (x2 : Int) (x3 : Int) (x4 : Int) (V : sj_VV), OK6 g a0 → g_X6_sweep_174 N k89 k137 a0 x2 x3 x4 V = some q → sj_T X m_X6_sweep s0 (none, (g, q.2)) 174 [some (sj_r (some a0)), none, some (sj_i x2), some (sj_i x3), some (sj_i x4)] [] (g, V) := by
  intro a0 x2 x3 x4 V ha0 h
  unfold g_X6_sweep_174 at h
  refine r_iinc (ln := fun w => [some (sj_r (some a0)), none, some (sj_i x2), some (sj_i x3), some (sj_i w)]) (pc := 174) h dX6_sweep_174 rfl (Nat.le_of_ble_eq_true rfl) (fun _ => rfl) (fun v1 h => ?_)
  refine r_goto (pc := 177) (tgt := 137) dX6_sweep_177 (by decide) ?_
  exact sj_weak (l2 := [some (sj_r (some a0)), none, some (sj_i x2), some (sj_i x3), some (sj_i v1)]) (⟨rfl, ⟨rfl, ⟨rfl, ⟨rfl, trivial⟩⟩⟩⟩) (hk137 a0 x2 x3 v1 V ha0 h)
set_option maxHeartbeats 4000000 in
theorem st_X6_sweep_137_b {X : sj_X} {g : sj_G} {s0 : sj_Mem} {N : Nat} {q : Unit × sj_VV} {k89 : Nat → Int → Int → sj_VV → Option (Unit × sj_VV)} {k137 : Nat → Int → Int → Int → sj_VV → Option (Unit × sj_VV)} (hk89 : ∀ (a0 : Nat) (x2 : Int) (x3 : Int) (V : sj_VV), OK6 g a0 → k89 a0 x2 x3 V = some q → sj_T X m_X6_sweep s0 (none, (g, q.2)) 89 [some (sj_r (some a0)), none, some (sj_i x2), some (sj_i x3), none] [] (g, V)) (hk137 : ∀ (a0 : Nat) (x2 : Int) (x3 : Int) (x4 : Int) (V : sj_VV), OK6 g a0 → k137 a0 x2 x3 x4 V = some q → sj_T X m_X6_sweep s0 (none, (g, q.2)) 137 [some (sj_r (some a0)), none, some (sj_i x2), some (sj_i x3), some (sj_i x4)] [] (g, V)) :
    ∀ (a0 : Nat) (x2 : Int) (x3 : Int) (x4 : Int) (V : sj_VV), OK6 g a0 → g_X6_sweep_137_b N k89 k137 a0 x2 x3 x4 V = some q → sj_T X m_X6_sweep s0 (none, (g, q.2)) 137 [some (sj_r (some a0)), none, some (sj_i x2), some (sj_i x3), some (sj_i x4)] [] (g, V) := by
  intro a0 x2 x3 x4 V ha0 h
  unfold g_X6_sweep_137_b at h
  refine r_iload (pc := 137) dX6_sweep_137 rfl ?_
  refine r_aload_n (pc := 139) dX6_sweep_139 rfl rfl ?_
  refine r_gRs (b := 1) (pc := 140) dX6_sweep_140 fw_X6_32 rfl (ok6 ha0) (ok6_5 ha0).1 ?_
  refine r_gRs (b := 1 + 1) (pc := 143) dX6_sweep_143 fw_X6_75 rfl (ok0 (ok6_5 ha0).2) (ok0_3 (ok6_5 ha0).2).1 ?_
  refine r_iload_n (pc := 146) dX6_sweep_146 rfl rfl ?_
  refine r_ialoads (pc := 147) h dX6_sweep_147 (ok0_3 (ok6_5 ha0).2).2 (fun h => ?_)
  refine r_icmp_gt (pc := 148) (tgt := 180) h dX6_sweep_148 (by decide) (fun h => ?_) (fun h => ?_)
  · refine r_iinc (ln := fun w => [some (sj_r (some a0)), none, some (sj_i x2), some (sj_i w), some (sj_i x4)]) (pc := 180) h dX6_sweep_180 rfl (Nat.le_of_ble_eq_true rfl) (fun _ => rfl) (fun v1 h => ?_)
    refine r_goto (pc := 183) (tgt := 89) dX6_sweep_183 (by decide) ?_
    exact sj_weak (l2 := [some (sj_r (some a0)), none, some (sj_i x2), some (sj_i v1), none]) (⟨rfl, ⟨rfl, ⟨rfl, trivial⟩⟩⟩) (hk89 a0 x2 v1 V ha0 h)
  · refine r_aload_n (pc := 151) dX6_sweep_151 rfl rfl ?_
    refine r_gRs (b := a0 + 2) (pc := 152) dX6_sweep_152 fw_X6_15 rfl (ok6 ha0) (ok6_1 ha0).1 ?_
    refine r_iload_n (pc := 155) dX6_sweep_155 rfl rfl ?_
    refine r_bipush (pc := 156) dX6_sweep_156 ⟨by decide, by decide⟩ ?_
    refine r_imul (pc := 158) dX6_sweep_158 ?_
    refine r_iload (pc := 159) dX6_sweep_159 rfl ?_
    refine r_iadd (pc := 161) dX6_sweep_161 ?_
    refine r_ialoads (pc := 162) h dX6_sweep_162 (ok6_1 ha0).2 (fun h => ?_)
    refine r_iconst (pc := 163) dX6_sweep_163 ?_
    refine r_icmp_eq (pc := 164) (tgt := 174) h dX6_sweep_164 (by decide) (fun h => ?_) (fun h => ?_)
    · exact sj_weak (l2 := [some (sj_r (some a0)), none, some (sj_i x2), some (sj_i x3), some (sj_i x4)]) (⟨rfl, ⟨rfl, ⟨rfl, ⟨rfl, trivial⟩⟩⟩⟩) (st_X6_sweep_174 hk89 hk137 a0 x2 x3 x4 V ha0 h)
    · refine r_aload_n (pc := 167) dX6_sweep_167 rfl rfl ?_
      refine r_iload_n (pc := 168) dX6_sweep_168 rfl rfl ?_
      refine r_iload (pc := 169) dX6_sweep_169 rfl ?_
      refine r_callVs (pc := 171) (fun _ => none) (As := [sj_i x3, sj_i x4]) (rest := []) (b := a0) (ok6 ha0) h dX6_sweep_171 mw_X6_97 vw_X6_stepOn (fun _ _ hc => cg_X6_stepOn ha0 hc) rfl ⟨(Nat.le_of_ble_eq_true rfl), (Nat.le_of_ble_eq_true rfl)⟩ (Nat.le_of_ble_eq_true rfl) rfl (fun _u V2 h => ?_)
      exact sj_weak (l2 := [some (sj_r (some a0)), none, some (sj_i x2), some (sj_i x3), some (sj_i x4)]) (⟨rfl, ⟨rfl, ⟨rfl, ⟨rfl, trivial⟩⟩⟩⟩) (st_X6_sweep_174 hk89 hk137 a0 x2 x3 x4 V2 ha0 h)
set_option maxHeartbeats 4000000 in
theorem st_X6_sweep_137 {X : sj_X} {g : sj_G} {s0 : sj_Mem} {N : Nat} {q : Unit × sj_VV} {k89 : Nat → Int → Int → sj_VV → Option (Unit × sj_VV)} (hk89 : ∀ (a0 : Nat) (x2 : Int) (x3 : Int) (V : sj_VV), OK6 g a0 → k89 a0 x2 x3 V = some q → sj_T X m_X6_sweep s0 (none, (g, q.2)) 89 [some (sj_r (some a0)), none, some (sj_i x2), some (sj_i x3), none] [] (g, V)) :
    ∀ (n : Nat) (a0 : Nat) (x2 : Int) (x3 : Int) (x4 : Int) (V : sj_VV), OK6 g a0 → g_X6_sweep_137 N k89 n a0 x2 x3 x4 V = some q → sj_T X m_X6_sweep s0 (none, (g, q.2)) 137 [some (sj_r (some a0)), none, some (sj_i x2), some (sj_i x3), some (sj_i x4)] [] (g, V) := by
  intro n
  induction n with
  | zero => intro a0 x2 x3 x4 V ha0 h; exact nomatch h
  | succ n ih => intro a0 x2 x3 x4 V ha0 h; exact st_X6_sweep_137_b (N := N) hk89 ih a0 x2 x3 x4 V ha0 h
set_option maxHeartbeats 4000000 in
theorem st_X6_sweep_121 {X : sj_X} {g : sj_G} {s0 : sj_Mem} {N : Nat} {q : Unit × sj_VV} {k89 : Nat → Int → Int → sj_VV → Option (Unit × sj_VV)} (hk89 : ∀ (a0 : Nat) (x2 : Int) (x3 : Int) (V : sj_VV), OK6 g a0 → k89 a0 x2 x3 V = some q → sj_T X m_X6_sweep s0 (none, (g, q.2)) 89 [some (sj_r (some a0)), none, some (sj_i x2), some (sj_i x3), none] [] (g, V)) :
    ∀ (a0 : Nat) (x2 : Int) (x3 : Int) (V : sj_VV), OK6 g a0 → g_X6_sweep_121 N k89 a0 x2 x3 V = some q → sj_T X m_X6_sweep s0 (none, (g, q.2)) 121 [some (sj_r (some a0)), none, some (sj_i x2), some (sj_i x3), none] [] (g, V) := by
  intro a0 x2 x3 V ha0 h
  unfold g_X6_sweep_121 at h
  refine r_aload_n (pc := 121) dX6_sweep_121 rfl rfl ?_
  refine r_iload_n (pc := 122) dX6_sweep_122 rfl rfl ?_
  refine r_callVs (pc := 123) (fun _ => none) (As := [sj_i x3]) (rest := []) (b := a0) (ok6 ha0) h dX6_sweep_123 mw_X6_93 vw_X6_addTops (fun _ _ hc => cg_X6_addTops ha0 hc) rfl ⟨(Nat.le_of_ble_eq_true rfl), (Nat.le_of_ble_eq_true rfl)⟩ (Nat.le_of_ble_eq_true rfl) rfl (fun _u V1 h => ?_)
  refine r_aload_n (pc := 126) dX6_sweep_126 rfl rfl ?_
  refine r_gRs (b := 1) (pc := 127) dX6_sweep_127 fw_X6_32 rfl (ok6 ha0) (ok6_5 ha0).1 ?_
  refine r_gRs (b := 1 + 2) (pc := 130) dX6_sweep_130 fw_X6_72 rfl (ok0 (ok6_5 ha0).2) (ok0_4 (ok6_5 ha0).2).1 ?_
  refine r_iload_n (pc := 133) dX6_sweep_133 rfl rfl ?_
  refine r_ialoads (pc := 134) h dX6_sweep_134 (ok0_4 (ok6_5 ha0).2).2 (fun h => ?_)
  refine r_istoreL (ln := fun w => [some (sj_r (some a0)), none, some (sj_i x2), some (sj_i x3), some (sj_i w)]) (pc := 135) h dX6_sweep_135 (Nat.le_of_ble_eq_true rfl) (fun _ => rfl) (fun v2 h => ?_)
  exact sj_weak (l2 := [some (sj_r (some a0)), none, some (sj_i x2), some (sj_i x3), some (sj_i v2)]) (⟨rfl, ⟨rfl, ⟨rfl, ⟨rfl, trivial⟩⟩⟩⟩) (st_X6_sweep_137 hk89 N a0 x2 x3 v2 V1 ha0 h)
set_option maxHeartbeats 4000000 in
theorem st_X6_sweep_89_b {X : sj_X} {g : sj_G} {s0 : sj_Mem} {N : Nat} {q : Unit × sj_VV} {k89 : Nat → Int → Int → sj_VV → Option (Unit × sj_VV)} (hk89 : ∀ (a0 : Nat) (x2 : Int) (x3 : Int) (V : sj_VV), OK6 g a0 → k89 a0 x2 x3 V = some q → sj_T X m_X6_sweep s0 (none, (g, q.2)) 89 [some (sj_r (some a0)), none, some (sj_i x2), some (sj_i x3), none] [] (g, V)) :
    ∀ (a0 : Nat) (x2 : Int) (x3 : Int) (V : sj_VV), OK6 g a0 → g_X6_sweep_89_b N k89 a0 x2 x3 V = some q → sj_T X m_X6_sweep s0 (none, (g, q.2)) 89 [some (sj_r (some a0)), none, some (sj_i x2), some (sj_i x3), none] [] (g, V) := by
  intro a0 x2 x3 V ha0 h
  unfold g_X6_sweep_89_b at h
  refine r_iload_n (pc := 89) dX6_sweep_89 rfl rfl ?_
  refine r_aload_n (pc := 90) dX6_sweep_90 rfl rfl ?_
  refine r_gRs (b := 1) (pc := 91) dX6_sweep_91 fw_X6_32 rfl (ok6 ha0) (ok6_5 ha0).1 ?_
  refine r_gIs (pc := 94) dX6_sweep_94 fw_X6_67 rfl (ok0 (ok6_5 ha0).2) ?_
  refine r_icmp_ge (pc := 97) (tgt := 186) h dX6_sweep_97 (by decide) (fun h => ?_) (fun h => ?_)
  · exact r_vrets (pc := 186) h rfl dX6_sweep_186
  · refine r_iload_n (pc := 100) dX6_sweep_100 rfl rfl ?_
    refine r_if_eq (pc := 101) (tgt := 121) h dX6_sweep_101 (by decide) (fun h => ?_) (fun h => ?_)
    · exact sj_weak (l2 := [some (sj_r (some a0)), none, some (sj_i x2), some (sj_i x3), none]) (⟨rfl, ⟨rfl, ⟨rfl, trivial⟩⟩⟩) (st_X6_sweep_121 hk89 a0 x2 x3 V ha0 h)
    · refine r_aload_n (pc := 104) dX6_sweep_104 rfl rfl ?_
      refine r_gIs (pc := 105) dX6_sweep_105 fw_X6_57 rfl (ok6 ha0) ?_
      refine r_iconst (pc := 108) dX6_sweep_108 ?_
      refine r_icmp_eq (pc := 109) (tgt := 121) h dX6_sweep_109 (by decide) (fun h => ?_) (fun h => ?_)
      · exact sj_weak (l2 := [some (sj_r (some a0)), none, some (sj_i x2), some (sj_i x3), none]) (⟨rfl, ⟨rfl, ⟨rfl, trivial⟩⟩⟩) (st_X6_sweep_121 hk89 a0 x2 x3 V ha0 h)
      · refine r_aload_n (pc := 112) dX6_sweep_112 rfl rfl ?_
        refine r_gJs (pc := 113) dX6_sweep_113 fw_X6_60 rfl (ok6 ha0) ?_
        refine r_lconst0 (pc := 116) dX6_sweep_116 ?_
        refine r_llt (pc := 117) (tgt := 186) h dX6_sweep_117 rfl dX6_sweep_118 (by decide) (fun h => ?_) (fun h => ?_)
        · exact r_vrets (pc := 186) h rfl dX6_sweep_186
        · exact sj_weak (l2 := [some (sj_r (some a0)), none, some (sj_i x2), some (sj_i x3), none]) (⟨rfl, ⟨rfl, ⟨rfl, trivial⟩⟩⟩) (st_X6_sweep_121 hk89 a0 x2 x3 V ha0 h)
set_option maxHeartbeats 4000000 in
theorem st_X6_sweep_89 {X : sj_X} {g : sj_G} {s0 : sj_Mem} {N : Nat} {q : Unit × sj_VV} :
    ∀ (n : Nat) (a0 : Nat) (x2 : Int) (x3 : Int) (V : sj_VV), OK6 g a0 → g_X6_sweep_89 N n a0 x2 x3 V = some q → sj_T X m_X6_sweep s0 (none, (g, q.2)) 89 [some (sj_r (some a0)), none, some (sj_i x2), some (sj_i x3), none] [] (g, V) := by
  intro n
  induction n with
  | zero => intro a0 x2 x3 V ha0 h; exact nomatch h
  | succ n ih => intro a0 x2 x3 V ha0 h; exact st_X6_sweep_89_b (N := N) ih a0 x2 x3 V ha0 h
set_option maxHeartbeats 4000000 in
theorem st_X6_sweep_30_b {X : sj_X} {g : sj_G} {s0 : sj_Mem} {N : Nat} {q : Unit × sj_VV} {k30 : Nat → Int → Int → sj_VV → Option (Unit × sj_VV)} (hk30 : ∀ (a0 : Nat) (x2 : Int) (x3 : Int) (V : sj_VV), OK6 g a0 → k30 a0 x2 x3 V = some q → sj_T X m_X6_sweep s0 (none, (g, q.2)) 30 [some (sj_r (some a0)), none, some (sj_i x2), some (sj_i x3), none] [] (g, V)) :
    ∀ (a0 : Nat) (x2 : Int) (x3 : Int) (V : sj_VV), OK6 g a0 → g_X6_sweep_30_b N k30 a0 x2 x3 V = some q → sj_T X m_X6_sweep s0 (none, (g, q.2)) 30 [some (sj_r (some a0)), none, some (sj_i x2), some (sj_i x3), none] [] (g, V) := by
  intro a0 x2 x3 V ha0 h
  unfold g_X6_sweep_30_b at h
  refine r_iload_n (pc := 30) dX6_sweep_30 rfl rfl ?_
  refine r_aload_n (pc := 31) dX6_sweep_31 rfl rfl ?_
  refine r_gRs (b := 1) (pc := 32) dX6_sweep_32 fw_X6_32 rfl (ok6 ha0) (ok6_5 ha0).1 ?_
  refine r_gIs (pc := 35) dX6_sweep_35 fw_X6_67 rfl (ok0 (ok6_5 ha0).2) ?_
  refine r_icmp_gt (pc := 38) (tgt := 87) h dX6_sweep_38 (by decide) (fun h => ?_) (fun h => ?_)
  · refine r_iconst (pc := 87) dX6_sweep_87 ?_
    refine r_istore_n (ln := [some (sj_r (some a0)), none, some (sj_i x2), some (sj_i 0), none]) (pc := 88) dX6_sweep_88 rfl (Nat.le_of_ble_eq_true rfl) rfl ?_
    exact sj_weak (l2 := [some (sj_r (some a0)), none, some (sj_i x2), some (sj_i 0), none]) (⟨rfl, ⟨rfl, ⟨rfl, trivial⟩⟩⟩) (st_X6_sweep_89 N a0 x2 0 V ha0 h)
  · refine r_aload_n (pc := 41) dX6_sweep_41 rfl rfl ?_
    refine r_gRs (b := a0 + 1) (pc := 42) dX6_sweep_42 fw_X6_9 rfl (ok6 ha0) (ok6_0 ha0).1 ?_
    refine r_iload_n (pc := 45) dX6_sweep_45 rfl rfl ?_
    refine r_bipush (pc := 46) dX6_sweep_46 ⟨by decide, by decide⟩ ?_
    refine r_imul (pc := 48) dX6_sweep_48 ?_
    refine r_aload_n (pc := 49) dX6_sweep_49 rfl rfl ?_
    refine r_gRs (b := 1) (pc := 50) dX6_sweep_50 fw_X6_32 rfl (ok6 ha0) (ok6_5 ha0).1 ?_
    refine r_gRs (b := 1 + 1) (pc := 53) dX6_sweep_53 fw_X6_75 rfl (ok0 (ok6_5 ha0).2) (ok0_3 (ok6_5 ha0).2).1 ?_
    refine r_iload_n (pc := 56) dX6_sweep_56 rfl rfl ?_
    refine r_ialoads (pc := 57) h dX6_sweep_57 (ok0_3 (ok6_5 ha0).2).2 (fun h => ?_)
    refine r_iadd (pc := 58) dX6_sweep_58 ?_
    refine r_lconst0 (pc := 59) dX6_sweep_59 ?_
    refine r_lastores (pc := 60) h dX6_sweep_60 (ok6_0 ha0).2 (fun V1 h => ?_)
    refine r_aload_n (pc := 61) dX6_sweep_61 rfl rfl ?_
    refine r_gRs (b := a0 + 2) (pc := 62) dX6_sweep_62 fw_X6_15 rfl (ok6 ha0) (ok6_1 ha0).1 ?_
    refine r_iload_n (pc := 65) dX6_sweep_65 rfl rfl ?_
    refine r_bipush (pc := 66) dX6_sweep_66 ⟨by decide, by decide⟩ ?_
    refine r_imul (pc := 68) dX6_sweep_68 ?_
    refine r_aload_n (pc := 69) dX6_sweep_69 rfl rfl ?_
    refine r_gRs (b := 1) (pc := 70) dX6_sweep_70 fw_X6_32 rfl (ok6 ha0) (ok6_5 ha0).1 ?_
    refine r_gRs (b := 1 + 1) (pc := 73) dX6_sweep_73 fw_X6_75 rfl (ok0 (ok6_5 ha0).2) (ok0_3 (ok6_5 ha0).2).1 ?_
    refine r_iload_n (pc := 76) dX6_sweep_76 rfl rfl ?_
    refine r_ialoads (pc := 77) h dX6_sweep_77 (ok0_3 (ok6_5 ha0).2).2 (fun h => ?_)
    refine r_iadd (pc := 78) dX6_sweep_78 ?_
    refine r_iload_n (pc := 79) dX6_sweep_79 rfl rfl ?_
    refine r_iastores (pc := 80) h dX6_sweep_80 (ok6_1 ha0).2 (fun V2 h => ?_)
    refine r_iinc (ln := fun w => [some (sj_r (some a0)), none, some (sj_i x2), some (sj_i w), none]) (pc := 81) h dX6_sweep_81 rfl (Nat.le_of_ble_eq_true rfl) (fun _ => rfl) (fun v3 h => ?_)
    refine r_goto (pc := 84) (tgt := 30) dX6_sweep_84 (by decide) ?_
    exact sj_weak (l2 := [some (sj_r (some a0)), none, some (sj_i x2), some (sj_i v3), none]) (⟨rfl, ⟨rfl, ⟨rfl, trivial⟩⟩⟩) (hk30 a0 x2 v3 V2 ha0 h)
set_option maxHeartbeats 4000000 in
theorem st_X6_sweep_30 {X : sj_X} {g : sj_G} {s0 : sj_Mem} {N : Nat} {q : Unit × sj_VV} :
    ∀ (n : Nat) (a0 : Nat) (x2 : Int) (x3 : Int) (V : sj_VV), OK6 g a0 → g_X6_sweep_30 N n a0 x2 x3 V = some q → sj_T X m_X6_sweep s0 (none, (g, q.2)) 30 [some (sj_r (some a0)), none, some (sj_i x2), some (sj_i x3), none] [] (g, V) := by
  intro n
  induction n with
  | zero => intro a0 x2 x3 V ha0 h; exact nomatch h
  | succ n ih => intro a0 x2 x3 V ha0 h; exact st_X6_sweep_30_b (N := N) ih a0 x2 x3 V ha0 h
set_option maxHeartbeats 4000000 in
theorem st_X6_sweep_0 {X : sj_X} {g : sj_G} {s0 : sj_Mem} {N : Nat} {q : Unit × sj_VV} :
    ∀ (a0 : Nat) (x1 : Int) (x2 : Int) (V : sj_VV), OK6 g a0 → g_X6_sweep N a0 x1 x2 V = some q → sj_T X m_X6_sweep s0 (none, (g, q.2)) 0 [some (sj_r (some a0)), some (sj_i x1), some (sj_i x2), none, none] [] (g, V) := by
  intro a0 x1 x2 V ha0 h
  unfold g_X6_sweep at h
  refine r_aload_n (pc := 0) dX6_sweep_0 rfl rfl ?_
  refine r_iload_n (pc := 1) dX6_sweep_1 rfl rfl ?_
  refine r_pIs (pc := 2) h dX6_sweep_2 fw_X6_81 rfl rfl (nf6_8) (ok6 ha0) (fun V1 h => ?_)
  refine r_aload_n (pc := 5) dX6_sweep_5 rfl rfl ?_
  refine r_lconst0 (pc := 6) dX6_sweep_6 ?_
  refine r_pJs (pc := 7) h dX6_sweep_7 fw_X6_60 rfl rfl (nf6_10) (ok6 ha0) (fun V2 h => ?_)
  refine r_aload_n (pc := 10) dX6_sweep_10 rfl rfl ?_
  refine r_iconst (pc := 11) dX6_sweep_11 ?_
  refine r_pIs (pc := 12) h dX6_sweep_12 fw_X6_57 rfl rfl (nf6_11) (ok6 ha0) (fun V3 h => ?_)
  refine r_aload_n (pc := 15) dX6_sweep_15 rfl rfl ?_
  refine r_iconst (pc := 16) dX6_sweep_16 ?_
  refine r_pIs (pc := 17) h dX6_sweep_17 fw_X6_84 rfl rfl (nf6_12) (ok6 ha0) (fun V4 h => ?_)
  refine r_aload_n (pc := 20) dX6_sweep_20 rfl rfl ?_
  refine r_gRs (b := a0 + 2) (pc := 21) dX6_sweep_21 fw_X6_15 rfl (ok6 ha0) (ok6_1 ha0).1 ?_
  refine r_iconst (pc := 24) dX6_sweep_24 ?_
  refine r_callSs (pc := 25) (fun _ => none) (As := [sj_r (some (a0 + 2)), sj_i ((-1))]) (rest := []) h dX6_sweep_25 mw_X6_87 kw_321 (fun _ _ hc => cg_J7_fill_53178 (ok6_1 ha0).2 hc) rfl ⟨(Nat.le_of_ble_eq_true rfl), (Nat.le_of_ble_eq_true rfl)⟩ (Nat.le_of_ble_eq_true rfl) rfl (fun _u V5 h => ?_)
  refine r_iconst (pc := 28) dX6_sweep_28 ?_
  refine r_istore_n (ln := [some (sj_r (some a0)), some (sj_i x1), some (sj_i x2), some (sj_i 0), none]) (pc := 29) dX6_sweep_29 rfl (Nat.le_of_ble_eq_true rfl) rfl ?_
  exact sj_weak (l2 := [some (sj_r (some a0)), none, some (sj_i x2), some (sj_i 0), none]) (⟨rfl, ⟨rfl, ⟨rfl, trivial⟩⟩⟩) (st_X6_sweep_30 N a0 x2 0 V5 ha0 h)
set_option maxHeartbeats 4000000 in
theorem cg_X6_sweep {X : sj_X} {g : sj_G} {N : Nat} {a0 : Nat} {x1 : Int} {x2 : Int} {V : sj_VV} {q : Unit × sj_VV} (ha0 : OK6 g a0) (h : g_X6_sweep N a0 x1 x2 V = some q) : sj_C X m_X6_sweep [sj_r (some a0), sj_i x1, sj_i x2] (g, V) (none, (g, q.2)) :=
  sj_C_of (by decide +kernel) (Nat.le_of_ble_eq_true rfl) (lo := [some (sj_r (some a0)), some (sj_i x1), some (sj_i x2), none, none]) rfl (sj_weak (l2 := [some (sj_r (some a0)), some (sj_i x1), some (sj_i x2), none, none]) (⟨rfl, ⟨rfl, ⟨rfl, trivial⟩⟩⟩) (st_X6_sweep_0 a0 x1 x2 V ha0 h))
set_option maxHeartbeats 4000000 in
theorem c_X6_sweep {X : sj_X} {N : Nat} {a0 : Nat} {x1 : Int} {x2 : Int} {s : sj_Mem} {q : Unit × sj_Mem} (h : f_X6_sweep N a0 x1 x2 s = some q) : sj_C X m_X6_sweep [sj_r (some a0), sj_i x1, sj_i x2] s (none, q.2) := by
  obtain ⟨g, V⟩ := s
  unfold f_X6_sweep at h
  obtain ⟨ho, h1⟩ := e_ok_some h
  obtain ⟨q2, h2, rfl⟩ := sj_map_some h1
  exact cg_X6_sweep ho h2
theorem dX6_goBack_0 : decode cX6_goBack 0 = .ok (.aload_n 0, 1) := by decide +kernel
theorem dX6_goBack_1 : decode cX6_goBack 1 = .ok (.getfield 57, 3) := by decide +kernel
theorem dX6_goBack_4 : decode cX6_goBack 4 = .ok (.iconst (-1), 1) := by decide +kernel
theorem dX6_goBack_5 : decode cX6_goBack 5 = .ok (.if_icmp .ne 4, 3) := by decide +kernel
theorem dX6_goBack_8 : decode cX6_goBack 8 = .ok (.return_, 1) := by decide +kernel
theorem dX6_goBack_9 : decode cX6_goBack 9 = .ok (.aload_n 0, 1) := by decide +kernel
theorem dX6_goBack_10 : decode cX6_goBack 10 = .ok (.getfield 28, 3) := by decide +kernel
theorem dX6_goBack_13 : decode cX6_goBack 13 = .ok (.aload_n 0, 1) := by decide +kernel
theorem dX6_goBack_14 : decode cX6_goBack 14 = .ok (.getfield 32, 3) := by decide +kernel
theorem dX6_goBack_17 : decode cX6_goBack 17 = .ok (.aload_n 0, 1) := by decide +kernel
theorem dX6_goBack_18 : decode cX6_goBack 18 = .ok (.getfield 57, 3) := by decide +kernel
theorem dX6_goBack_21 : decode cX6_goBack 21 = .ok (.aload_n 0, 1) := by decide +kernel
theorem dX6_goBack_22 : decode cX6_goBack 22 = .ok (.getfield 84, 3) := by decide +kernel
theorem dX6_goBack_25 : decode cX6_goBack 25 = .ok (.aload_n 0, 1) := by decide +kernel
theorem dX6_goBack_26 : decode cX6_goBack 26 = .ok (.getfield 40, 3) := by decide +kernel
theorem dX6_goBack_29 : decode cX6_goBack 29 = .ok (.invokevirtual 145, 3) := by decide +kernel
theorem dX6_goBack_32 : decode cX6_goBack 32 = .ok (.aload_n 0, 1) := by decide +kernel
theorem dX6_goBack_33 : decode cX6_goBack 33 = .ok (.getfield 32, 3) := by decide +kernel
theorem dX6_goBack_36 : decode cX6_goBack 36 = .ok (.getfield 75, 3) := by decide +kernel
theorem dX6_goBack_39 : decode cX6_goBack 39 = .ok (.aload_n 0, 1) := by decide +kernel
theorem dX6_goBack_40 : decode cX6_goBack 40 = .ok (.getfield 84, 3) := by decide +kernel
theorem dX6_goBack_43 : decode cX6_goBack 43 = .ok (.iaload, 1) := by decide +kernel
theorem dX6_goBack_44 : decode cX6_goBack 44 = .ok (.istore_n 1, 1) := by decide +kernel
theorem dX6_goBack_45 : decode cX6_goBack 45 = .ok (.aload_n 0, 1) := by decide +kernel
theorem dX6_goBack_46 : decode cX6_goBack 46 = .ok (.getfield 60, 3) := by decide +kernel
theorem dX6_goBack_49 : decode cX6_goBack 49 = .ok (.lstore_n 2, 1) := by decide +kernel
theorem dX6_goBack_50 : decode cX6_goBack 50 = .ok (.aload_n 0, 1) := by decide +kernel
theorem dX6_goBack_51 : decode cX6_goBack 51 = .ok (.getfield 84, 3) := by decide +kernel
theorem dX6_goBack_54 : decode cX6_goBack 54 = .ok (.iconst 1, 1) := by decide +kernel
theorem dX6_goBack_55 : decode cX6_goBack 55 = .ok (.isub, 1) := by decide +kernel
theorem dX6_goBack_56 : decode cX6_goBack 56 = .ok (.istore 4, 2) := by decide +kernel
theorem dX6_goBack_58 : decode cX6_goBack 58 = .ok (.iload 4, 2) := by decide +kernel
theorem dX6_goBack_60 : decode cX6_goBack 60 = .ok (.aload_n 0, 1) := by decide +kernel
theorem dX6_goBack_61 : decode cX6_goBack 61 = .ok (.getfield 57, 3) := by decide +kernel
theorem dX6_goBack_64 : decode cX6_goBack 64 = .ok (.if_icmp .le 149, 3) := by decide +kernel
theorem dX6_goBack_67 : decode cX6_goBack 67 = .ok (.aload_n 0, 1) := by decide +kernel
theorem dX6_goBack_68 : decode cX6_goBack 68 = .ok (.iload 4, 2) := by decide +kernel
theorem dX6_goBack_70 : decode cX6_goBack 70 = .ok (.invokevirtual 93, 3) := by decide +kernel
theorem dX6_goBack_73 : decode cX6_goBack 73 = .ok (.aload_n 0, 1) := by decide +kernel
theorem dX6_goBack_74 : decode cX6_goBack 74 = .ok (.getfield 32, 3) := by decide +kernel
theorem dX6_goBack_77 : decode cX6_goBack 77 = .ok (.getfield 75, 3) := by decide +kernel
theorem dX6_goBack_80 : decode cX6_goBack 80 = .ok (.iload 4, 2) := by decide +kernel
theorem dX6_goBack_82 : decode cX6_goBack 82 = .ok (.iaload, 1) := by decide +kernel
theorem dX6_goBack_83 : decode cX6_goBack 83 = .ok (.iload_n 1, 1) := by decide +kernel
theorem dX6_goBack_84 : decode cX6_goBack 84 = .ok (.aload_n 0, 1) := by decide +kernel
theorem dX6_goBack_85 : decode cX6_goBack 85 = .ok (.getfield 36, 3) := by decide +kernel
theorem dX6_goBack_88 : decode cX6_goBack 88 = .ok (.iadd, 1) := by decide +kernel
theorem dX6_goBack_89 : decode cX6_goBack 89 = .ok (.invokestatic 104, 3) := by decide +kernel
theorem dX6_goBack_92 : decode cX6_goBack 92 = .ok (.istore 5, 2) := by decide +kernel
theorem dX6_goBack_94 : decode cX6_goBack 94 = .ok (.aload_n 0, 1) := by decide +kernel
theorem dX6_goBack_95 : decode cX6_goBack 95 = .ok (.getfield 32, 3) := by decide +kernel
theorem dX6_goBack_98 : decode cX6_goBack 98 = .ok (.getfield 72, 3) := by decide +kernel
theorem dX6_goBack_101 : decode cX6_goBack 101 = .ok (.iload 4, 2) := by decide +kernel
theorem dX6_goBack_103 : decode cX6_goBack 103 = .ok (.iaload, 1) := by decide +kernel
theorem dX6_goBack_104 : decode cX6_goBack 104 = .ok (.iload_n 1, 1) := by decide +kernel
theorem dX6_goBack_105 : decode cX6_goBack 105 = .ok (.aload_n 0, 1) := by decide +kernel
theorem dX6_goBack_106 : decode cX6_goBack 106 = .ok (.getfield 36, 3) := by decide +kernel
theorem dX6_goBack_109 : decode cX6_goBack 109 = .ok (.isub, 1) := by decide +kernel
theorem dX6_goBack_110 : decode cX6_goBack 110 = .ok (.invokestatic 109, 3) := by decide +kernel
theorem dX6_goBack_113 : decode cX6_goBack 113 = .ok (.istore 6, 2) := by decide +kernel
theorem dX6_goBack_115 : decode cX6_goBack 115 = .ok (.iload 6, 2) := by decide +kernel
theorem dX6_goBack_117 : decode cX6_goBack 117 = .ok (.iload 5, 2) := by decide +kernel
theorem dX6_goBack_119 : decode cX6_goBack 119 = .ok (.if_icmp .gt 88, 3) := by decide +kernel
theorem dX6_goBack_122 : decode cX6_goBack 122 = .ok (.iload 4, 2) := by decide +kernel
theorem dX6_goBack_124 : decode cX6_goBack 124 = .ok (.bipush 101, 2) := by decide +kernel
theorem dX6_goBack_126 : decode cX6_goBack 126 = .ok (.imul, 1) := by decide +kernel
theorem dX6_goBack_127 : decode cX6_goBack 127 = .ok (.iload 6, 2) := by decide +kernel
theorem dX6_goBack_129 : decode cX6_goBack 129 = .ok (.iadd, 1) := by decide +kernel
theorem dX6_goBack_130 : decode cX6_goBack 130 = .ok (.istore 7, 2) := by decide +kernel
theorem dX6_goBack_132 : decode cX6_goBack 132 = .ok (.aload_n 0, 1) := by decide +kernel
theorem dX6_goBack_133 : decode cX6_goBack 133 = .ok (.getfield 15, 3) := by decide +kernel
theorem dX6_goBack_136 : decode cX6_goBack 136 = .ok (.iload 7, 2) := by decide +kernel
theorem dX6_goBack_138 : decode cX6_goBack 138 = .ok (.iaload, 1) := by decide +kernel
theorem dX6_goBack_139 : decode cX6_goBack 139 = .ok (.aload_n 0, 1) := by decide +kernel
theorem dX6_goBack_140 : decode cX6_goBack 140 = .ok (.getfield 57, 3) := by decide +kernel
theorem dX6_goBack_143 : decode cX6_goBack 143 = .ok (.if_icmp .ne 58, 3) := by decide +kernel
theorem dX6_goBack_146 : decode cX6_goBack 146 = .ok (.aload_n 0, 1) := by decide +kernel
theorem dX6_goBack_147 : decode cX6_goBack 147 = .ok (.getfield 9, 3) := by decide +kernel
theorem dX6_goBack_150 : decode cX6_goBack 150 = .ok (.iload 7, 2) := by decide +kernel
theorem dX6_goBack_152 : decode cX6_goBack 152 = .ok (.laload, 1) := by decide +kernel
theorem dX6_goBack_153 : decode cX6_goBack 153 = .ok (.aload_n 0, 1) := by decide +kernel
theorem dX6_goBack_154 : decode cX6_goBack 154 = .ok (.iload 4, 2) := by decide +kernel
theorem dX6_goBack_156 : decode cX6_goBack 156 = .ok (.iload 6, 2) := by decide +kernel
theorem dX6_goBack_158 : decode cX6_goBack 158 = .ok (.iload_n 1, 1) := by decide +kernel
theorem dX6_goBack_159 : decode cX6_goBack 159 = .ok (.invokevirtual 112, 3) := by decide +kernel
theorem dX6_goBack_162 : decode cX6_goBack 162 = .ok (.ladd, 1) := by decide +kernel
theorem dX6_goBack_163 : decode cX6_goBack 163 = .ok (.lload_n 2, 1) := by decide +kernel
theorem dX6_goBack_164 : decode cX6_goBack 164 = .ok (.lcmp, 1) := by decide +kernel
theorem dX6_goBack_165 : decode cX6_goBack 165 = .ok (.ifCond .ne 36, 3) := by decide +kernel
theorem dX6_goBack_168 : decode cX6_goBack 168 = .ok (.aload_n 0, 1) := by decide +kernel
theorem dX6_goBack_169 : decode cX6_goBack 169 = .ok (.getfield 116, 3) := by decide +kernel
theorem dX6_goBack_172 : decode cX6_goBack 172 = .ok (.ifCond .ne 29, 3) := by decide +kernel
theorem dX6_goBack_175 : decode cX6_goBack 175 = .ok (.aload_n 0, 1) := by decide +kernel
theorem dX6_goBack_176 : decode cX6_goBack 176 = .ok (.getfield 28, 3) := by decide +kernel
theorem dX6_goBack_179 : decode cX6_goBack 179 = .ok (.getfield 149, 3) := by decide +kernel
theorem dX6_goBack_182 : decode cX6_goBack 182 = .ok (.iload 4, 2) := by decide +kernel
theorem dX6_goBack_184 : decode cX6_goBack 184 = .ok (.iload 6, 2) := by decide +kernel
theorem dX6_goBack_186 : decode cX6_goBack 186 = .ok (.iastore, 1) := by decide +kernel
theorem dX6_goBack_187 : decode cX6_goBack 187 = .ok (.aload_n 0, 1) := by decide +kernel
theorem dX6_goBack_188 : decode cX6_goBack 188 = .ok (.getfield 9, 3) := by decide +kernel
theorem dX6_goBack_191 : decode cX6_goBack 191 = .ok (.iload 7, 2) := by decide +kernel
theorem dX6_goBack_193 : decode cX6_goBack 193 = .ok (.laload, 1) := by decide +kernel
theorem dX6_goBack_194 : decode cX6_goBack 194 = .ok (.lstore_n 2, 1) := by decide +kernel
theorem dX6_goBack_195 : decode cX6_goBack 195 = .ok (.iload 6, 2) := by decide +kernel
theorem dX6_goBack_197 : decode cX6_goBack 197 = .ok (.istore_n 1, 1) := by decide +kernel
theorem dX6_goBack_198 : decode cX6_goBack 198 = .ok (.goto 9, 3) := by decide +kernel
theorem dX6_goBack_201 : decode cX6_goBack 201 = .ok (.iinc 6 1, 3) := by decide +kernel
theorem dX6_goBack_204 : decode cX6_goBack 204 = .ok (.goto (-89), 3) := by decide +kernel
theorem dX6_goBack_207 : decode cX6_goBack 207 = .ok (.iinc 4 (-1), 3) := by decide +kernel
theorem dX6_goBack_210 : decode cX6_goBack 210 = .ok (.goto (-152), 3) := by decide +kernel
theorem dX6_goBack_213 : decode cX6_goBack 213 = .ok (.return_, 1) := by decide +kernel
set_option maxHeartbeats 4000000 in
theorem st_X6_goBack_207 {X : sj_X} {g : sj_G} {s0 : sj_Mem} {N : Nat} {q : Unit × sj_VV} {k58 : Nat → Int → Int → Int → sj_VV → Option (Unit × sj_VV)} (hk58 : ∀ (a0 : Nat) (x1 : Int) (x2 : Int) (x4 : Int) (V : sj_VV), OK6 g a0 → k58 a0 x1 x2 x4 V = some q → sj_T X m_X6_goBack s0 (none, (g, q.2)) 58 [some (sj_r (some a0)), some (sj_i x1), some (sj_j x2), none, some (sj_i x4), none, none, none] [] (g, V)) :
    ∀ (a0 : Nat) (x1 : Int) (x2 : Int) (x4 : Int) (V : sj_VV), OK6 g a0 → g_X6_goBack_207 N k58 a0 x1 x2 x4 V = some q → sj_T X m_X6_goBack s0 (none, (g, q.2)) 207 [some (sj_r (some a0)), some (sj_i x1), some (sj_j x2), none, some (sj_i x4), none, none, none] [] (g, V) := by
  intro a0 x1 x2 x4 V ha0 h
  unfold g_X6_goBack_207 at h
  refine r_iinc (ln := fun w => [some (sj_r (some a0)), some (sj_i x1), some (sj_j x2), none, some (sj_i w), none, none, none]) (pc := 207) h dX6_goBack_207 rfl (Nat.le_of_ble_eq_true rfl) (fun _ => rfl) (fun v1 h => ?_)
  refine r_goto (pc := 210) (tgt := 58) dX6_goBack_210 (by decide) ?_
  exact sj_weak (l2 := [some (sj_r (some a0)), some (sj_i x1), some (sj_j x2), none, some (sj_i v1), none, none, none]) (⟨rfl, ⟨rfl, ⟨rfl, ⟨rfl, trivial⟩⟩⟩⟩) (hk58 a0 x1 x2 v1 V ha0 h)
set_option maxHeartbeats 4000000 in
theorem st_X6_goBack_201 {X : sj_X} {g : sj_G} {s0 : sj_Mem} {N : Nat} {q : Unit × sj_VV} {k58 : Nat → Int → Int → Int → sj_VV → Option (Unit × sj_VV)} {k115 : Nat → Int → Int → Int → Int → Int → sj_VV → Option (Unit × sj_VV)} (hk58 : ∀ (a0 : Nat) (x1 : Int) (x2 : Int) (x4 : Int) (V : sj_VV), OK6 g a0 → k58 a0 x1 x2 x4 V = some q → sj_T X m_X6_goBack s0 (none, (g, q.2)) 58 [some (sj_r (some a0)), some (sj_i x1), some (sj_j x2), none, some (sj_i x4), none, none, none] [] (g, V)) (hk115 : ∀ (a0 : Nat) (x1 : Int) (x2 : Int) (x4 : Int) (x5 : Int) (x6 : Int) (V : sj_VV), OK6 g a0 → k115 a0 x1 x2 x4 x5 x6 V = some q → sj_T X m_X6_goBack s0 (none, (g, q.2)) 115 [some (sj_r (some a0)), some (sj_i x1), some (sj_j x2), none, some (sj_i x4), some (sj_i x5), some (sj_i x6), none] [] (g, V)) :
    ∀ (a0 : Nat) (x1 : Int) (x2 : Int) (x4 : Int) (x5 : Int) (x6 : Int) (V : sj_VV), OK6 g a0 → g_X6_goBack_201 N k58 k115 a0 x1 x2 x4 x5 x6 V = some q → sj_T X m_X6_goBack s0 (none, (g, q.2)) 201 [some (sj_r (some a0)), some (sj_i x1), some (sj_j x2), none, some (sj_i x4), some (sj_i x5), some (sj_i x6), none] [] (g, V) := by
  intro a0 x1 x2 x4 x5 x6 V ha0 h
  unfold g_X6_goBack_201 at h
  refine r_iinc (ln := fun w => [some (sj_r (some a0)), some (sj_i x1), some (sj_j x2), none, some (sj_i x4), some (sj_i x5), some (sj_i w), none]) (pc := 201) h dX6_goBack_201 rfl (Nat.le_of_ble_eq_true rfl) (fun _ => rfl) (fun v1 h => ?_)
  refine r_goto (pc := 204) (tgt := 115) dX6_goBack_204 (by decide) ?_
  exact sj_weak (l2 := [some (sj_r (some a0)), some (sj_i x1), some (sj_j x2), none, some (sj_i x4), some (sj_i x5), some (sj_i v1), none]) (⟨rfl, ⟨rfl, ⟨rfl, ⟨rfl, ⟨rfl, ⟨rfl, trivial⟩⟩⟩⟩⟩⟩) (hk115 a0 x1 x2 x4 x5 v1 V ha0 h)
set_option maxHeartbeats 4000000 in
theorem st_X6_goBack_115_b {X : sj_X} {g : sj_G} {s0 : sj_Mem} {N : Nat} {q : Unit × sj_VV} {k58 : Nat → Int → Int → Int → sj_VV → Option (Unit × sj_VV)} {k115 : Nat → Int → Int → Int → Int → Int → sj_VV → Option (Unit × sj_VV)} (hk58 : ∀ (a0 : Nat) (x1 : Int) (x2 : Int) (x4 : Int) (V : sj_VV), OK6 g a0 → k58 a0 x1 x2 x4 V = some q → sj_T X m_X6_goBack s0 (none, (g, q.2)) 58 [some (sj_r (some a0)), some (sj_i x1), some (sj_j x2), none, some (sj_i x4), none, none, none] [] (g, V)) (hk115 : ∀ (a0 : Nat) (x1 : Int) (x2 : Int) (x4 : Int) (x5 : Int) (x6 : Int) (V : sj_VV), OK6 g a0 → k115 a0 x1 x2 x4 x5 x6 V = some q → sj_T X m_X6_goBack s0 (none, (g, q.2)) 115 [some (sj_r (some a0)), some (sj_i x1), some (sj_j x2), none, some (sj_i x4), some (sj_i x5), some (sj_i x6), none] [] (g, V)) :
    ∀ (a0 : Nat) (x1 : Int) (x2 : Int) (x4 : Int) (x5 : Int) (x6 : Int) (V : sj_VV), OK6 g a0 → g_X6_goBack_115_b N k58 k115 a0 x1 x2 x4 x5 x6 V = some q → sj_T X m_X6_goBack s0 (none, (g, q.2)) 115 [some (sj_r (some a0)), some (sj_i x1), some (sj_j x2), none, some (sj_i x4), some (sj_i x5), some (sj_i x6), none] [] (g, V) := by
  intro a0 x1 x2 x4 x5 x6 V ha0 h
  unfold g_X6_goBack_115_b at h
  refine r_iload (pc := 115) dX6_goBack_115 rfl ?_
  refine r_iload (pc := 117) dX6_goBack_117 rfl ?_
  refine r_icmp_gt (pc := 119) (tgt := 207) h dX6_goBack_119 (by decide) (fun h => ?_) (fun h => ?_)
  · exact sj_weak (l2 := [some (sj_r (some a0)), some (sj_i x1), some (sj_j x2), none, some (sj_i x4), none, none, none]) (⟨rfl, ⟨rfl, ⟨rfl, ⟨rfl, trivial⟩⟩⟩⟩) (st_X6_goBack_207 hk58 a0 x1 x2 x4 V ha0 h)
  · refine r_iload (pc := 122) dX6_goBack_122 rfl ?_
    refine r_bipush (pc := 124) dX6_goBack_124 ⟨by decide, by decide⟩ ?_
    refine r_imul (pc := 126) dX6_goBack_126 ?_
    refine r_iload (pc := 127) dX6_goBack_127 rfl ?_
    refine r_iadd (pc := 129) dX6_goBack_129 ?_
    refine r_istoreL (ln := fun w => [some (sj_r (some a0)), some (sj_i x1), some (sj_j x2), none, some (sj_i x4), some (sj_i x5), some (sj_i x6), some (sj_i w)]) (pc := 130) h dX6_goBack_130 (Nat.le_of_ble_eq_true rfl) (fun _ => rfl) (fun v1 h => ?_)
    refine r_aload_n (pc := 132) dX6_goBack_132 rfl rfl ?_
    refine r_gRs (b := a0 + 2) (pc := 133) dX6_goBack_133 fw_X6_15 rfl (ok6 ha0) (ok6_1 ha0).1 ?_
    refine r_iload (pc := 136) dX6_goBack_136 rfl ?_
    refine r_ialoads (pc := 138) h dX6_goBack_138 (ok6_1 ha0).2 (fun h => ?_)
    refine r_aload_n (pc := 139) dX6_goBack_139 rfl rfl ?_
    refine r_gIs (pc := 140) dX6_goBack_140 fw_X6_57 rfl (ok6 ha0) ?_
    refine r_icmp_ne (pc := 143) (tgt := 201) h dX6_goBack_143 (by decide) (fun h => ?_) (fun h => ?_)
    · refine r_aload_n (pc := 146) dX6_goBack_146 rfl rfl ?_
      refine r_gRs (b := a0 + 1) (pc := 147) dX6_goBack_147 fw_X6_9 rfl (ok6 ha0) (ok6_0 ha0).1 ?_
      refine r_iload (pc := 150) dX6_goBack_150 rfl ?_
      refine r_laloads (pc := 152) h dX6_goBack_152 (ok6_0 ha0).2 (fun h => ?_)
      refine r_aload_n (pc := 153) dX6_goBack_153 rfl rfl ?_
      refine r_iload (pc := 154) dX6_goBack_154 rfl ?_
      refine r_iload (pc := 156) dX6_goBack_156 rfl ?_
      refine r_iload_n (pc := 158) dX6_goBack_158 rfl rfl ?_
      refine r_callVs (pc := 159) (fun v => some (sj_j v)) (As := [sj_i x4, sj_i x6, sj_i x1]) (rest := [(sj_j (V (a0 + 1) v1.toNat))]) (b := a0) (ok6 ha0) h dX6_goBack_159 mw_X6_112 vw_X6_leftOver (fun _ _ hc => cg_X6_leftOver ha0 hc) rfl ⟨(Nat.le_of_ble_eq_true rfl), (Nat.le_of_ble_eq_true rfl)⟩ (Nat.le_of_ble_eq_true rfl) rfl (fun v3 V2 h => ?_)
      refine r_ladd (pc := 162) dX6_goBack_162 ?_
      refine r_lload_n (pc := 163) dX6_goBack_163 rfl rfl ?_
      refine r_lne (pc := 164) (tgt := 201) h dX6_goBack_164 rfl dX6_goBack_165 (by decide) (fun h => ?_) (fun h => ?_)
      · refine r_aload_n (pc := 168) dX6_goBack_168 rfl rfl ?_
        refine r_gIs (pc := 169) dX6_goBack_169 fw_X6_116 rfl (ok6 ha0) ?_
        refine r_if_ne (pc := 172) (tgt := 201) h dX6_goBack_172 (by decide) (fun h => ?_) (fun h => ?_)
        · refine r_aload_n (pc := 175) dX6_goBack_175 rfl rfl ?_
          refine r_gRs (b := a0 + 5) (pc := 176) dX6_goBack_176 fw_X6_28 rfl (ok6 ha0) (ok6_4 ha0).1 ?_
          refine r_gRs (b := (a0 + 5) + 1) (pc := 179) dX6_goBack_179 fw_X6_149 rfl (ok5 (ok6_4 ha0).2) (ok5_0 (ok6_4 ha0).2).1 ?_
          refine r_iload (pc := 182) dX6_goBack_182 rfl ?_
          refine r_iload (pc := 184) dX6_goBack_184 rfl ?_
          refine r_iastores (pc := 186) h dX6_goBack_186 (ok5_0 (ok6_4 ha0).2).2 (fun V4 h => ?_)
          refine r_aload_n (pc := 187) dX6_goBack_187 rfl rfl ?_
          refine r_gRs (b := a0 + 1) (pc := 188) dX6_goBack_188 fw_X6_9 rfl (ok6 ha0) (ok6_0 ha0).1 ?_
          refine r_iload (pc := 191) dX6_goBack_191 rfl ?_
          refine r_laloads (pc := 193) h dX6_goBack_193 (ok6_0 ha0).2 (fun h => ?_)
          refine r_lstore_nL (ln := fun w => [some (sj_r (some a0)), some (sj_i x1), some (sj_j w), none, some (sj_i x4), some (sj_i x5), some (sj_i x6), some (sj_i v1)]) (pc := 194) h dX6_goBack_194 rfl (Nat.le_of_ble_eq_true rfl) (fun _ => rfl) (fun v5 h => ?_)
          refine r_iload (pc := 195) dX6_goBack_195 rfl ?_
          refine r_istore_n (ln := [some (sj_r (some a0)), some (sj_i x6), some (sj_j v5), none, some (sj_i x4), some (sj_i x5), some (sj_i x6), some (sj_i v1)]) (pc := 197) dX6_goBack_197 rfl (Nat.le_of_ble_eq_true rfl) rfl ?_
          refine r_goto (pc := 198) (tgt := 207) dX6_goBack_198 (by decide) ?_
          exact sj_weak (l2 := [some (sj_r (some a0)), some (sj_i x6), some (sj_j v5), none, some (sj_i x4), none, none, none]) (⟨rfl, ⟨rfl, ⟨rfl, ⟨rfl, trivial⟩⟩⟩⟩) (st_X6_goBack_207 hk58 a0 x6 v5 x4 V4 ha0 h)
        · exact sj_weak (l2 := [some (sj_r (some a0)), some (sj_i x1), some (sj_j x2), none, some (sj_i x4), some (sj_i x5), some (sj_i x6), none]) (⟨rfl, ⟨rfl, ⟨rfl, ⟨rfl, ⟨rfl, ⟨rfl, trivial⟩⟩⟩⟩⟩⟩) (st_X6_goBack_201 hk58 hk115 a0 x1 x2 x4 x5 x6 V2 ha0 h)
      · exact sj_weak (l2 := [some (sj_r (some a0)), some (sj_i x1), some (sj_j x2), none, some (sj_i x4), some (sj_i x5), some (sj_i x6), none]) (⟨rfl, ⟨rfl, ⟨rfl, ⟨rfl, ⟨rfl, ⟨rfl, trivial⟩⟩⟩⟩⟩⟩) (st_X6_goBack_201 hk58 hk115 a0 x1 x2 x4 x5 x6 V2 ha0 h)
    · exact sj_weak (l2 := [some (sj_r (some a0)), some (sj_i x1), some (sj_j x2), none, some (sj_i x4), some (sj_i x5), some (sj_i x6), none]) (⟨rfl, ⟨rfl, ⟨rfl, ⟨rfl, ⟨rfl, ⟨rfl, trivial⟩⟩⟩⟩⟩⟩) (st_X6_goBack_201 hk58 hk115 a0 x1 x2 x4 x5 x6 V ha0 h)
set_option maxHeartbeats 4000000 in
theorem st_X6_goBack_115 {X : sj_X} {g : sj_G} {s0 : sj_Mem} {N : Nat} {q : Unit × sj_VV} {k58 : Nat → Int → Int → Int → sj_VV → Option (Unit × sj_VV)} (hk58 : ∀ (a0 : Nat) (x1 : Int) (x2 : Int) (x4 : Int) (V : sj_VV), OK6 g a0 → k58 a0 x1 x2 x4 V = some q → sj_T X m_X6_goBack s0 (none, (g, q.2)) 58 [some (sj_r (some a0)), some (sj_i x1), some (sj_j x2), none, some (sj_i x4), none, none, none] [] (g, V)) :
    ∀ (n : Nat) (a0 : Nat) (x1 : Int) (x2 : Int) (x4 : Int) (x5 : Int) (x6 : Int) (V : sj_VV), OK6 g a0 → g_X6_goBack_115 N k58 n a0 x1 x2 x4 x5 x6 V = some q → sj_T X m_X6_goBack s0 (none, (g, q.2)) 115 [some (sj_r (some a0)), some (sj_i x1), some (sj_j x2), none, some (sj_i x4), some (sj_i x5), some (sj_i x6), none] [] (g, V) := by
  intro n
  induction n with
  | zero => intro a0 x1 x2 x4 x5 x6 V ha0 h; exact nomatch h
  | succ n ih => intro a0 x1 x2 x4 x5 x6 V ha0 h; exact st_X6_goBack_115_b (N := N) hk58 ih a0 x1 x2 x4 x5 x6 V ha0 h
set_option maxHeartbeats 4000000 in
theorem st_X6_goBack_58_b {X : sj_X} {g : sj_G} {s0 : sj_Mem} {N : Nat} {q : Unit × sj_VV} {k58 : Nat → Int → Int → Int → sj_VV → Option (Unit × sj_VV)} (hk58 : ∀ (a0 : Nat) (x1 : Int) (x2 : Int) (x4 : Int) (V : sj_VV), OK6 g a0 → k58 a0 x1 x2 x4 V = some q → sj_T X m_X6_goBack s0 (none, (g, q.2)) 58 [some (sj_r (some a0)), some (sj_i x1), some (sj_j x2), none, some (sj_i x4), none, none, none] [] (g, V)) :
    ∀ (a0 : Nat) (x1 : Int) (x2 : Int) (x4 : Int) (V : sj_VV), OK6 g a0 → g_X6_goBack_58_b N k58 a0 x1 x2 x4 V = some q → sj_T X m_X6_goBack s0 (none, (g, q.2)) 58 [some (sj_r (some a0)), some (sj_i x1), some (sj_j x2), none, some (sj_i x4), none, none, none] [] (g, V) := by
  intro a0 x1 x2 x4 V ha0 h
  unfold g_X6_goBack_58_b at h
  refine r_iload (pc := 58) dX6_goBack_58 rfl ?_
  refine r_aload_n (pc := 60) dX6_goBack_60 rfl rfl ?_
  refine r_gIs (pc := 61) dX6_goBack_61 fw_X6_57 rfl (ok6 ha0) ?_
  refine r_icmp_le (pc := 64) (tgt := 213) h dX6_goBack_64 (by decide) (fun h => ?_) (fun h => ?_)
  · exact r_vrets (pc := 213) h rfl dX6_goBack_213
  · refine r_aload_n (pc := 67) dX6_goBack_67 rfl rfl ?_
    refine r_iload (pc := 68) dX6_goBack_68 rfl ?_
    refine r_callVs (pc := 70) (fun _ => none) (As := [sj_i x4]) (rest := []) (b := a0) (ok6 ha0) h dX6_goBack_70 mw_X6_93 vw_X6_addTops (fun _ _ hc => cg_X6_addTops ha0 hc) rfl ⟨(Nat.le_of_ble_eq_true rfl), (Nat.le_of_ble_eq_true rfl)⟩ (Nat.le_of_ble_eq_true rfl) rfl (fun _u V1 h => ?_)
    refine r_aload_n (pc := 73) dX6_goBack_73 rfl rfl ?_
    refine r_gRs (b := 1) (pc := 74) dX6_goBack_74 fw_X6_32 rfl (ok6 ha0) (ok6_5 ha0).1 ?_
    refine r_gRs (b := 1 + 1) (pc := 77) dX6_goBack_77 fw_X6_75 rfl (ok0 (ok6_5 ha0).2) (ok0_3 (ok6_5 ha0).2).1 ?_
    refine r_iload (pc := 80) dX6_goBack_80 rfl ?_
    refine r_ialoads (pc := 82) h dX6_goBack_82 (ok0_3 (ok6_5 ha0).2).2 (fun h => ?_)
    refine r_iload_n (pc := 83) dX6_goBack_83 rfl rfl ?_
    refine r_aload_n (pc := 84) dX6_goBack_84 rfl rfl ?_
    refine r_gIs (pc := 85) dX6_goBack_85 fw_X6_36 rfl (ok6 ha0) ?_
    refine r_iadd (pc := 88) dX6_goBack_88 ?_
    refine r_mmin (pc := 89) h dX6_goBack_89 mx_X6_104 (Nat.le_of_ble_eq_true rfl) (Nat.le_of_ble_eq_true rfl) (fun v2 h => ?_)
    refine r_istore (ln := [some (sj_r (some a0)), some (sj_i x1), some (sj_j x2), none, some (sj_i x4), some (sj_i v2), none, none]) (pc := 92) dX6_goBack_92 (Nat.le_of_ble_eq_true rfl) rfl ?_
    refine r_aload_n (pc := 94) dX6_goBack_94 rfl rfl ?_
    refine r_gRs (b := 1) (pc := 95) dX6_goBack_95 fw_X6_32 rfl (ok6 ha0) (ok6_5 ha0).1 ?_
    refine r_gRs (b := 1 + 2) (pc := 98) dX6_goBack_98 fw_X6_72 rfl (ok0 (ok6_5 ha0).2) (ok0_4 (ok6_5 ha0).2).1 ?_
    refine r_iload (pc := 101) dX6_goBack_101 rfl ?_
    refine r_ialoads (pc := 103) h dX6_goBack_103 (ok0_4 (ok6_5 ha0).2).2 (fun h => ?_)
    refine r_iload_n (pc := 104) dX6_goBack_104 rfl rfl ?_
    refine r_aload_n (pc := 105) dX6_goBack_105 rfl rfl ?_
    refine r_gIs (pc := 106) dX6_goBack_106 fw_X6_36 rfl (ok6 ha0) ?_
    refine r_isub (pc := 109) dX6_goBack_109 ?_
    refine r_mmax (pc := 110) h dX6_goBack_110 mx_X6_109 (Nat.le_of_ble_eq_true rfl) (Nat.le_of_ble_eq_true rfl) (fun v3 h => ?_)
    refine r_istore (ln := [some (sj_r (some a0)), some (sj_i x1), some (sj_j x2), none, some (sj_i x4), some (sj_i v2), some (sj_i v3), none]) (pc := 113) dX6_goBack_113 (Nat.le_of_ble_eq_true rfl) rfl ?_
    exact sj_weak (l2 := [some (sj_r (some a0)), some (sj_i x1), some (sj_j x2), none, some (sj_i x4), some (sj_i v2), some (sj_i v3), none]) (⟨rfl, ⟨rfl, ⟨rfl, ⟨rfl, ⟨rfl, ⟨rfl, trivial⟩⟩⟩⟩⟩⟩) (st_X6_goBack_115 hk58 N a0 x1 x2 x4 v2 v3 V1 ha0 h)
set_option maxHeartbeats 4000000 in
theorem st_X6_goBack_58 {X : sj_X} {g : sj_G} {s0 : sj_Mem} {N : Nat} {q : Unit × sj_VV} :
    ∀ (n : Nat) (a0 : Nat) (x1 : Int) (x2 : Int) (x4 : Int) (V : sj_VV), OK6 g a0 → g_X6_goBack_58 N n a0 x1 x2 x4 V = some q → sj_T X m_X6_goBack s0 (none, (g, q.2)) 58 [some (sj_r (some a0)), some (sj_i x1), some (sj_j x2), none, some (sj_i x4), none, none, none] [] (g, V) := by
  intro n
  induction n with
  | zero => intro a0 x1 x2 x4 V ha0 h; exact nomatch h
  | succ n ih => intro a0 x1 x2 x4 V ha0 h; exact st_X6_goBack_58_b (N := N) ih a0 x1 x2 x4 V ha0 h
set_option maxHeartbeats 4000000 in
theorem st_X6_goBack_0 {X : sj_X} {g : sj_G} {s0 : sj_Mem} {N : Nat} {q : Unit × sj_VV} :
    ∀ (a0 : Nat) (V : sj_VV), OK6 g a0 → g_X6_goBack N a0 V = some q → sj_T X m_X6_goBack s0 (none, (g, q.2)) 0 [some (sj_r (some a0)), none, none, none, none, none, none, none] [] (g, V) := by
  intro a0 V ha0 h
  unfold g_X6_goBack at h
  refine r_aload_n (pc := 0) dX6_goBack_0 rfl rfl ?_
  refine r_gIs (pc := 1) dX6_goBack_1 fw_X6_57 rfl (ok6 ha0) ?_
  refine r_iconst (pc := 4) dX6_goBack_4 ?_
  refine r_icmp_ne (pc := 5) (tgt := 9) h dX6_goBack_5 (by decide) (fun h => ?_) (fun h => ?_)
  · exact r_vrets (pc := 8) h rfl dX6_goBack_8
  · refine r_aload_n (pc := 9) dX6_goBack_9 rfl rfl ?_
    refine r_gRs (b := a0 + 5) (pc := 10) dX6_goBack_10 fw_X6_28 rfl (ok6 ha0) (ok6_4 ha0).1 ?_
    refine r_aload_n (pc := 13) dX6_goBack_13 rfl rfl ?_
    refine r_gRs (b := 1) (pc := 14) dX6_goBack_14 fw_X6_32 rfl (ok6 ha0) (ok6_5 ha0).1 ?_
    refine r_aload_n (pc := 17) dX6_goBack_17 rfl rfl ?_
    refine r_gIs (pc := 18) dX6_goBack_18 fw_X6_57 rfl (ok6 ha0) ?_
    refine r_aload_n (pc := 21) dX6_goBack_21 rfl rfl ?_
    refine r_gIs (pc := 22) dX6_goBack_22 fw_X6_84 rfl (ok6 ha0) ?_
    refine r_aload_n (pc := 25) dX6_goBack_25 rfl rfl ?_
    refine r_gIs (pc := 26) dX6_goBack_26 fw_X6_40 rfl (ok6 ha0) ?_
    refine r_callVs (pc := 29) (fun _ => none) (As := [sj_r (some 1), sj_i (V a0 11), sj_i (V a0 12), sj_i (V a0 7)]) (rest := []) (b := (a0 + 5)) (ok5 (ok6_4 ha0).2) h dX6_goBack_29 mw_X6_145 vw_X5_span (fun _ _ hc => cg_X5_span (ok6_4 ha0).2 (ok6_5 ha0).2 hc) rfl ⟨(Nat.le_of_ble_eq_true rfl), (Nat.le_of_ble_eq_true rfl)⟩ (Nat.le_of_ble_eq_true rfl) rfl (fun _u V1 h => ?_)
    refine r_aload_n (pc := 32) dX6_goBack_32 rfl rfl ?_
    refine r_gRs (b := 1) (pc := 33) dX6_goBack_33 fw_X6_32 rfl (ok6 ha0) (ok6_5 ha0).1 ?_
    refine r_gRs (b := 1 + 1) (pc := 36) dX6_goBack_36 fw_X6_75 rfl (ok0 (ok6_5 ha0).2) (ok0_3 (ok6_5 ha0).2).1 ?_
    refine r_aload_n (pc := 39) dX6_goBack_39 rfl rfl ?_
    refine r_gIs (pc := 40) dX6_goBack_40 fw_X6_84 rfl (ok6 ha0) ?_
    refine r_ialoads (pc := 43) h dX6_goBack_43 (ok0_3 (ok6_5 ha0).2).2 (fun h => ?_)
    refine r_istore_nL (ln := fun w => [some (sj_r (some a0)), some (sj_i w), none, none, none, none, none, none]) (pc := 44) h dX6_goBack_44 rfl (Nat.le_of_ble_eq_true rfl) (fun _ => rfl) (fun v2 h => ?_)
    refine r_aload_n (pc := 45) dX6_goBack_45 rfl rfl ?_
    refine r_gJs (pc := 46) dX6_goBack_46 fw_X6_60 rfl (ok6 ha0) ?_
    refine r_lstore_nL (ln := fun w => [some (sj_r (some a0)), some (sj_i v2), some (sj_j w), none, none, none, none, none]) (pc := 49) h dX6_goBack_49 rfl (Nat.le_of_ble_eq_true rfl) (fun _ => rfl) (fun v3 h => ?_)
    refine r_aload_n (pc := 50) dX6_goBack_50 rfl rfl ?_
    refine r_gIs (pc := 51) dX6_goBack_51 fw_X6_84 rfl (ok6 ha0) ?_
    refine r_iconst (pc := 54) dX6_goBack_54 ?_
    refine r_isub (pc := 55) dX6_goBack_55 ?_
    refine r_istoreL (ln := fun w => [some (sj_r (some a0)), some (sj_i v2), some (sj_j v3), none, some (sj_i w), none, none, none]) (pc := 56) h dX6_goBack_56 (Nat.le_of_ble_eq_true rfl) (fun _ => rfl) (fun v4 h => ?_)
    exact sj_weak (l2 := [some (sj_r (some a0)), some (sj_i v2), some (sj_j v3), none, some (sj_i v4), none, none, none]) (⟨rfl, ⟨rfl, ⟨rfl, ⟨rfl, trivial⟩⟩⟩⟩) (st_X6_goBack_58 N a0 v2 v3 v4 V1 ha0 h)
set_option maxHeartbeats 4000000 in
theorem cg_X6_goBack {X : sj_X} {g : sj_G} {N : Nat} {a0 : Nat} {V : sj_VV} {q : Unit × sj_VV} (ha0 : OK6 g a0) (h : g_X6_goBack N a0 V = some q) : sj_C X m_X6_goBack [sj_r (some a0)] (g, V) (none, (g, q.2)) :=
  sj_C_of (by decide +kernel) (Nat.le_of_ble_eq_true rfl) (lo := [some (sj_r (some a0)), none, none, none, none, none, none, none]) rfl (sj_weak (l2 := [some (sj_r (some a0)), none, none, none, none, none, none, none]) (⟨rfl, trivial⟩) (st_X6_goBack_0 a0 V ha0 h))
set_option maxHeartbeats 4000000 in
theorem c_X6_goBack {X : sj_X} {N : Nat} {a0 : Nat} {s : sj_Mem} {q : Unit × sj_Mem} (h : f_X6_goBack N a0 s = some q) : sj_C X m_X6_goBack [sj_r (some a0)] s (none, q.2) := by
  obtain ⟨g, V⟩ := s
  unfold f_X6_goBack at h
  obtain ⟨ho, h1⟩ := e_ok_some h
  obtain ⟨q2, h2, rfl⟩ := sj_map_some h1
  exact cg_X6_goBack ho h2
theorem dX7_put_0 : decode cX7_put 0 = .ok (.bipush 24, 2) := by decide +kernel
theorem dX7_put_2 : decode cX7_put 2 = .ok (.istore_n 2, 1) := by decide +kernel
theorem dX7_put_3 : decode cX7_put 3 = .ok (.iload_n 2, 1) := by decide +kernel
theorem dX7_put_4 : decode cX7_put 4 = .ok (.ifCond .lt 45, 3) := by decide +kernel
theorem dX7_put_7 : decode cX7_put 7 = .ok (.aload_n 0, 1) := by decide +kernel
theorem dX7_put_8 : decode cX7_put 8 = .ok (.getfield 19, 3) := by decide +kernel
theorem dX7_put_11 : decode cX7_put 11 = .ok (.sipush 600, 3) := by decide +kernel
theorem dX7_put_14 : decode cX7_put 14 = .ok (.if_icmp .ge 35, 3) := by decide +kernel
theorem dX7_put_17 : decode cX7_put 17 = .ok (.aload_n 0, 1) := by decide +kernel
theorem dX7_put_18 : decode cX7_put 18 = .ok (.getfield 9, 3) := by decide +kernel
theorem dX7_put_21 : decode cX7_put 21 = .ok (.aload_n 0, 1) := by decide +kernel
theorem dX7_put_22 : decode cX7_put 22 = .ok (.getfield 19, 3) := by decide +kernel
theorem dX7_put_25 : decode cX7_put 25 = .ok (.iload_n 1, 1) := by decide +kernel
theorem dX7_put_26 : decode cX7_put 26 = .ok (.iload_n 2, 1) := by decide +kernel
theorem dX7_put_27 : decode cX7_put 27 = .ok (.iushr, 1) := by decide +kernel
theorem dX7_put_28 : decode cX7_put 28 = .ok (.sipush 255, 3) := by decide +kernel
theorem dX7_put_31 : decode cX7_put 31 = .ok (.iand, 1) := by decide +kernel
theorem dX7_put_32 : decode cX7_put 32 = .ok (.iastore, 1) := by decide +kernel
theorem dX7_put_33 : decode cX7_put 33 = .ok (.aload_n 0, 1) := by decide +kernel
theorem dX7_put_34 : decode cX7_put 34 = .ok (.dup, 1) := by decide +kernel
theorem dX7_put_35 : decode cX7_put 35 = .ok (.getfield 19, 3) := by decide +kernel
theorem dX7_put_38 : decode cX7_put 38 = .ok (.iconst 1, 1) := by decide +kernel
theorem dX7_put_39 : decode cX7_put 39 = .ok (.iadd, 1) := by decide +kernel
theorem dX7_put_40 : decode cX7_put 40 = .ok (.putfield 19, 3) := by decide +kernel
theorem dX7_put_43 : decode cX7_put 43 = .ok (.iinc 2 (-8), 3) := by decide +kernel
theorem dX7_put_46 : decode cX7_put 46 = .ok (.goto (-43), 3) := by decide +kernel
theorem dX7_put_49 : decode cX7_put 49 = .ok (.return_, 1) := by decide +kernel
set_option maxHeartbeats 4000000 in
theorem st_X7_put_3_b {X : sj_X} {g : sj_G} {s0 : sj_Mem} {N : Nat} {q : Unit × sj_VV} {k3 : Nat → Int → Int → sj_VV → Option (Unit × sj_VV)} (hk3 : ∀ (a0 : Nat) (x1 : Int) (x2 : Int) (V : sj_VV), OK7 g a0 → k3 a0 x1 x2 V = some q → sj_T X m_X7_put s0 (none, (g, q.2)) 3 [some (sj_r (some a0)), some (sj_i x1), some (sj_i x2)] [] (g, V)) :
    ∀ (a0 : Nat) (x1 : Int) (x2 : Int) (V : sj_VV), OK7 g a0 → g_X7_put_3_b N k3 a0 x1 x2 V = some q → sj_T X m_X7_put s0 (none, (g, q.2)) 3 [some (sj_r (some a0)), some (sj_i x1), some (sj_i x2)] [] (g, V) := by
  intro a0 x1 x2 V ha0 h
  unfold g_X7_put_3_b at h
  refine r_iload_n (pc := 3) dX7_put_3 rfl rfl ?_
  refine r_if_lt (pc := 4) (tgt := 49) h dX7_put_4 (by decide) (fun h => ?_) (fun h => ?_)
  · exact r_vrets (pc := 49) h rfl dX7_put_49
  · refine r_aload_n (pc := 7) dX7_put_7 rfl rfl ?_
    refine r_gIs (pc := 8) dX7_put_8 fw_X7_19 rfl (ok7 ha0) ?_
    refine r_sipush (pc := 11) dX7_put_11 ⟨by decide, by decide⟩ ?_
    refine r_icmp_ge (pc := 14) (tgt := 49) h dX7_put_14 (by decide) (fun h => ?_) (fun h => ?_)
    · exact r_vrets (pc := 49) h rfl dX7_put_49
    · refine r_aload_n (pc := 17) dX7_put_17 rfl rfl ?_
      refine r_gRs (b := a0 + 1) (pc := 18) dX7_put_18 fw_X7_9 rfl (ok7 ha0) (ok7_0 ha0).1 ?_
      refine r_aload_n (pc := 21) dX7_put_21 rfl rfl ?_
      refine r_gIs (pc := 22) dX7_put_22 fw_X7_19 rfl (ok7 ha0) ?_
      refine r_iload_n (pc := 25) dX7_put_25 rfl rfl ?_
      refine r_iload_n (pc := 26) dX7_put_26 rfl rfl ?_
      refine r_iushr (pc := 27) h dX7_put_27 (fun v1 h => ?_)
      refine r_sipush (pc := 28) dX7_put_28 ⟨by decide, by decide⟩ ?_
      refine r_iand (pc := 31) dX7_put_31 ?_
      refine r_iastores (pc := 32) h dX7_put_32 (ok7_0 ha0).2 (fun V2 h => ?_)
      refine r_aload_n (pc := 33) dX7_put_33 rfl rfl ?_
      refine r_dup (pc := 34) dX7_put_34 rfl ?_
      refine r_gIs (pc := 35) dX7_put_35 fw_X7_19 rfl (ok7 ha0) ?_
      refine r_iconst (pc := 38) dX7_put_38 ?_
      refine r_iadd (pc := 39) dX7_put_39 ?_
      refine r_pIs (pc := 40) h dX7_put_40 fw_X7_19 rfl rfl (nf7_1) (ok7 ha0) (fun V3 h => ?_)
      refine r_iinc (ln := fun w => [some (sj_r (some a0)), some (sj_i x1), some (sj_i w)]) (pc := 43) h dX7_put_43 rfl (Nat.le_of_ble_eq_true rfl) (fun _ => rfl) (fun v4 h => ?_)
      refine r_goto (pc := 46) (tgt := 3) dX7_put_46 (by decide) ?_
      exact sj_weak (l2 := [some (sj_r (some a0)), some (sj_i x1), some (sj_i v4)]) (⟨rfl, ⟨rfl, ⟨rfl, trivial⟩⟩⟩) (hk3 a0 x1 v4 V3 ha0 h)
set_option maxHeartbeats 4000000 in
theorem st_X7_put_3 {X : sj_X} {g : sj_G} {s0 : sj_Mem} {N : Nat} {q : Unit × sj_VV} :
    ∀ (n : Nat) (a0 : Nat) (x1 : Int) (x2 : Int) (V : sj_VV), OK7 g a0 → g_X7_put_3 N n a0 x1 x2 V = some q → sj_T X m_X7_put s0 (none, (g, q.2)) 3 [some (sj_r (some a0)), some (sj_i x1), some (sj_i x2)] [] (g, V) := by
  intro n
  induction n with
  | zero => intro a0 x1 x2 V ha0 h; exact nomatch h
  | succ n ih => intro a0 x1 x2 V ha0 h; exact st_X7_put_3_b (N := N) ih a0 x1 x2 V ha0 h
set_option maxHeartbeats 4000000 in
theorem st_X7_put_0 {X : sj_X} {g : sj_G} {s0 : sj_Mem} {N : Nat} {q : Unit × sj_VV} :
    ∀ (a0 : Nat) (x1 : Int) (V : sj_VV), OK7 g a0 → g_X7_put N a0 x1 V = some q → sj_T X m_X7_put s0 (none, (g, q.2)) 0 [some (sj_r (some a0)), some (sj_i x1), none] [] (g, V) := by
  intro a0 x1 V ha0 h
  unfold g_X7_put at h
  refine r_bipush (pc := 0) dX7_put_0 ⟨by decide, by decide⟩ ?_
  refine r_istore_n (ln := [some (sj_r (some a0)), some (sj_i x1), some (sj_i 24)]) (pc := 2) dX7_put_2 rfl (Nat.le_of_ble_eq_true rfl) rfl ?_
  exact sj_weak (l2 := [some (sj_r (some a0)), some (sj_i x1), some (sj_i 24)]) (⟨rfl, ⟨rfl, ⟨rfl, trivial⟩⟩⟩) (st_X7_put_3 N a0 x1 24 V ha0 h)
set_option maxHeartbeats 4000000 in
theorem cg_X7_put {X : sj_X} {g : sj_G} {N : Nat} {a0 : Nat} {x1 : Int} {V : sj_VV} {q : Unit × sj_VV} (ha0 : OK7 g a0) (h : g_X7_put N a0 x1 V = some q) : sj_C X m_X7_put [sj_r (some a0), sj_i x1] (g, V) (none, (g, q.2)) :=
  sj_C_of (by decide +kernel) (Nat.le_of_ble_eq_true rfl) (lo := [some (sj_r (some a0)), some (sj_i x1), none]) rfl (sj_weak (l2 := [some (sj_r (some a0)), some (sj_i x1), none]) (⟨rfl, ⟨rfl, trivial⟩⟩) (st_X7_put_0 a0 x1 V ha0 h))
set_option maxHeartbeats 4000000 in
theorem c_X7_put {X : sj_X} {N : Nat} {a0 : Nat} {x1 : Int} {s : sj_Mem} {q : Unit × sj_Mem} (h : f_X7_put N a0 x1 s = some q) : sj_C X m_X7_put [sj_r (some a0), sj_i x1] s (none, q.2) := by
  obtain ⟨g, V⟩ := s
  unfold f_X7_put at h
  obtain ⟨ho, h1⟩ := e_ok_some h
  obtain ⟨q2, h2, rfl⟩ := sj_map_some h1
  exact cg_X7_put ho h2
theorem dX7_skip_0 : decode cX7_skip 0 = .ok (.aload_n 0, 1) := by decide +kernel
theorem dX7_skip_1 : decode cX7_skip 1 = .ok (.getfield 22, 3) := by decide +kernel
theorem dX7_skip_4 : decode cX7_skip 4 = .ok (.aload_n 0, 1) := by decide +kernel
theorem dX7_skip_5 : decode cX7_skip 5 = .ok (.getfield 19, 3) := by decide +kernel
theorem dX7_skip_8 : decode cX7_skip 8 = .ok (.if_icmp .ge 30, 3) := by decide +kernel
theorem dX7_skip_11 : decode cX7_skip 11 = .ok (.aload_n 0, 1) := by decide +kernel
theorem dX7_skip_12 : decode cX7_skip 12 = .ok (.getfield 9, 3) := by decide +kernel
theorem dX7_skip_15 : decode cX7_skip 15 = .ok (.aload_n 0, 1) := by decide +kernel
theorem dX7_skip_16 : decode cX7_skip 16 = .ok (.getfield 22, 3) := by decide +kernel
theorem dX7_skip_19 : decode cX7_skip 19 = .ok (.iaload, 1) := by decide +kernel
theorem dX7_skip_20 : decode cX7_skip 20 = .ok (.bipush 32, 2) := by decide +kernel
theorem dX7_skip_22 : decode cX7_skip 22 = .ok (.if_icmp .ne 16, 3) := by decide +kernel
theorem dX7_skip_25 : decode cX7_skip 25 = .ok (.aload_n 0, 1) := by decide +kernel
theorem dX7_skip_26 : decode cX7_skip 26 = .ok (.dup, 1) := by decide +kernel
theorem dX7_skip_27 : decode cX7_skip 27 = .ok (.getfield 22, 3) := by decide +kernel
theorem dX7_skip_30 : decode cX7_skip 30 = .ok (.iconst 1, 1) := by decide +kernel
theorem dX7_skip_31 : decode cX7_skip 31 = .ok (.iadd, 1) := by decide +kernel
theorem dX7_skip_32 : decode cX7_skip 32 = .ok (.putfield 22, 3) := by decide +kernel
theorem dX7_skip_35 : decode cX7_skip 35 = .ok (.goto (-35), 3) := by decide +kernel
theorem dX7_skip_38 : decode cX7_skip 38 = .ok (.return_, 1) := by decide +kernel
set_option maxHeartbeats 4000000 in
theorem st_X7_skip_0_b {X : sj_X} {g : sj_G} {s0 : sj_Mem} {N : Nat} {q : Unit × sj_VV} {k0 : Nat → sj_VV → Option (Unit × sj_VV)} (hk0 : ∀ (a0 : Nat) (V : sj_VV), OK7 g a0 → k0 a0 V = some q → sj_T X m_X7_skip s0 (none, (g, q.2)) 0 [some (sj_r (some a0))] [] (g, V)) :
    ∀ (a0 : Nat) (V : sj_VV), OK7 g a0 → g_X7_skip_0_b N k0 a0 V = some q → sj_T X m_X7_skip s0 (none, (g, q.2)) 0 [some (sj_r (some a0))] [] (g, V) := by
  intro a0 V ha0 h
  unfold g_X7_skip_0_b at h
  refine r_aload_n (pc := 0) dX7_skip_0 rfl rfl ?_
  refine r_gIs (pc := 1) dX7_skip_1 fw_X7_22 rfl (ok7 ha0) ?_
  refine r_aload_n (pc := 4) dX7_skip_4 rfl rfl ?_
  refine r_gIs (pc := 5) dX7_skip_5 fw_X7_19 rfl (ok7 ha0) ?_
  refine r_icmp_ge (pc := 8) (tgt := 38) h dX7_skip_8 (by decide) (fun h => ?_) (fun h => ?_)
  · exact r_vrets (pc := 38) h rfl dX7_skip_38
  · refine r_aload_n (pc := 11) dX7_skip_11 rfl rfl ?_
    refine r_gRs (b := a0 + 1) (pc := 12) dX7_skip_12 fw_X7_9 rfl (ok7 ha0) (ok7_0 ha0).1 ?_
    refine r_aload_n (pc := 15) dX7_skip_15 rfl rfl ?_
    refine r_gIs (pc := 16) dX7_skip_16 fw_X7_22 rfl (ok7 ha0) ?_
    refine r_ialoads (pc := 19) h dX7_skip_19 (ok7_0 ha0).2 (fun h => ?_)
    refine r_bipush (pc := 20) dX7_skip_20 ⟨by decide, by decide⟩ ?_
    refine r_icmp_ne (pc := 22) (tgt := 38) h dX7_skip_22 (by decide) (fun h => ?_) (fun h => ?_)
    · refine r_aload_n (pc := 25) dX7_skip_25 rfl rfl ?_
      refine r_dup (pc := 26) dX7_skip_26 rfl ?_
      refine r_gIs (pc := 27) dX7_skip_27 fw_X7_22 rfl (ok7 ha0) ?_
      refine r_iconst (pc := 30) dX7_skip_30 ?_
      refine r_iadd (pc := 31) dX7_skip_31 ?_
      refine r_pIs (pc := 32) h dX7_skip_32 fw_X7_22 rfl rfl (nf7_2) (ok7 ha0) (fun V1 h => ?_)
      refine r_goto (pc := 35) (tgt := 0) dX7_skip_35 (by decide) ?_
      exact sj_weak (l2 := [some (sj_r (some a0))]) (⟨rfl, trivial⟩) (hk0 a0 V1 ha0 h)
    · exact r_vrets (pc := 38) h rfl dX7_skip_38
set_option maxHeartbeats 4000000 in
theorem st_X7_skip_0 {X : sj_X} {g : sj_G} {s0 : sj_Mem} {N : Nat} {q : Unit × sj_VV} :
    ∀ (n : Nat) (a0 : Nat) (V : sj_VV), OK7 g a0 → g_X7_skip_0 N n a0 V = some q → sj_T X m_X7_skip s0 (none, (g, q.2)) 0 [some (sj_r (some a0))] [] (g, V) := by
  intro n
  induction n with
  | zero => intro a0 V ha0 h; exact nomatch h
  | succ n ih => intro a0 V ha0 h; exact st_X7_skip_0_b (N := N) ih a0 V ha0 h
set_option maxHeartbeats 4000000 in
theorem cg_X7_skip {X : sj_X} {g : sj_G} {N : Nat} {a0 : Nat} {V : sj_VV} {q : Unit × sj_VV} (ha0 : OK7 g a0) (h : g_X7_skip N a0 V = some q) : sj_C X m_X7_skip [sj_r (some a0)] (g, V) (none, (g, q.2)) :=
  sj_C_of (by decide +kernel) (Nat.le_of_ble_eq_true rfl) (lo := [some (sj_r (some a0))]) rfl (sj_weak (l2 := [some (sj_r (some a0))]) (⟨rfl, trivial⟩) (st_X7_skip_0 N a0 V ha0 h))
set_option maxHeartbeats 4000000 in
theorem c_X7_skip {X : sj_X} {N : Nat} {a0 : Nat} {s : sj_Mem} {q : Unit × sj_Mem} (h : f_X7_skip N a0 s = some q) : sj_C X m_X7_skip [sj_r (some a0)] s (none, q.2) := by
  obtain ⟨g, V⟩ := s
  unfold f_X7_skip at h
  obtain ⟨ho, h1⟩ := e_ok_some h
  obtain ⟨q2, h2, rfl⟩ := sj_map_some h1
  exact cg_X7_skip ho h2
theorem dX7_seesFrom_0 : decode cX7_seesFrom 0 = .ok (.aload_n 0, 1) := by decide +kernel
theorem dX7_seesFrom_1 : decode cX7_seesFrom 1 = .ok (.getfield 22, 3) := by decide +kernel
theorem dX7_seesFrom_4 : decode cX7_seesFrom 4 = .ok (.aload_n 0, 1) := by decide +kernel
theorem dX7_seesFrom_5 : decode cX7_seesFrom 5 = .ok (.getfield 19, 3) := by decide +kernel
theorem dX7_seesFrom_8 : decode cX7_seesFrom 8 = .ok (.if_icmp .ge 33, 3) := by decide +kernel
theorem dX7_seesFrom_11 : decode cX7_seesFrom 11 = .ok (.aload_n 0, 1) := by decide +kernel
theorem dX7_seesFrom_12 : decode cX7_seesFrom 12 = .ok (.getfield 9, 3) := by decide +kernel
theorem dX7_seesFrom_15 : decode cX7_seesFrom 15 = .ok (.aload_n 0, 1) := by decide +kernel
theorem dX7_seesFrom_16 : decode cX7_seesFrom 16 = .ok (.getfield 22, 3) := by decide +kernel
theorem dX7_seesFrom_19 : decode cX7_seesFrom 19 = .ok (.iaload, 1) := by decide +kernel
theorem dX7_seesFrom_20 : decode cX7_seesFrom 20 = .ok (.iload_n 1, 1) := by decide +kernel
theorem dX7_seesFrom_21 : decode cX7_seesFrom 21 = .ok (.if_icmp .lt 20, 3) := by decide +kernel
theorem dX7_seesFrom_24 : decode cX7_seesFrom 24 = .ok (.aload_n 0, 1) := by decide +kernel
theorem dX7_seesFrom_25 : decode cX7_seesFrom 25 = .ok (.getfield 9, 3) := by decide +kernel
theorem dX7_seesFrom_28 : decode cX7_seesFrom 28 = .ok (.aload_n 0, 1) := by decide +kernel
theorem dX7_seesFrom_29 : decode cX7_seesFrom 29 = .ok (.getfield 22, 3) := by decide +kernel
theorem dX7_seesFrom_32 : decode cX7_seesFrom 32 = .ok (.iaload, 1) := by decide +kernel
theorem dX7_seesFrom_33 : decode cX7_seesFrom 33 = .ok (.iload_n 2, 1) := by decide +kernel
theorem dX7_seesFrom_34 : decode cX7_seesFrom 34 = .ok (.if_icmp .gt 7, 3) := by decide +kernel
theorem dX7_seesFrom_37 : decode cX7_seesFrom 37 = .ok (.iconst 1, 1) := by decide +kernel
theorem dX7_seesFrom_38 : decode cX7_seesFrom 38 = .ok (.goto 4, 3) := by decide +kernel
theorem dX7_seesFrom_41 : decode cX7_seesFrom 41 = .ok (.iconst 0, 1) := by decide +kernel
theorem dX7_seesFrom_42 : decode cX7_seesFrom 42 = .ok (.ireturn, 1) := by decide +kernel
set_option maxHeartbeats 4000000 in
theorem st_X7_seesFrom_0 {X : sj_X} {g : sj_G} {s0 : sj_Mem} {N : Nat} {q : Int × sj_VV} :
    ∀ (a0 : Nat) (x1 : Int) (x2 : Int) (V : sj_VV), OK7 g a0 → g_X7_seesFrom N a0 x1 x2 V = some q → sj_T X m_X7_seesFrom s0 (some (sj_i q.1), (g, q.2)) 0 [some (sj_r (some a0)), some (sj_i x1), some (sj_i x2)] [] (g, V) := by
  intro a0 x1 x2 V ha0 h
  unfold g_X7_seesFrom at h
  refine r_aload_n (pc := 0) dX7_seesFrom_0 rfl rfl ?_
  refine r_gIs (pc := 1) dX7_seesFrom_1 fw_X7_22 rfl (ok7 ha0) ?_
  refine r_aload_n (pc := 4) dX7_seesFrom_4 rfl rfl ?_
  refine r_gIs (pc := 5) dX7_seesFrom_5 fw_X7_19 rfl (ok7 ha0) ?_
  refine r_icmp_ge (pc := 8) (tgt := 41) h dX7_seesFrom_8 (by decide) (fun h => ?_) (fun h => ?_)
  · refine r_iconst (pc := 41) dX7_seesFrom_41 ?_
    exact r_zrets (pc := 42) h rfl dX7_seesFrom_42
  · refine r_aload_n (pc := 11) dX7_seesFrom_11 rfl rfl ?_
    refine r_gRs (b := a0 + 1) (pc := 12) dX7_seesFrom_12 fw_X7_9 rfl (ok7 ha0) (ok7_0 ha0).1 ?_
    refine r_aload_n (pc := 15) dX7_seesFrom_15 rfl rfl ?_
    refine r_gIs (pc := 16) dX7_seesFrom_16 fw_X7_22 rfl (ok7 ha0) ?_
    refine r_ialoads (pc := 19) h dX7_seesFrom_19 (ok7_0 ha0).2 (fun h => ?_)
    refine r_iload_n (pc := 20) dX7_seesFrom_20 rfl rfl ?_
    refine r_icmp_lt (pc := 21) (tgt := 41) h dX7_seesFrom_21 (by decide) (fun h => ?_) (fun h => ?_)
    · refine r_iconst (pc := 41) dX7_seesFrom_41 ?_
      exact r_zrets (pc := 42) h rfl dX7_seesFrom_42
    · refine r_aload_n (pc := 24) dX7_seesFrom_24 rfl rfl ?_
      refine r_gRs (b := a0 + 1) (pc := 25) dX7_seesFrom_25 fw_X7_9 rfl (ok7 ha0) (ok7_0 ha0).1 ?_
      refine r_aload_n (pc := 28) dX7_seesFrom_28 rfl rfl ?_
      refine r_gIs (pc := 29) dX7_seesFrom_29 fw_X7_22 rfl (ok7 ha0) ?_
      refine r_ialoads (pc := 32) h dX7_seesFrom_32 (ok7_0 ha0).2 (fun h => ?_)
      refine r_iload_n (pc := 33) dX7_seesFrom_33 rfl rfl ?_
      refine r_icmp_gt (pc := 34) (tgt := 41) h dX7_seesFrom_34 (by decide) (fun h => ?_) (fun h => ?_)
      · refine r_iconst (pc := 41) dX7_seesFrom_41 ?_
        exact r_zrets (pc := 42) h rfl dX7_seesFrom_42
      · refine r_iconst (pc := 37) dX7_seesFrom_37 ?_
        refine r_goto (pc := 38) (tgt := 42) dX7_seesFrom_38 (by decide) ?_
        exact r_zrets (pc := 42) h rfl dX7_seesFrom_42
set_option maxHeartbeats 4000000 in
theorem cg_X7_seesFrom {X : sj_X} {g : sj_G} {N : Nat} {a0 : Nat} {x1 : Int} {x2 : Int} {V : sj_VV} {q : Int × sj_VV} (ha0 : OK7 g a0) (h : g_X7_seesFrom N a0 x1 x2 V = some q) : sj_C X m_X7_seesFrom [sj_r (some a0), sj_i x1, sj_i x2] (g, V) (some (sj_i q.1), (g, q.2)) :=
  sj_C_of (by decide +kernel) (Nat.le_of_ble_eq_true rfl) (lo := [some (sj_r (some a0)), some (sj_i x1), some (sj_i x2)]) rfl (sj_weak (l2 := [some (sj_r (some a0)), some (sj_i x1), some (sj_i x2)]) (⟨rfl, ⟨rfl, ⟨rfl, trivial⟩⟩⟩) (st_X7_seesFrom_0 a0 x1 x2 V ha0 h))
set_option maxHeartbeats 4000000 in
theorem c_X7_seesFrom {X : sj_X} {N : Nat} {a0 : Nat} {x1 : Int} {x2 : Int} {s : sj_Mem} {q : Int × sj_Mem} (h : f_X7_seesFrom N a0 x1 x2 s = some q) : sj_C X m_X7_seesFrom [sj_r (some a0), sj_i x1, sj_i x2] s (some (sj_i q.1), q.2) := by
  obtain ⟨g, V⟩ := s
  unfold f_X7_seesFrom at h
  obtain ⟨ho, h1⟩ := e_ok_some h
  obtain ⟨q2, h2, rfl⟩ := sj_map_some h1
  exact cg_X7_seesFrom ho h2
theorem dX7_readWord_0 : decode cX7_readWord 0 = .ok (.aload_n 0, 1) := by decide +kernel
theorem dX7_readWord_1 : decode cX7_readWord 1 = .ok (.aload_n 0, 1) := by decide +kernel
theorem dX7_readWord_2 : decode cX7_readWord 2 = .ok (.getfield 22, 3) := by decide +kernel
theorem dX7_readWord_5 : decode cX7_readWord 5 = .ok (.putfield 55, 3) := by decide +kernel
theorem dX7_readWord_8 : decode cX7_readWord 8 = .ok (.aload_n 0, 1) := by decide +kernel
theorem dX7_readWord_9 : decode cX7_readWord 9 = .ok (.bipush 97, 2) := by decide +kernel
theorem dX7_readWord_11 : decode cX7_readWord 11 = .ok (.bipush 122, 2) := by decide +kernel
theorem dX7_readWord_13 : decode cX7_readWord 13 = .ok (.invokevirtual 58, 3) := by decide +kernel
theorem dX7_readWord_16 : decode cX7_readWord 16 = .ok (.ifCond .eq 27, 3) := by decide +kernel
theorem dX7_readWord_19 : decode cX7_readWord 19 = .ok (.aload_n 0, 1) := by decide +kernel
theorem dX7_readWord_20 : decode cX7_readWord 20 = .ok (.getfield 22, 3) := by decide +kernel
theorem dX7_readWord_23 : decode cX7_readWord 23 = .ok (.aload_n 0, 1) := by decide +kernel
theorem dX7_readWord_24 : decode cX7_readWord 24 = .ok (.getfield 19, 3) := by decide +kernel
theorem dX7_readWord_27 : decode cX7_readWord 27 = .ok (.if_icmp .ge 16, 3) := by decide +kernel
theorem dX7_readWord_30 : decode cX7_readWord 30 = .ok (.aload_n 0, 1) := by decide +kernel
theorem dX7_readWord_31 : decode cX7_readWord 31 = .ok (.dup, 1) := by decide +kernel
theorem dX7_readWord_32 : decode cX7_readWord 32 = .ok (.getfield 22, 3) := by decide +kernel
theorem dX7_readWord_35 : decode cX7_readWord 35 = .ok (.iconst 1, 1) := by decide +kernel
theorem dX7_readWord_36 : decode cX7_readWord 36 = .ok (.iadd, 1) := by decide +kernel
theorem dX7_readWord_37 : decode cX7_readWord 37 = .ok (.putfield 22, 3) := by decide +kernel
theorem dX7_readWord_40 : decode cX7_readWord 40 = .ok (.goto (-32), 3) := by decide +kernel
theorem dX7_readWord_43 : decode cX7_readWord 43 = .ok (.aload_n 0, 1) := by decide +kernel
theorem dX7_readWord_44 : decode cX7_readWord 44 = .ok (.aload_n 0, 1) := by decide +kernel
theorem dX7_readWord_45 : decode cX7_readWord 45 = .ok (.getfield 22, 3) := by decide +kernel
theorem dX7_readWord_48 : decode cX7_readWord 48 = .ok (.putfield 68, 3) := by decide +kernel
theorem dX7_readWord_51 : decode cX7_readWord 51 = .ok (.aload_n 0, 1) := by decide +kernel
theorem dX7_readWord_52 : decode cX7_readWord 52 = .ok (.invokevirtual 31, 3) := by decide +kernel
theorem dX7_readWord_55 : decode cX7_readWord 55 = .ok (.return_, 1) := by decide +kernel
set_option maxHeartbeats 4000000 in
theorem st_X7_readWord_43 {X : sj_X} {g : sj_G} {s0 : sj_Mem} {N : Nat} {q : Unit × sj_VV} :
    ∀ (a0 : Nat) (V : sj_VV), OK7 g a0 → g_X7_readWord_43 N a0 V = some q → sj_T X m_X7_readWord s0 (none, (g, q.2)) 43 [some (sj_r (some a0))] [] (g, V) := by
  intro a0 V ha0 h
  unfold g_X7_readWord_43 at h
  refine r_aload_n (pc := 43) dX7_readWord_43 rfl rfl ?_
  refine r_aload_n (pc := 44) dX7_readWord_44 rfl rfl ?_
  refine r_gIs (pc := 45) dX7_readWord_45 fw_X7_22 rfl (ok7 ha0) ?_
  refine r_pIs (pc := 48) h dX7_readWord_48 fw_X7_68 rfl rfl (nf7_6) (ok7 ha0) (fun V1 h => ?_)
  refine r_aload_n (pc := 51) dX7_readWord_51 rfl rfl ?_
  refine r_callVs (pc := 52) (fun _ => none) (As := []) (rest := []) (b := a0) (ok7 ha0) h dX7_readWord_52 mw_X7_31 vw_X7_skip (fun _ _ hc => cg_X7_skip ha0 hc) rfl ⟨(Nat.le_of_ble_eq_true rfl), (Nat.le_of_ble_eq_true rfl)⟩ (Nat.le_of_ble_eq_true rfl) rfl (fun _u V2 h => ?_)
  exact r_vrets (pc := 55) h rfl dX7_readWord_55
set_option maxHeartbeats 4000000 in
theorem st_X7_readWord_8_b {X : sj_X} {g : sj_G} {s0 : sj_Mem} {N : Nat} {q : Unit × sj_VV} {k8 : Nat → sj_VV → Option (Unit × sj_VV)} (hk8 : ∀ (a0 : Nat) (V : sj_VV), OK7 g a0 → k8 a0 V = some q → sj_T X m_X7_readWord s0 (none, (g, q.2)) 8 [some (sj_r (some a0))] [] (g, V)) :
    ∀ (a0 : Nat) (V : sj_VV), OK7 g a0 → g_X7_readWord_8_b N k8 a0 V = some q → sj_T X m_X7_readWord s0 (none, (g, q.2)) 8 [some (sj_r (some a0))] [] (g, V) := by
  intro a0 V ha0 h
  unfold g_X7_readWord_8_b at h
  refine r_aload_n (pc := 8) dX7_readWord_8 rfl rfl ?_
  refine r_bipush (pc := 9) dX7_readWord_9 ⟨by decide, by decide⟩ ?_
  refine r_bipush (pc := 11) dX7_readWord_11 ⟨by decide, by decide⟩ ?_
  refine r_callVs (pc := 13) (fun v => some (sj_i v)) (As := [sj_i 97, sj_i 122]) (rest := []) (b := a0) (ok7 ha0) h dX7_readWord_13 mw_X7_58 vw_X7_seesFrom (fun _ _ hc => cg_X7_seesFrom ha0 hc) rfl ⟨(Nat.le_of_ble_eq_true rfl), (Nat.le_of_ble_eq_true rfl)⟩ (Nat.le_of_ble_eq_true rfl) rfl (fun v2 V1 h => ?_)
  refine r_if_eq (pc := 16) (tgt := 43) h dX7_readWord_16 (by decide) (fun h => ?_) (fun h => ?_)
  · exact sj_weak (l2 := [some (sj_r (some a0))]) (⟨rfl, trivial⟩) (st_X7_readWord_43 a0 V1 ha0 h)
  · refine r_aload_n (pc := 19) dX7_readWord_19 rfl rfl ?_
    refine r_gIs (pc := 20) dX7_readWord_20 fw_X7_22 rfl (ok7 ha0) ?_
    refine r_aload_n (pc := 23) dX7_readWord_23 rfl rfl ?_
    refine r_gIs (pc := 24) dX7_readWord_24 fw_X7_19 rfl (ok7 ha0) ?_
    refine r_icmp_ge (pc := 27) (tgt := 43) h dX7_readWord_27 (by decide) (fun h => ?_) (fun h => ?_)
    · exact sj_weak (l2 := [some (sj_r (some a0))]) (⟨rfl, trivial⟩) (st_X7_readWord_43 a0 V1 ha0 h)
    · refine r_aload_n (pc := 30) dX7_readWord_30 rfl rfl ?_
      refine r_dup (pc := 31) dX7_readWord_31 rfl ?_
      refine r_gIs (pc := 32) dX7_readWord_32 fw_X7_22 rfl (ok7 ha0) ?_
      refine r_iconst (pc := 35) dX7_readWord_35 ?_
      refine r_iadd (pc := 36) dX7_readWord_36 ?_
      refine r_pIs (pc := 37) h dX7_readWord_37 fw_X7_22 rfl rfl (nf7_2) (ok7 ha0) (fun V3 h => ?_)
      refine r_goto (pc := 40) (tgt := 8) dX7_readWord_40 (by decide) ?_
      exact sj_weak (l2 := [some (sj_r (some a0))]) (⟨rfl, trivial⟩) (hk8 a0 V3 ha0 h)
set_option maxHeartbeats 4000000 in
theorem st_X7_readWord_8 {X : sj_X} {g : sj_G} {s0 : sj_Mem} {N : Nat} {q : Unit × sj_VV} :
    ∀ (n : Nat) (a0 : Nat) (V : sj_VV), OK7 g a0 → g_X7_readWord_8 N n a0 V = some q → sj_T X m_X7_readWord s0 (none, (g, q.2)) 8 [some (sj_r (some a0))] [] (g, V) := by
  intro n
  induction n with
  | zero => intro a0 V ha0 h; exact nomatch h
  | succ n ih => intro a0 V ha0 h; exact st_X7_readWord_8_b (N := N) ih a0 V ha0 h
set_option maxHeartbeats 4000000 in
theorem st_X7_readWord_0 {X : sj_X} {g : sj_G} {s0 : sj_Mem} {N : Nat} {q : Unit × sj_VV} :
    ∀ (a0 : Nat) (V : sj_VV), OK7 g a0 → g_X7_readWord N a0 V = some q → sj_T X m_X7_readWord s0 (none, (g, q.2)) 0 [some (sj_r (some a0))] [] (g, V) := by
  intro a0 V ha0 h
  unfold g_X7_readWord at h
  refine r_aload_n (pc := 0) dX7_readWord_0 rfl rfl ?_
  refine r_aload_n (pc := 1) dX7_readWord_1 rfl rfl ?_
  refine r_gIs (pc := 2) dX7_readWord_2 fw_X7_22 rfl (ok7 ha0) ?_
  refine r_pIs (pc := 5) h dX7_readWord_5 fw_X7_55 rfl rfl (nf7_5) (ok7 ha0) (fun V1 h => ?_)
  exact sj_weak (l2 := [some (sj_r (some a0))]) (⟨rfl, trivial⟩) (st_X7_readWord_8 N a0 V1 ha0 h)
set_option maxHeartbeats 4000000 in
theorem cg_X7_readWord {X : sj_X} {g : sj_G} {N : Nat} {a0 : Nat} {V : sj_VV} {q : Unit × sj_VV} (ha0 : OK7 g a0) (h : g_X7_readWord N a0 V = some q) : sj_C X m_X7_readWord [sj_r (some a0)] (g, V) (none, (g, q.2)) :=
  sj_C_of (by decide +kernel) (Nat.le_of_ble_eq_true rfl) (lo := [some (sj_r (some a0))]) rfl (sj_weak (l2 := [some (sj_r (some a0))]) (⟨rfl, trivial⟩) (st_X7_readWord_0 a0 V ha0 h))
set_option maxHeartbeats 4000000 in
theorem c_X7_readWord {X : sj_X} {N : Nat} {a0 : Nat} {s : sj_Mem} {q : Unit × sj_Mem} (h : f_X7_readWord N a0 s = some q) : sj_C X m_X7_readWord [sj_r (some a0)] s (none, q.2) := by
  obtain ⟨g, V⟩ := s
  unfold f_X7_readWord at h
  obtain ⟨ho, h1⟩ := e_ok_some h
  obtain ⟨q2, h2, rfl⟩ := sj_map_some h1
  exact cg_X7_readWord ho h2
theorem dX7_isWord_0 : decode cX7_isWord 0 = .ok (.aload_n 1, 1) := by decide +kernel
theorem dX7_isWord_1 : decode cX7_isWord 1 = .ok (.invokevirtual 71, 3) := by decide +kernel
theorem dX7_isWord_4 : decode cX7_isWord 4 = .ok (.aload_n 0, 1) := by decide +kernel
theorem dX7_isWord_5 : decode cX7_isWord 5 = .ok (.getfield 68, 3) := by decide +kernel
theorem dX7_isWord_8 : decode cX7_isWord 8 = .ok (.aload_n 0, 1) := by decide +kernel
theorem dX7_isWord_9 : decode cX7_isWord 9 = .ok (.getfield 55, 3) := by decide +kernel
theorem dX7_isWord_12 : decode cX7_isWord 12 = .ok (.isub, 1) := by decide +kernel
theorem dX7_isWord_13 : decode cX7_isWord 13 = .ok (.if_icmp .eq 5, 3) := by decide +kernel
theorem dX7_isWord_16 : decode cX7_isWord 16 = .ok (.iconst 0, 1) := by decide +kernel
theorem dX7_isWord_17 : decode cX7_isWord 17 = .ok (.ireturn, 1) := by decide +kernel
theorem dX7_isWord_18 : decode cX7_isWord 18 = .ok (.iconst 0, 1) := by decide +kernel
theorem dX7_isWord_19 : decode cX7_isWord 19 = .ok (.istore_n 2, 1) := by decide +kernel
theorem dX7_isWord_20 : decode cX7_isWord 20 = .ok (.iload_n 2, 1) := by decide +kernel
theorem dX7_isWord_21 : decode cX7_isWord 21 = .ok (.aload_n 1, 1) := by decide +kernel
theorem dX7_isWord_22 : decode cX7_isWord 22 = .ok (.invokevirtual 71, 3) := by decide +kernel
theorem dX7_isWord_25 : decode cX7_isWord 25 = .ok (.if_icmp .ge 30, 3) := by decide +kernel
theorem dX7_isWord_28 : decode cX7_isWord 28 = .ok (.aload_n 0, 1) := by decide +kernel
theorem dX7_isWord_29 : decode cX7_isWord 29 = .ok (.getfield 9, 3) := by decide +kernel
theorem dX7_isWord_32 : decode cX7_isWord 32 = .ok (.aload_n 0, 1) := by decide +kernel
theorem dX7_isWord_33 : decode cX7_isWord 33 = .ok (.getfield 55, 3) := by decide +kernel
theorem dX7_isWord_36 : decode cX7_isWord 36 = .ok (.iload_n 2, 1) := by decide +kernel
theorem dX7_isWord_37 : decode cX7_isWord 37 = .ok (.iadd, 1) := by decide +kernel
theorem dX7_isWord_38 : decode cX7_isWord 38 = .ok (.iaload, 1) := by decide +kernel
theorem dX7_isWord_39 : decode cX7_isWord 39 = .ok (.aload_n 1, 1) := by decide +kernel
theorem dX7_isWord_40 : decode cX7_isWord 40 = .ok (.iload_n 2, 1) := by decide +kernel
theorem dX7_isWord_41 : decode cX7_isWord 41 = .ok (.invokevirtual 76, 3) := by decide +kernel
theorem dX7_isWord_44 : decode cX7_isWord 44 = .ok (.if_icmp .eq 5, 3) := by decide +kernel
theorem dX7_isWord_47 : decode cX7_isWord 47 = .ok (.iconst 0, 1) := by decide +kernel
theorem dX7_isWord_48 : decode cX7_isWord 48 = .ok (.ireturn, 1) := by decide +kernel
theorem dX7_isWord_49 : decode cX7_isWord 49 = .ok (.iinc 2 1, 3) := by decide +kernel
theorem dX7_isWord_52 : decode cX7_isWord 52 = .ok (.goto (-32), 3) := by decide +kernel
theorem dX7_isWord_55 : decode cX7_isWord 55 = .ok (.iconst 1, 1) := by decide +kernel
theorem dX7_isWord_56 : decode cX7_isWord 56 = .ok (.ireturn, 1) := by decide +kernel
set_option maxHeartbeats 4000000 in
theorem st_X7_isWord_20_b {X : sj_X} {g : sj_G} {s0 : sj_Mem} {N : Nat} {q : Int × sj_VV} {k20 : Nat → Nat → Int → sj_VV → Option (Int × sj_VV)} (hk20 : ∀ (a0 : Nat) (x1 : Nat) (x2 : Int) (V : sj_VV), OK7 g a0 → k20 a0 x1 x2 V = some q → sj_T X m_X7_isWord s0 (some (sj_i q.1), (g, q.2)) 20 [some (sj_r (some a0)), some (sj_t x1), some (sj_i x2)] [] (g, V)) :
    ∀ (a0 : Nat) (x1 : Nat) (x2 : Int) (V : sj_VV), OK7 g a0 → g_X7_isWord_20_b N k20 a0 x1 x2 V = some q → sj_T X m_X7_isWord s0 (some (sj_i q.1), (g, q.2)) 20 [some (sj_r (some a0)), some (sj_t x1), some (sj_i x2)] [] (g, V) := by
  intro a0 x1 x2 V ha0 h
  unfold g_X7_isWord_20_b at h
  refine r_iload_n (pc := 20) dX7_isWord_20 rfl rfl ?_
  refine r_tload_n (pc := 21) dX7_isWord_21 rfl rfl ?_
  refine r_tlen (pc := 22) h dX7_isWord_22 tw_X7_71 (Nat.le_of_ble_eq_true rfl) (Nat.le_of_ble_eq_true rfl) (fun v1 h => ?_)
  refine r_icmp_ge (pc := 25) (tgt := 55) h dX7_isWord_25 (by decide) (fun h => ?_) (fun h => ?_)
  · refine r_iconst (pc := 55) dX7_isWord_55 ?_
    exact r_zrets (pc := 56) h rfl dX7_isWord_56
  · refine r_aload_n (pc := 28) dX7_isWord_28 rfl rfl ?_
    refine r_gRs (b := a0 + 1) (pc := 29) dX7_isWord_29 fw_X7_9 rfl (ok7 ha0) (ok7_0 ha0).1 ?_
    refine r_aload_n (pc := 32) dX7_isWord_32 rfl rfl ?_
    refine r_gIs (pc := 33) dX7_isWord_33 fw_X7_55 rfl (ok7 ha0) ?_
    refine r_iload_n (pc := 36) dX7_isWord_36 rfl rfl ?_
    refine r_iadd (pc := 37) dX7_isWord_37 ?_
    refine r_ialoads (pc := 38) h dX7_isWord_38 (ok7_0 ha0).2 (fun h => ?_)
    refine r_tload_n (pc := 39) dX7_isWord_39 rfl rfl ?_
    refine r_iload_n (pc := 40) dX7_isWord_40 rfl rfl ?_
    refine r_tchar (pc := 41) h dX7_isWord_41 tw_X7_76 (Nat.le_of_ble_eq_true rfl) (Nat.le_of_ble_eq_true rfl) (fun v2 h => ?_)
    refine r_icmp_eq (pc := 44) (tgt := 49) h dX7_isWord_44 (by decide) (fun h => ?_) (fun h => ?_)
    · refine r_iinc (ln := fun w => [some (sj_r (some a0)), some (sj_t x1), some (sj_i w)]) (pc := 49) h dX7_isWord_49 rfl (Nat.le_of_ble_eq_true rfl) (fun _ => rfl) (fun v3 h => ?_)
      refine r_goto (pc := 52) (tgt := 20) dX7_isWord_52 (by decide) ?_
      exact sj_weak (l2 := [some (sj_r (some a0)), some (sj_t x1), some (sj_i v3)]) (⟨rfl, ⟨rfl, ⟨rfl, trivial⟩⟩⟩) (hk20 a0 x1 v3 V ha0 h)
    · refine r_iconst (pc := 47) dX7_isWord_47 ?_
      exact r_zrets (pc := 48) h rfl dX7_isWord_48
set_option maxHeartbeats 4000000 in
theorem st_X7_isWord_20 {X : sj_X} {g : sj_G} {s0 : sj_Mem} {N : Nat} {q : Int × sj_VV} :
    ∀ (n : Nat) (a0 : Nat) (x1 : Nat) (x2 : Int) (V : sj_VV), OK7 g a0 → g_X7_isWord_20 N n a0 x1 x2 V = some q → sj_T X m_X7_isWord s0 (some (sj_i q.1), (g, q.2)) 20 [some (sj_r (some a0)), some (sj_t x1), some (sj_i x2)] [] (g, V) := by
  intro n
  induction n with
  | zero => intro a0 x1 x2 V ha0 h; exact nomatch h
  | succ n ih => intro a0 x1 x2 V ha0 h; exact st_X7_isWord_20_b (N := N) ih a0 x1 x2 V ha0 h
set_option maxHeartbeats 4000000 in
theorem st_X7_isWord_0 {X : sj_X} {g : sj_G} {s0 : sj_Mem} {N : Nat} {q : Int × sj_VV} :
    ∀ (a0 : Nat) (x1 : Nat) (V : sj_VV), OK7 g a0 → g_X7_isWord N a0 x1 V = some q → sj_T X m_X7_isWord s0 (some (sj_i q.1), (g, q.2)) 0 [some (sj_r (some a0)), some (sj_t x1), none] [] (g, V) := by
  intro a0 x1 V ha0 h
  unfold g_X7_isWord at h
  refine r_tload_n (pc := 0) dX7_isWord_0 rfl rfl ?_
  refine r_tlen (pc := 1) h dX7_isWord_1 tw_X7_71 (Nat.le_of_ble_eq_true rfl) (Nat.le_of_ble_eq_true rfl) (fun v1 h => ?_)
  refine r_aload_n (pc := 4) dX7_isWord_4 rfl rfl ?_
  refine r_gIs (pc := 5) dX7_isWord_5 fw_X7_68 rfl (ok7 ha0) ?_
  refine r_aload_n (pc := 8) dX7_isWord_8 rfl rfl ?_
  refine r_gIs (pc := 9) dX7_isWord_9 fw_X7_55 rfl (ok7 ha0) ?_
  refine r_isub (pc := 12) dX7_isWord_12 ?_
  refine r_icmp_eq (pc := 13) (tgt := 18) h dX7_isWord_13 (by decide) (fun h => ?_) (fun h => ?_)
  · refine r_iconst (pc := 18) dX7_isWord_18 ?_
    refine r_istore_n (ln := [some (sj_r (some a0)), some (sj_t x1), some (sj_i 0)]) (pc := 19) dX7_isWord_19 rfl (Nat.le_of_ble_eq_true rfl) rfl ?_
    exact sj_weak (l2 := [some (sj_r (some a0)), some (sj_t x1), some (sj_i 0)]) (⟨rfl, ⟨rfl, ⟨rfl, trivial⟩⟩⟩) (st_X7_isWord_20 N a0 x1 0 V ha0 h)
  · refine r_iconst (pc := 16) dX7_isWord_16 ?_
    exact r_zrets (pc := 17) h rfl dX7_isWord_17
set_option maxHeartbeats 4000000 in
theorem cg_X7_isWord {X : sj_X} {g : sj_G} {N : Nat} {a0 : Nat} {x1 : Nat} {V : sj_VV} {q : Int × sj_VV} (ha0 : OK7 g a0) (h : g_X7_isWord N a0 x1 V = some q) : sj_C X m_X7_isWord [sj_r (some a0), sj_t x1] (g, V) (some (sj_i q.1), (g, q.2)) :=
  sj_C_of (by decide +kernel) (Nat.le_of_ble_eq_true rfl) (lo := [some (sj_r (some a0)), some (sj_t x1), none]) rfl (sj_weak (l2 := [some (sj_r (some a0)), some (sj_t x1), none]) (⟨rfl, ⟨rfl, trivial⟩⟩) (st_X7_isWord_0 a0 x1 V ha0 h))
set_option maxHeartbeats 4000000 in
theorem c_X7_isWord {X : sj_X} {N : Nat} {a0 : Nat} {x1 : Nat} {s : sj_Mem} {q : Int × sj_Mem} (h : f_X7_isWord N a0 x1 s = some q) : sj_C X m_X7_isWord [sj_r (some a0), sj_t x1] s (some (sj_i q.1), q.2) := by
  obtain ⟨g, V⟩ := s
  unfold f_X7_isWord at h
  obtain ⟨ho, h1⟩ := e_ok_some h
  obtain ⟨q2, h2, rfl⟩ := sj_map_some h1
  exact cg_X7_isWord ho h2
theorem dX7_fail_0 : decode cX7_fail 0 = .ok (.aload_n 0, 1) := by decide +kernel
theorem dX7_fail_1 : decode cX7_fail 1 = .ok (.iload_n 1, 1) := by decide +kernel
theorem dX7_fail_2 : decode cX7_fail 2 = .ok (.putfield 25, 3) := by decide +kernel
theorem dX7_fail_5 : decode cX7_fail 5 = .ok (.aload_n 0, 1) := by decide +kernel
theorem dX7_fail_6 : decode cX7_fail 6 = .ok (.iload_n 2, 1) := by decide +kernel
theorem dX7_fail_7 : decode cX7_fail 7 = .ok (.putfield 15, 3) := by decide +kernel
theorem dX7_fail_10 : decode cX7_fail 10 = .ok (.iconst (-1), 1) := by decide +kernel
theorem dX7_fail_11 : decode cX7_fail 11 = .ok (.ireturn, 1) := by decide +kernel
set_option maxHeartbeats 4000000 in
theorem st_X7_fail_0 {X : sj_X} {g : sj_G} {s0 : sj_Mem} {N : Nat} {q : Int × sj_VV} :
    ∀ (a0 : Nat) (x1 : Int) (x2 : Int) (V : sj_VV), OK7 g a0 → g_X7_fail N a0 x1 x2 V = some q → sj_T X m_X7_fail s0 (some (sj_i q.1), (g, q.2)) 0 [some (sj_r (some a0)), some (sj_i x1), some (sj_i x2)] [] (g, V) := by
  intro a0 x1 x2 V ha0 h
  unfold g_X7_fail at h
  refine r_aload_n (pc := 0) dX7_fail_0 rfl rfl ?_
  refine r_iload_n (pc := 1) dX7_fail_1 rfl rfl ?_
  refine r_pIs (pc := 2) h dX7_fail_2 fw_X7_25 rfl rfl (nf7_3) (ok7 ha0) (fun V1 h => ?_)
  refine r_aload_n (pc := 5) dX7_fail_5 rfl rfl ?_
  refine r_iload_n (pc := 6) dX7_fail_6 rfl rfl ?_
  refine r_pIs (pc := 7) h dX7_fail_7 fw_X7_15 rfl rfl (nf7_4) (ok7 ha0) (fun V2 h => ?_)
  refine r_iconst (pc := 10) dX7_fail_10 ?_
  exact r_irets (pc := 11) h rfl dX7_fail_11
set_option maxHeartbeats 4000000 in
theorem cg_X7_fail {X : sj_X} {g : sj_G} {N : Nat} {a0 : Nat} {x1 : Int} {x2 : Int} {V : sj_VV} {q : Int × sj_VV} (ha0 : OK7 g a0) (h : g_X7_fail N a0 x1 x2 V = some q) : sj_C X m_X7_fail [sj_r (some a0), sj_i x1, sj_i x2] (g, V) (some (sj_i q.1), (g, q.2)) :=
  sj_C_of (by decide +kernel) (Nat.le_of_ble_eq_true rfl) (lo := [some (sj_r (some a0)), some (sj_i x1), some (sj_i x2)]) rfl (sj_weak (l2 := [some (sj_r (some a0)), some (sj_i x1), some (sj_i x2)]) (⟨rfl, ⟨rfl, ⟨rfl, trivial⟩⟩⟩) (st_X7_fail_0 a0 x1 x2 V ha0 h))
set_option maxHeartbeats 4000000 in
theorem c_X7_fail {X : sj_X} {N : Nat} {a0 : Nat} {x1 : Int} {x2 : Int} {s : sj_Mem} {q : Int × sj_Mem} (h : f_X7_fail N a0 x1 x2 s = some q) : sj_C X m_X7_fail [sj_r (some a0), sj_i x1, sj_i x2] s (some (sj_i q.1), q.2) := by
  obtain ⟨g, V⟩ := s
  unfold f_X7_fail at h
  obtain ⟨ho, h1⟩ := e_ok_some h
  obtain ⟨q2, h2, rfl⟩ := sj_map_some h1
  exact cg_X7_fail ho h2
theorem dX7_readNumber_0 : decode cX7_readNumber 0 = .ok (.aload_n 0, 1) := by decide +kernel
theorem dX7_readNumber_1 : decode cX7_readNumber 1 = .ok (.aload_n 0, 1) := by decide +kernel
theorem dX7_readNumber_2 : decode cX7_readNumber 2 = .ok (.getfield 22, 3) := by decide +kernel
theorem dX7_readNumber_5 : decode cX7_readNumber 5 = .ok (.putfield 55, 3) := by decide +kernel
theorem dX7_readNumber_8 : decode cX7_readNumber 8 = .ok (.iconst 0, 1) := by decide +kernel
theorem dX7_readNumber_9 : decode cX7_readNumber 9 = .ok (.istore_n 3, 1) := by decide +kernel
theorem dX7_readNumber_10 : decode cX7_readNumber 10 = .ok (.aload_n 0, 1) := by decide +kernel
theorem dX7_readNumber_11 : decode cX7_readNumber 11 = .ok (.bipush 48, 2) := by decide +kernel
theorem dX7_readNumber_13 : decode cX7_readNumber 13 = .ok (.bipush 57, 2) := by decide +kernel
theorem dX7_readNumber_15 : decode cX7_readNumber 15 = .ok (.invokevirtual 58, 3) := by decide +kernel
theorem dX7_readNumber_18 : decode cX7_readNumber 18 = .ok (.ifCond .eq 50, 3) := by decide +kernel
theorem dX7_readNumber_21 : decode cX7_readNumber 21 = .ok (.aload_n 0, 1) := by decide +kernel
theorem dX7_readNumber_22 : decode cX7_readNumber 22 = .ok (.getfield 22, 3) := by decide +kernel
theorem dX7_readNumber_25 : decode cX7_readNumber 25 = .ok (.aload_n 0, 1) := by decide +kernel
theorem dX7_readNumber_26 : decode cX7_readNumber 26 = .ok (.getfield 19, 3) := by decide +kernel
theorem dX7_readNumber_29 : decode cX7_readNumber 29 = .ok (.if_icmp .ge 39, 3) := by decide +kernel
theorem dX7_readNumber_32 : decode cX7_readNumber 32 = .ok (.ldc 62, 2) := by decide +kernel
theorem dX7_readNumber_34 : decode cX7_readNumber 34 = .ok (.iload_n 3, 1) := by decide +kernel
theorem dX7_readNumber_35 : decode cX7_readNumber 35 = .ok (.bipush 10, 2) := by decide +kernel
theorem dX7_readNumber_37 : decode cX7_readNumber 37 = .ok (.imul, 1) := by decide +kernel
theorem dX7_readNumber_38 : decode cX7_readNumber 38 = .ok (.aload_n 0, 1) := by decide +kernel
theorem dX7_readNumber_39 : decode cX7_readNumber 39 = .ok (.getfield 9, 3) := by decide +kernel
theorem dX7_readNumber_42 : decode cX7_readNumber 42 = .ok (.aload_n 0, 1) := by decide +kernel
theorem dX7_readNumber_43 : decode cX7_readNumber 43 = .ok (.getfield 22, 3) := by decide +kernel
theorem dX7_readNumber_46 : decode cX7_readNumber 46 = .ok (.iaload, 1) := by decide +kernel
theorem dX7_readNumber_47 : decode cX7_readNumber 47 = .ok (.iadd, 1) := by decide +kernel
theorem dX7_readNumber_48 : decode cX7_readNumber 48 = .ok (.bipush 48, 2) := by decide +kernel
theorem dX7_readNumber_50 : decode cX7_readNumber 50 = .ok (.isub, 1) := by decide +kernel
theorem dX7_readNumber_51 : decode cX7_readNumber 51 = .ok (.invokestatic 63, 3) := by decide +kernel
theorem dX7_readNumber_54 : decode cX7_readNumber 54 = .ok (.istore_n 3, 1) := by decide +kernel
theorem dX7_readNumber_55 : decode cX7_readNumber 55 = .ok (.aload_n 0, 1) := by decide +kernel
theorem dX7_readNumber_56 : decode cX7_readNumber 56 = .ok (.dup, 1) := by decide +kernel
theorem dX7_readNumber_57 : decode cX7_readNumber 57 = .ok (.getfield 22, 3) := by decide +kernel
theorem dX7_readNumber_60 : decode cX7_readNumber 60 = .ok (.iconst 1, 1) := by decide +kernel
theorem dX7_readNumber_61 : decode cX7_readNumber 61 = .ok (.iadd, 1) := by decide +kernel
theorem dX7_readNumber_62 : decode cX7_readNumber 62 = .ok (.putfield 22, 3) := by decide +kernel
theorem dX7_readNumber_65 : decode cX7_readNumber 65 = .ok (.goto (-55), 3) := by decide +kernel
theorem dX7_readNumber_68 : decode cX7_readNumber 68 = .ok (.aload_n 0, 1) := by decide +kernel
theorem dX7_readNumber_69 : decode cX7_readNumber 69 = .ok (.getfield 22, 3) := by decide +kernel
theorem dX7_readNumber_72 : decode cX7_readNumber 72 = .ok (.aload_n 0, 1) := by decide +kernel
theorem dX7_readNumber_73 : decode cX7_readNumber 73 = .ok (.getfield 55, 3) := by decide +kernel
theorem dX7_readNumber_76 : decode cX7_readNumber 76 = .ok (.if_icmp .ne 13, 3) := by decide +kernel
theorem dX7_readNumber_79 : decode cX7_readNumber 79 = .ok (.aload_n 0, 1) := by decide +kernel
theorem dX7_readNumber_80 : decode cX7_readNumber 80 = .ok (.iconst 1, 1) := by decide +kernel
theorem dX7_readNumber_81 : decode cX7_readNumber 81 = .ok (.aload_n 0, 1) := by decide +kernel
theorem dX7_readNumber_82 : decode cX7_readNumber 82 = .ok (.getfield 55, 3) := by decide +kernel
theorem dX7_readNumber_85 : decode cX7_readNumber 85 = .ok (.invokevirtual 47, 3) := by decide +kernel
theorem dX7_readNumber_88 : decode cX7_readNumber 88 = .ok (.ireturn, 1) := by decide +kernel
theorem dX7_readNumber_89 : decode cX7_readNumber 89 = .ok (.aload_n 0, 1) := by decide +kernel
theorem dX7_readNumber_90 : decode cX7_readNumber 90 = .ok (.invokevirtual 31, 3) := by decide +kernel
theorem dX7_readNumber_93 : decode cX7_readNumber 93 = .ok (.iload_n 3, 1) := by decide +kernel
theorem dX7_readNumber_94 : decode cX7_readNumber 94 = .ok (.iload_n 1, 1) := by decide +kernel
theorem dX7_readNumber_95 : decode cX7_readNumber 95 = .ok (.if_icmp .lt 8, 3) := by decide +kernel
theorem dX7_readNumber_98 : decode cX7_readNumber 98 = .ok (.iload_n 3, 1) := by decide +kernel
theorem dX7_readNumber_99 : decode cX7_readNumber 99 = .ok (.iload_n 2, 1) := by decide +kernel
theorem dX7_readNumber_100 : decode cX7_readNumber 100 = .ok (.if_icmp .le 15, 3) := by decide +kernel
theorem dX7_readNumber_103 : decode cX7_readNumber 103 = .ok (.aload_n 0, 1) := by decide +kernel
theorem dX7_readNumber_104 : decode cX7_readNumber 104 = .ok (.iconst 2, 1) := by decide +kernel
theorem dX7_readNumber_105 : decode cX7_readNumber 105 = .ok (.aload_n 0, 1) := by decide +kernel
theorem dX7_readNumber_106 : decode cX7_readNumber 106 = .ok (.getfield 55, 3) := by decide +kernel
theorem dX7_readNumber_109 : decode cX7_readNumber 109 = .ok (.invokevirtual 47, 3) := by decide +kernel
theorem dX7_readNumber_112 : decode cX7_readNumber 112 = .ok (.goto 4, 3) := by decide +kernel
theorem dX7_readNumber_115 : decode cX7_readNumber 115 = .ok (.iload_n 3, 1) := by decide +kernel
theorem dX7_readNumber_116 : decode cX7_readNumber 116 = .ok (.ireturn, 1) := by decide +kernel
set_option maxHeartbeats 4000000 in
theorem st_X7_readNumber_103 {X : sj_X} {g : sj_G} {s0 : sj_Mem} {N : Nat} {q : Int × sj_VV} :
    ∀ (a0 : Nat) (V : sj_VV), OK7 g a0 → g_X7_readNumber_103 N a0 V = some q → sj_T X m_X7_readNumber s0 (some (sj_i q.1), (g, q.2)) 103 [some (sj_r (some a0)), none, none, none] [] (g, V) := by
  intro a0 V ha0 h
  unfold g_X7_readNumber_103 at h
  refine r_aload_n (pc := 103) dX7_readNumber_103 rfl rfl ?_
  refine r_iconst (pc := 104) dX7_readNumber_104 ?_
  refine r_aload_n (pc := 105) dX7_readNumber_105 rfl rfl ?_
  refine r_gIs (pc := 106) dX7_readNumber_106 fw_X7_55 rfl (ok7 ha0) ?_
  refine r_callVs (pc := 109) (fun v => some (sj_i v)) (As := [sj_i 2, sj_i (V a0 5)]) (rest := []) (b := a0) (ok7 ha0) h dX7_readNumber_109 mw_X7_47 vw_X7_fail (fun _ _ hc => cg_X7_fail ha0 hc) rfl ⟨(Nat.le_of_ble_eq_true rfl), (Nat.le_of_ble_eq_true rfl)⟩ (Nat.le_of_ble_eq_true rfl) rfl (fun v2 V1 h => ?_)
  refine r_goto (pc := 112) (tgt := 116) dX7_readNumber_112 (by decide) ?_
  exact r_irets (pc := 116) h rfl dX7_readNumber_116
set_option maxHeartbeats 4000000 in
theorem st_X7_readNumber_68 {X : sj_X} {g : sj_G} {s0 : sj_Mem} {N : Nat} {q : Int × sj_VV} :
    ∀ (a0 : Nat) (x1 : Int) (x2 : Int) (x3 : Int) (V : sj_VV), OK7 g a0 → g_X7_readNumber_68 N a0 x1 x2 x3 V = some q → sj_T X m_X7_readNumber s0 (some (sj_i q.1), (g, q.2)) 68 [some (sj_r (some a0)), some (sj_i x1), some (sj_i x2), some (sj_i x3)] [] (g, V) := by
  intro a0 x1 x2 x3 V ha0 h
  unfold g_X7_readNumber_68 at h
  refine r_aload_n (pc := 68) dX7_readNumber_68 rfl rfl ?_
  refine r_gIs (pc := 69) dX7_readNumber_69 fw_X7_22 rfl (ok7 ha0) ?_
  refine r_aload_n (pc := 72) dX7_readNumber_72 rfl rfl ?_
  refine r_gIs (pc := 73) dX7_readNumber_73 fw_X7_55 rfl (ok7 ha0) ?_
  refine r_icmp_ne (pc := 76) (tgt := 89) h dX7_readNumber_76 (by decide) (fun h => ?_) (fun h => ?_)
  · refine r_aload_n (pc := 79) dX7_readNumber_79 rfl rfl ?_
    refine r_iconst (pc := 80) dX7_readNumber_80 ?_
    refine r_aload_n (pc := 81) dX7_readNumber_81 rfl rfl ?_
    refine r_gIs (pc := 82) dX7_readNumber_82 fw_X7_55 rfl (ok7 ha0) ?_
    refine r_callVs (pc := 85) (fun v => some (sj_i v)) (As := [sj_i 1, sj_i (V a0 5)]) (rest := []) (b := a0) (ok7 ha0) h dX7_readNumber_85 mw_X7_47 vw_X7_fail (fun _ _ hc => cg_X7_fail ha0 hc) rfl ⟨(Nat.le_of_ble_eq_true rfl), (Nat.le_of_ble_eq_true rfl)⟩ (Nat.le_of_ble_eq_true rfl) rfl (fun v3 V2 h => ?_)
    exact r_irets (pc := 88) h rfl dX7_readNumber_88
  · refine r_aload_n (pc := 89) dX7_readNumber_89 rfl rfl ?_
    refine r_callVs (pc := 90) (fun _ => none) (As := []) (rest := []) (b := a0) (ok7 ha0) h dX7_readNumber_90 mw_X7_31 vw_X7_skip (fun _ _ hc => cg_X7_skip ha0 hc) rfl ⟨(Nat.le_of_ble_eq_true rfl), (Nat.le_of_ble_eq_true rfl)⟩ (Nat.le_of_ble_eq_true rfl) rfl (fun _u V1 h => ?_)
    refine r_iload_n (pc := 93) dX7_readNumber_93 rfl rfl ?_
    refine r_iload_n (pc := 94) dX7_readNumber_94 rfl rfl ?_
    refine r_icmp_lt (pc := 95) (tgt := 103) h dX7_readNumber_95 (by decide) (fun h => ?_) (fun h => ?_)
    · exact sj_weak (l2 := [some (sj_r (some a0)), none, none, none]) (⟨rfl, trivial⟩) (st_X7_readNumber_103 a0 V1 ha0 h)
    · refine r_iload_n (pc := 98) dX7_readNumber_98 rfl rfl ?_
      refine r_iload_n (pc := 99) dX7_readNumber_99 rfl rfl ?_
      refine r_icmp_le (pc := 100) (tgt := 115) h dX7_readNumber_100 (by decide) (fun h => ?_) (fun h => ?_)
      · refine r_iload_n (pc := 115) dX7_readNumber_115 rfl rfl ?_
        exact r_irets (pc := 116) h rfl dX7_readNumber_116
      · exact sj_weak (l2 := [some (sj_r (some a0)), none, none, none]) (⟨rfl, trivial⟩) (st_X7_readNumber_103 a0 V1 ha0 h)
set_option maxHeartbeats 4000000 in
theorem st_X7_readNumber_10_b {X : sj_X} {g : sj_G} {s0 : sj_Mem} {N : Nat} {q : Int × sj_VV} {k10 : Nat → Int → Int → Int → sj_VV → Option (Int × sj_VV)} (hk10 : ∀ (a0 : Nat) (x1 : Int) (x2 : Int) (x3 : Int) (V : sj_VV), OK7 g a0 → k10 a0 x1 x2 x3 V = some q → sj_T X m_X7_readNumber s0 (some (sj_i q.1), (g, q.2)) 10 [some (sj_r (some a0)), some (sj_i x1), some (sj_i x2), some (sj_i x3)] [] (g, V)) :
    ∀ (a0 : Nat) (x1 : Int) (x2 : Int) (x3 : Int) (V : sj_VV), OK7 g a0 → g_X7_readNumber_10_b N k10 a0 x1 x2 x3 V = some q → sj_T X m_X7_readNumber s0 (some (sj_i q.1), (g, q.2)) 10 [some (sj_r (some a0)), some (sj_i x1), some (sj_i x2), some (sj_i x3)] [] (g, V) := by
  intro a0 x1 x2 x3 V ha0 h
  unfold g_X7_readNumber_10_b at h
  refine r_aload_n (pc := 10) dX7_readNumber_10 rfl rfl ?_
  refine r_bipush (pc := 11) dX7_readNumber_11 ⟨by decide, by decide⟩ ?_
  refine r_bipush (pc := 13) dX7_readNumber_13 ⟨by decide, by decide⟩ ?_
  refine r_callVs (pc := 15) (fun v => some (sj_i v)) (As := [sj_i 48, sj_i 57]) (rest := []) (b := a0) (ok7 ha0) h dX7_readNumber_15 mw_X7_58 vw_X7_seesFrom (fun _ _ hc => cg_X7_seesFrom ha0 hc) rfl ⟨(Nat.le_of_ble_eq_true rfl), (Nat.le_of_ble_eq_true rfl)⟩ (Nat.le_of_ble_eq_true rfl) rfl (fun v2 V1 h => ?_)
  refine r_if_eq (pc := 18) (tgt := 68) h dX7_readNumber_18 (by decide) (fun h => ?_) (fun h => ?_)
  · exact sj_weak (l2 := [some (sj_r (some a0)), some (sj_i x1), some (sj_i x2), some (sj_i x3)]) (⟨rfl, ⟨rfl, ⟨rfl, ⟨rfl, trivial⟩⟩⟩⟩) (st_X7_readNumber_68 a0 x1 x2 x3 V1 ha0 h)
  · refine r_aload_n (pc := 21) dX7_readNumber_21 rfl rfl ?_
    refine r_gIs (pc := 22) dX7_readNumber_22 fw_X7_22 rfl (ok7 ha0) ?_
    refine r_aload_n (pc := 25) dX7_readNumber_25 rfl rfl ?_
    refine r_gIs (pc := 26) dX7_readNumber_26 fw_X7_19 rfl (ok7 ha0) ?_
    refine r_icmp_ge (pc := 29) (tgt := 68) h dX7_readNumber_29 (by decide) (fun h => ?_) (fun h => ?_)
    · exact sj_weak (l2 := [some (sj_r (some a0)), some (sj_i x1), some (sj_i x2), some (sj_i x3)]) (⟨rfl, ⟨rfl, ⟨rfl, ⟨rfl, trivial⟩⟩⟩⟩) (st_X7_readNumber_68 a0 x1 x2 x3 V1 ha0 h)
    · refine r_ldc (n := 1000000) (pc := 32) dX7_readNumber_32 kc_X7_62 ?_
      refine r_iload_n (pc := 34) dX7_readNumber_34 rfl rfl ?_
      refine r_bipush (pc := 35) dX7_readNumber_35 ⟨by decide, by decide⟩ ?_
      refine r_imul (pc := 37) dX7_readNumber_37 ?_
      refine r_aload_n (pc := 38) dX7_readNumber_38 rfl rfl ?_
      refine r_gRs (b := a0 + 1) (pc := 39) dX7_readNumber_39 fw_X7_9 rfl (ok7 ha0) (ok7_0 ha0).1 ?_
      refine r_aload_n (pc := 42) dX7_readNumber_42 rfl rfl ?_
      refine r_gIs (pc := 43) dX7_readNumber_43 fw_X7_22 rfl (ok7 ha0) ?_
      refine r_ialoads (pc := 46) h dX7_readNumber_46 (ok7_0 ha0).2 (fun h => ?_)
      refine r_iadd (pc := 47) dX7_readNumber_47 ?_
      refine r_bipush (pc := 48) dX7_readNumber_48 ⟨by decide, by decide⟩ ?_
      refine r_isub (pc := 50) dX7_readNumber_50 ?_
      refine r_mmin (pc := 51) h dX7_readNumber_51 mx_X7_63 (Nat.le_of_ble_eq_true rfl) (Nat.le_of_ble_eq_true rfl) (fun v3 h => ?_)
      refine r_istore_n (ln := [some (sj_r (some a0)), some (sj_i x1), some (sj_i x2), some (sj_i v3)]) (pc := 54) dX7_readNumber_54 rfl (Nat.le_of_ble_eq_true rfl) rfl ?_
      refine r_aload_n (pc := 55) dX7_readNumber_55 rfl rfl ?_
      refine r_dup (pc := 56) dX7_readNumber_56 rfl ?_
      refine r_gIs (pc := 57) dX7_readNumber_57 fw_X7_22 rfl (ok7 ha0) ?_
      refine r_iconst (pc := 60) dX7_readNumber_60 ?_
      refine r_iadd (pc := 61) dX7_readNumber_61 ?_
      refine r_pIs (pc := 62) h dX7_readNumber_62 fw_X7_22 rfl rfl (nf7_2) (ok7 ha0) (fun V4 h => ?_)
      refine r_goto (pc := 65) (tgt := 10) dX7_readNumber_65 (by decide) ?_
      exact sj_weak (l2 := [some (sj_r (some a0)), some (sj_i x1), some (sj_i x2), some (sj_i v3)]) (⟨rfl, ⟨rfl, ⟨rfl, ⟨rfl, trivial⟩⟩⟩⟩) (hk10 a0 x1 x2 v3 V4 ha0 h)
set_option maxHeartbeats 4000000 in
theorem st_X7_readNumber_10 {X : sj_X} {g : sj_G} {s0 : sj_Mem} {N : Nat} {q : Int × sj_VV} :
    ∀ (n : Nat) (a0 : Nat) (x1 : Int) (x2 : Int) (x3 : Int) (V : sj_VV), OK7 g a0 → g_X7_readNumber_10 N n a0 x1 x2 x3 V = some q → sj_T X m_X7_readNumber s0 (some (sj_i q.1), (g, q.2)) 10 [some (sj_r (some a0)), some (sj_i x1), some (sj_i x2), some (sj_i x3)] [] (g, V) := by
  intro n
  induction n with
  | zero => intro a0 x1 x2 x3 V ha0 h; exact nomatch h
  | succ n ih => intro a0 x1 x2 x3 V ha0 h; exact st_X7_readNumber_10_b (N := N) ih a0 x1 x2 x3 V ha0 h
set_option maxHeartbeats 4000000 in
theorem st_X7_readNumber_0 {X : sj_X} {g : sj_G} {s0 : sj_Mem} {N : Nat} {q : Int × sj_VV} :
    ∀ (a0 : Nat) (x1 : Int) (x2 : Int) (V : sj_VV), OK7 g a0 → g_X7_readNumber N a0 x1 x2 V = some q → sj_T X m_X7_readNumber s0 (some (sj_i q.1), (g, q.2)) 0 [some (sj_r (some a0)), some (sj_i x1), some (sj_i x2), none] [] (g, V) := by
  intro a0 x1 x2 V ha0 h
  unfold g_X7_readNumber at h
  refine r_aload_n (pc := 0) dX7_readNumber_0 rfl rfl ?_
  refine r_aload_n (pc := 1) dX7_readNumber_1 rfl rfl ?_
  refine r_gIs (pc := 2) dX7_readNumber_2 fw_X7_22 rfl (ok7 ha0) ?_
  refine r_pIs (pc := 5) h dX7_readNumber_5 fw_X7_55 rfl rfl (nf7_5) (ok7 ha0) (fun V1 h => ?_)
  refine r_iconst (pc := 8) dX7_readNumber_8 ?_
  refine r_istore_n (ln := [some (sj_r (some a0)), some (sj_i x1), some (sj_i x2), some (sj_i 0)]) (pc := 9) dX7_readNumber_9 rfl (Nat.le_of_ble_eq_true rfl) rfl ?_
  exact sj_weak (l2 := [some (sj_r (some a0)), some (sj_i x1), some (sj_i x2), some (sj_i 0)]) (⟨rfl, ⟨rfl, ⟨rfl, ⟨rfl, trivial⟩⟩⟩⟩) (st_X7_readNumber_10 N a0 x1 x2 0 V1 ha0 h)
set_option maxHeartbeats 4000000 in
theorem cg_X7_readNumber {X : sj_X} {g : sj_G} {N : Nat} {a0 : Nat} {x1 : Int} {x2 : Int} {V : sj_VV} {q : Int × sj_VV} (ha0 : OK7 g a0) (h : g_X7_readNumber N a0 x1 x2 V = some q) : sj_C X m_X7_readNumber [sj_r (some a0), sj_i x1, sj_i x2] (g, V) (some (sj_i q.1), (g, q.2)) :=
  sj_C_of (by decide +kernel) (Nat.le_of_ble_eq_true rfl) (lo := [some (sj_r (some a0)), some (sj_i x1), some (sj_i x2), none]) rfl (sj_weak (l2 := [some (sj_r (some a0)), some (sj_i x1), some (sj_i x2), none]) (⟨rfl, ⟨rfl, ⟨rfl, trivial⟩⟩⟩) (st_X7_readNumber_0 a0 x1 x2 V ha0 h))
set_option maxHeartbeats 4000000 in
theorem c_X7_readNumber {X : sj_X} {N : Nat} {a0 : Nat} {x1 : Int} {x2 : Int} {s : sj_Mem} {q : Int × sj_Mem} (h : f_X7_readNumber N a0 x1 x2 s = some q) : sj_C X m_X7_readNumber [sj_r (some a0), sj_i x1, sj_i x2] s (some (sj_i q.1), q.2) := by
  obtain ⟨g, V⟩ := s
  unfold f_X7_readNumber at h
  obtain ⟨ho, h1⟩ := e_ok_some h
  obtain ⟨q2, h2, rfl⟩ := sj_map_some h1
  exact cg_X7_readNumber ho h2
theorem dX7_sees_0 : decode cX7_sees 0 = .ok (.aload_n 0, 1) := by decide +kernel
theorem dX7_sees_1 : decode cX7_sees 1 = .ok (.getfield 22, 3) := by decide +kernel
theorem dX7_sees_4 : decode cX7_sees 4 = .ok (.aload_n 0, 1) := by decide +kernel
theorem dX7_sees_5 : decode cX7_sees 5 = .ok (.getfield 19, 3) := by decide +kernel
theorem dX7_sees_8 : decode cX7_sees 8 = .ok (.if_icmp .ge 20, 3) := by decide +kernel
theorem dX7_sees_11 : decode cX7_sees 11 = .ok (.aload_n 0, 1) := by decide +kernel
theorem dX7_sees_12 : decode cX7_sees 12 = .ok (.getfield 9, 3) := by decide +kernel
theorem dX7_sees_15 : decode cX7_sees 15 = .ok (.aload_n 0, 1) := by decide +kernel
theorem dX7_sees_16 : decode cX7_sees 16 = .ok (.getfield 22, 3) := by decide +kernel
theorem dX7_sees_19 : decode cX7_sees 19 = .ok (.iaload, 1) := by decide +kernel
theorem dX7_sees_20 : decode cX7_sees 20 = .ok (.iload_n 1, 1) := by decide +kernel
theorem dX7_sees_21 : decode cX7_sees 21 = .ok (.if_icmp .ne 7, 3) := by decide +kernel
theorem dX7_sees_24 : decode cX7_sees 24 = .ok (.iconst 1, 1) := by decide +kernel
theorem dX7_sees_25 : decode cX7_sees 25 = .ok (.goto 4, 3) := by decide +kernel
theorem dX7_sees_28 : decode cX7_sees 28 = .ok (.iconst 0, 1) := by decide +kernel
theorem dX7_sees_29 : decode cX7_sees 29 = .ok (.ireturn, 1) := by decide +kernel
set_option maxHeartbeats 4000000 in
theorem st_X7_sees_0 {X : sj_X} {g : sj_G} {s0 : sj_Mem} {N : Nat} {q : Int × sj_VV} :
    ∀ (a0 : Nat) (x1 : Int) (V : sj_VV), OK7 g a0 → g_X7_sees N a0 x1 V = some q → sj_T X m_X7_sees s0 (some (sj_i q.1), (g, q.2)) 0 [some (sj_r (some a0)), some (sj_i x1)] [] (g, V) := by
  intro a0 x1 V ha0 h
  unfold g_X7_sees at h
  refine r_aload_n (pc := 0) dX7_sees_0 rfl rfl ?_
  refine r_gIs (pc := 1) dX7_sees_1 fw_X7_22 rfl (ok7 ha0) ?_
  refine r_aload_n (pc := 4) dX7_sees_4 rfl rfl ?_
  refine r_gIs (pc := 5) dX7_sees_5 fw_X7_19 rfl (ok7 ha0) ?_
  refine r_icmp_ge (pc := 8) (tgt := 28) h dX7_sees_8 (by decide) (fun h => ?_) (fun h => ?_)
  · refine r_iconst (pc := 28) dX7_sees_28 ?_
    exact r_zrets (pc := 29) h rfl dX7_sees_29
  · refine r_aload_n (pc := 11) dX7_sees_11 rfl rfl ?_
    refine r_gRs (b := a0 + 1) (pc := 12) dX7_sees_12 fw_X7_9 rfl (ok7 ha0) (ok7_0 ha0).1 ?_
    refine r_aload_n (pc := 15) dX7_sees_15 rfl rfl ?_
    refine r_gIs (pc := 16) dX7_sees_16 fw_X7_22 rfl (ok7 ha0) ?_
    refine r_ialoads (pc := 19) h dX7_sees_19 (ok7_0 ha0).2 (fun h => ?_)
    refine r_iload_n (pc := 20) dX7_sees_20 rfl rfl ?_
    refine r_icmp_ne (pc := 21) (tgt := 28) h dX7_sees_21 (by decide) (fun h => ?_) (fun h => ?_)
    · refine r_iconst (pc := 24) dX7_sees_24 ?_
      refine r_goto (pc := 25) (tgt := 29) dX7_sees_25 (by decide) ?_
      exact r_zrets (pc := 29) h rfl dX7_sees_29
    · refine r_iconst (pc := 28) dX7_sees_28 ?_
      exact r_zrets (pc := 29) h rfl dX7_sees_29
set_option maxHeartbeats 4000000 in
theorem cg_X7_sees {X : sj_X} {g : sj_G} {N : Nat} {a0 : Nat} {x1 : Int} {V : sj_VV} {q : Int × sj_VV} (ha0 : OK7 g a0) (h : g_X7_sees N a0 x1 V = some q) : sj_C X m_X7_sees [sj_r (some a0), sj_i x1] (g, V) (some (sj_i q.1), (g, q.2)) :=
  sj_C_of (by decide +kernel) (Nat.le_of_ble_eq_true rfl) (lo := [some (sj_r (some a0)), some (sj_i x1)]) rfl (sj_weak (l2 := [some (sj_r (some a0)), some (sj_i x1)]) (⟨rfl, ⟨rfl, trivial⟩⟩) (st_X7_sees_0 a0 x1 V ha0 h))
set_option maxHeartbeats 4000000 in
theorem c_X7_sees {X : sj_X} {N : Nat} {a0 : Nat} {x1 : Int} {s : sj_Mem} {q : Int × sj_Mem} (h : f_X7_sees N a0 x1 s = some q) : sj_C X m_X7_sees [sj_r (some a0), sj_i x1] s (some (sj_i q.1), q.2) := by
  obtain ⟨g, V⟩ := s
  unfold f_X7_sees at h
  obtain ⟨ho, h1⟩ := e_ok_some h
  obtain ⟨q2, h2, rfl⟩ := sj_map_some h1
  exact cg_X7_sees ho h2
theorem dX7_readEnd_0 : decode cX7_readEnd 0 = .ok (.aload_n 0, 1) := by decide +kernel
theorem dX7_readEnd_1 : decode cX7_readEnd 1 = .ok (.bipush 59, 2) := by decide +kernel
theorem dX7_readEnd_3 : decode cX7_readEnd 3 = .ok (.invokevirtual 51, 3) := by decide +kernel
theorem dX7_readEnd_6 : decode cX7_readEnd 6 = .ok (.ifCond .ne 15, 3) := by decide +kernel
theorem dX7_readEnd_9 : decode cX7_readEnd 9 = .ok (.aload_n 0, 1) := by decide +kernel
theorem dX7_readEnd_10 : decode cX7_readEnd 10 = .ok (.iconst 1, 1) := by decide +kernel
theorem dX7_readEnd_11 : decode cX7_readEnd 11 = .ok (.aload_n 0, 1) := by decide +kernel
theorem dX7_readEnd_12 : decode cX7_readEnd 12 = .ok (.getfield 22, 3) := by decide +kernel
theorem dX7_readEnd_15 : decode cX7_readEnd 15 = .ok (.invokevirtual 47, 3) := by decide +kernel
theorem dX7_readEnd_18 : decode cX7_readEnd 18 = .ok (.pop, 1) := by decide +kernel
theorem dX7_readEnd_19 : decode cX7_readEnd 19 = .ok (.iconst 0, 1) := by decide +kernel
theorem dX7_readEnd_20 : decode cX7_readEnd 20 = .ok (.ireturn, 1) := by decide +kernel
theorem dX7_readEnd_21 : decode cX7_readEnd 21 = .ok (.aload_n 0, 1) := by decide +kernel
theorem dX7_readEnd_22 : decode cX7_readEnd 22 = .ok (.dup, 1) := by decide +kernel
theorem dX7_readEnd_23 : decode cX7_readEnd 23 = .ok (.getfield 22, 3) := by decide +kernel
theorem dX7_readEnd_26 : decode cX7_readEnd 26 = .ok (.iconst 1, 1) := by decide +kernel
theorem dX7_readEnd_27 : decode cX7_readEnd 27 = .ok (.iadd, 1) := by decide +kernel
theorem dX7_readEnd_28 : decode cX7_readEnd 28 = .ok (.putfield 22, 3) := by decide +kernel
theorem dX7_readEnd_31 : decode cX7_readEnd 31 = .ok (.aload_n 0, 1) := by decide +kernel
theorem dX7_readEnd_32 : decode cX7_readEnd 32 = .ok (.invokevirtual 31, 3) := by decide +kernel
theorem dX7_readEnd_35 : decode cX7_readEnd 35 = .ok (.iconst 1, 1) := by decide +kernel
theorem dX7_readEnd_36 : decode cX7_readEnd 36 = .ok (.ireturn, 1) := by decide +kernel
set_option maxHeartbeats 4000000 in
theorem st_X7_readEnd_0 {X : sj_X} {g : sj_G} {s0 : sj_Mem} {N : Nat} {q : Int × sj_VV} :
    ∀ (a0 : Nat) (V : sj_VV), OK7 g a0 → g_X7_readEnd N a0 V = some q → sj_T X m_X7_readEnd s0 (some (sj_i q.1), (g, q.2)) 0 [some (sj_r (some a0))] [] (g, V) := by
  intro a0 V ha0 h
  unfold g_X7_readEnd at h
  refine r_aload_n (pc := 0) dX7_readEnd_0 rfl rfl ?_
  refine r_bipush (pc := 1) dX7_readEnd_1 ⟨by decide, by decide⟩ ?_
  refine r_callVs (pc := 3) (fun v => some (sj_i v)) (As := [sj_i 59]) (rest := []) (b := a0) (ok7 ha0) h dX7_readEnd_3 mw_X7_51 vw_X7_sees (fun _ _ hc => cg_X7_sees ha0 hc) rfl ⟨(Nat.le_of_ble_eq_true rfl), (Nat.le_of_ble_eq_true rfl)⟩ (Nat.le_of_ble_eq_true rfl) rfl (fun v2 V1 h => ?_)
  refine r_if_ne (pc := 6) (tgt := 21) h dX7_readEnd_6 (by decide) (fun h => ?_) (fun h => ?_)
  · refine r_aload_n (pc := 9) dX7_readEnd_9 rfl rfl ?_
    refine r_iconst (pc := 10) dX7_readEnd_10 ?_
    refine r_aload_n (pc := 11) dX7_readEnd_11 rfl rfl ?_
    refine r_gIs (pc := 12) dX7_readEnd_12 fw_X7_22 rfl (ok7 ha0) ?_
    refine r_callVs (pc := 15) (fun v => some (sj_i v)) (As := [sj_i 1, sj_i (V1 a0 2)]) (rest := []) (b := a0) (ok7 ha0) h dX7_readEnd_15 mw_X7_47 vw_X7_fail (fun _ _ hc => cg_X7_fail ha0 hc) rfl ⟨(Nat.le_of_ble_eq_true rfl), (Nat.le_of_ble_eq_true rfl)⟩ (Nat.le_of_ble_eq_true rfl) rfl (fun v6 V5 h => ?_)
    refine r_pop (pc := 18) dX7_readEnd_18 rfl ?_
    refine r_iconst (pc := 19) dX7_readEnd_19 ?_
    exact r_zrets (pc := 20) h rfl dX7_readEnd_20
  · refine r_aload_n (pc := 21) dX7_readEnd_21 rfl rfl ?_
    refine r_dup (pc := 22) dX7_readEnd_22 rfl ?_
    refine r_gIs (pc := 23) dX7_readEnd_23 fw_X7_22 rfl (ok7 ha0) ?_
    refine r_iconst (pc := 26) dX7_readEnd_26 ?_
    refine r_iadd (pc := 27) dX7_readEnd_27 ?_
    refine r_pIs (pc := 28) h dX7_readEnd_28 fw_X7_22 rfl rfl (nf7_2) (ok7 ha0) (fun V3 h => ?_)
    refine r_aload_n (pc := 31) dX7_readEnd_31 rfl rfl ?_
    refine r_callVs (pc := 32) (fun _ => none) (As := []) (rest := []) (b := a0) (ok7 ha0) h dX7_readEnd_32 mw_X7_31 vw_X7_skip (fun _ _ hc => cg_X7_skip ha0 hc) rfl ⟨(Nat.le_of_ble_eq_true rfl), (Nat.le_of_ble_eq_true rfl)⟩ (Nat.le_of_ble_eq_true rfl) rfl (fun _u V4 h => ?_)
    refine r_iconst (pc := 35) dX7_readEnd_35 ?_
    exact r_zrets (pc := 36) h rfl dX7_readEnd_36
set_option maxHeartbeats 4000000 in
theorem cg_X7_readEnd {X : sj_X} {g : sj_G} {N : Nat} {a0 : Nat} {V : sj_VV} {q : Int × sj_VV} (ha0 : OK7 g a0) (h : g_X7_readEnd N a0 V = some q) : sj_C X m_X7_readEnd [sj_r (some a0)] (g, V) (some (sj_i q.1), (g, q.2)) :=
  sj_C_of (by decide +kernel) (Nat.le_of_ble_eq_true rfl) (lo := [some (sj_r (some a0))]) rfl (sj_weak (l2 := [some (sj_r (some a0))]) (⟨rfl, trivial⟩) (st_X7_readEnd_0 a0 V ha0 h))
set_option maxHeartbeats 4000000 in
theorem c_X7_readEnd {X : sj_X} {N : Nat} {a0 : Nat} {s : sj_Mem} {q : Int × sj_Mem} (h : f_X7_readEnd N a0 s = some q) : sj_C X m_X7_readEnd [sj_r (some a0)] s (some (sj_i q.1), q.2) := by
  obtain ⟨g, V⟩ := s
  unfold f_X7_readEnd at h
  obtain ⟨ho, h1⟩ := e_ok_some h
  obtain ⟨q2, h2, rfl⟩ := sj_map_some h1
  exact cg_X7_readEnd ho h2
theorem dX7_readColumns_0 : decode cX7_readColumns 0 = .ok (.aload_n 0, 1) := by decide +kernel
theorem dX7_readColumns_1 : decode cX7_readColumns 1 = .ok (.invokevirtual 80, 3) := by decide +kernel
theorem dX7_readColumns_4 : decode cX7_readColumns 4 = .ok (.aload_n 0, 1) := by decide +kernel
theorem dX7_readColumns_5 : decode cX7_readColumns 5 = .ok (.ldc 83, 2) := by decide +kernel
theorem dX7_readColumns_7 : decode cX7_readColumns 7 = .ok (.invokevirtual 85, 3) := by decide +kernel
theorem dX7_readColumns_10 : decode cX7_readColumns 10 = .ok (.ifCond .ne 15, 3) := by decide +kernel
theorem dX7_readColumns_13 : decode cX7_readColumns 13 = .ok (.aload_n 0, 1) := by decide +kernel
theorem dX7_readColumns_14 : decode cX7_readColumns 14 = .ok (.iconst 1, 1) := by decide +kernel
theorem dX7_readColumns_15 : decode cX7_readColumns 15 = .ok (.aload_n 0, 1) := by decide +kernel
theorem dX7_readColumns_16 : decode cX7_readColumns 16 = .ok (.getfield 55, 3) := by decide +kernel
theorem dX7_readColumns_19 : decode cX7_readColumns 19 = .ok (.invokevirtual 47, 3) := by decide +kernel
theorem dX7_readColumns_22 : decode cX7_readColumns 22 = .ok (.pop, 1) := by decide +kernel
theorem dX7_readColumns_23 : decode cX7_readColumns 23 = .ok (.iconst 0, 1) := by decide +kernel
theorem dX7_readColumns_24 : decode cX7_readColumns 24 = .ok (.ireturn, 1) := by decide +kernel
theorem dX7_readColumns_25 : decode cX7_readColumns 25 = .ok (.aload_n 0, 1) := by decide +kernel
theorem dX7_readColumns_26 : decode cX7_readColumns 26 = .ok (.iconst 4, 1) := by decide +kernel
theorem dX7_readColumns_27 : decode cX7_readColumns 27 = .ok (.bipush 40, 2) := by decide +kernel
theorem dX7_readColumns_29 : decode cX7_readColumns 29 = .ok (.invokevirtual 89, 3) := by decide +kernel
theorem dX7_readColumns_32 : decode cX7_readColumns 32 = .ok (.istore_n 2, 1) := by decide +kernel
theorem dX7_readColumns_33 : decode cX7_readColumns 33 = .ok (.iload_n 2, 1) := by decide +kernel
theorem dX7_readColumns_34 : decode cX7_readColumns 34 = .ok (.iconst (-1), 1) := by decide +kernel
theorem dX7_readColumns_35 : decode cX7_readColumns 35 = .ok (.if_icmp .ne 5, 3) := by decide +kernel
theorem dX7_readColumns_38 : decode cX7_readColumns 38 = .ok (.iconst 0, 1) := by decide +kernel
theorem dX7_readColumns_39 : decode cX7_readColumns 39 = .ok (.ireturn, 1) := by decide +kernel
theorem dX7_readColumns_40 : decode cX7_readColumns 40 = .ok (.aload_n 0, 1) := by decide +kernel
theorem dX7_readColumns_41 : decode cX7_readColumns 41 = .ok (.iconst 1, 1) := by decide +kernel
theorem dX7_readColumns_42 : decode cX7_readColumns 42 = .ok (.bipush 10, 2) := by decide +kernel
theorem dX7_readColumns_44 : decode cX7_readColumns 44 = .ok (.invokevirtual 89, 3) := by decide +kernel
theorem dX7_readColumns_47 : decode cX7_readColumns 47 = .ok (.istore_n 3, 1) := by decide +kernel
theorem dX7_readColumns_48 : decode cX7_readColumns 48 = .ok (.iload_n 3, 1) := by decide +kernel
theorem dX7_readColumns_49 : decode cX7_readColumns 49 = .ok (.iconst (-1), 1) := by decide +kernel
theorem dX7_readColumns_50 : decode cX7_readColumns 50 = .ok (.if_icmp .ne 5, 3) := by decide +kernel
theorem dX7_readColumns_53 : decode cX7_readColumns 53 = .ok (.iconst 0, 1) := by decide +kernel
theorem dX7_readColumns_54 : decode cX7_readColumns 54 = .ok (.ireturn, 1) := by decide +kernel
theorem dX7_readColumns_55 : decode cX7_readColumns 55 = .ok (.aload_n 1, 1) := by decide +kernel
theorem dX7_readColumns_56 : decode cX7_readColumns 56 = .ok (.iload_n 2, 1) := by decide +kernel
theorem dX7_readColumns_57 : decode cX7_readColumns 57 = .ok (.iload_n 3, 1) := by decide +kernel
theorem dX7_readColumns_58 : decode cX7_readColumns 58 = .ok (.invokevirtual 92, 3) := by decide +kernel
theorem dX7_readColumns_61 : decode cX7_readColumns 61 = .ok (.aload_n 0, 1) := by decide +kernel
theorem dX7_readColumns_62 : decode cX7_readColumns 62 = .ok (.invokevirtual 95, 3) := by decide +kernel
theorem dX7_readColumns_65 : decode cX7_readColumns 65 = .ok (.ireturn, 1) := by decide +kernel
set_option maxHeartbeats 4000000 in
theorem st_X7_readColumns_0 {X : sj_X} {g : sj_G} {s0 : sj_Mem} {N : Nat} {q : Int × sj_VV} :
    ∀ (a0 : Nat) (x1 : Nat) (V : sj_VV), OK7 g a0 → OK0 g x1 → g_X7_readColumns N a0 x1 V = some q → sj_T X m_X7_readColumns s0 (some (sj_i q.1), (g, q.2)) 0 [some (sj_r (some a0)), some (sj_r (some x1)), none, none] [] (g, V) := by
  intro a0 x1 V ha0 hx1 h
  unfold g_X7_readColumns at h
  refine r_aload_n (pc := 0) dX7_readColumns_0 rfl rfl ?_
  refine r_callVs (pc := 1) (fun _ => none) (As := []) (rest := []) (b := a0) (ok7 ha0) h dX7_readColumns_1 mw_X7_80 vw_X7_readWord (fun _ _ hc => cg_X7_readWord ha0 hc) rfl ⟨(Nat.le_of_ble_eq_true rfl), (Nat.le_of_ble_eq_true rfl)⟩ (Nat.le_of_ble_eq_true rfl) rfl (fun _u V1 h => ?_)
  refine r_aload_n (pc := 4) dX7_readColumns_4 rfl rfl ?_
  refine r_ldcS (n := 0) (pc := 5) dX7_readColumns_5 rfl rfl (by decide) ?_
  refine r_callVs (pc := 7) (fun v => some (sj_i v)) (As := [sj_t 0]) (rest := []) (b := a0) (ok7 ha0) h dX7_readColumns_7 mw_X7_85 vw_X7_isWord (fun _ _ hc => cg_X7_isWord ha0 hc) rfl ⟨(Nat.le_of_ble_eq_true rfl), (Nat.le_of_ble_eq_true rfl)⟩ (Nat.le_of_ble_eq_true rfl) rfl (fun v3 V2 h => ?_)
  refine r_if_ne (pc := 10) (tgt := 25) h dX7_readColumns_10 (by decide) (fun h => ?_) (fun h => ?_)
  · refine r_aload_n (pc := 13) dX7_readColumns_13 rfl rfl ?_
    refine r_iconst (pc := 14) dX7_readColumns_14 ?_
    refine r_aload_n (pc := 15) dX7_readColumns_15 rfl rfl ?_
    refine r_gIs (pc := 16) dX7_readColumns_16 fw_X7_55 rfl (ok7 ha0) ?_
    refine r_callVs (pc := 19) (fun v => some (sj_i v)) (As := [sj_i 1, sj_i (V2 a0 5)]) (rest := []) (b := a0) (ok7 ha0) h dX7_readColumns_19 mw_X7_47 vw_X7_fail (fun _ _ hc => cg_X7_fail ha0 hc) rfl ⟨(Nat.le_of_ble_eq_true rfl), (Nat.le_of_ble_eq_true rfl)⟩ (Nat.le_of_ble_eq_true rfl) rfl (fun v12 V11 h => ?_)
    refine r_pop (pc := 22) dX7_readColumns_22 rfl ?_
    refine r_iconst (pc := 23) dX7_readColumns_23 ?_
    exact r_zrets (pc := 24) h rfl dX7_readColumns_24
  · refine r_aload_n (pc := 25) dX7_readColumns_25 rfl rfl ?_
    refine r_iconst (pc := 26) dX7_readColumns_26 ?_
    refine r_bipush (pc := 27) dX7_readColumns_27 ⟨by decide, by decide⟩ ?_
    refine r_callVs (pc := 29) (fun v => some (sj_i v)) (As := [sj_i 4, sj_i 40]) (rest := []) (b := a0) (ok7 ha0) h dX7_readColumns_29 mw_X7_89 vw_X7_readNumber (fun _ _ hc => cg_X7_readNumber ha0 hc) rfl ⟨(Nat.le_of_ble_eq_true rfl), (Nat.le_of_ble_eq_true rfl)⟩ (Nat.le_of_ble_eq_true rfl) rfl (fun v5 V4 h => ?_)
    refine r_istore_n (ln := [some (sj_r (some a0)), some (sj_r (some x1)), some (sj_i v5), none]) (pc := 32) dX7_readColumns_32 rfl (Nat.le_of_ble_eq_true rfl) rfl ?_
    refine r_iload_n (pc := 33) dX7_readColumns_33 rfl rfl ?_
    refine r_iconst (pc := 34) dX7_readColumns_34 ?_
    refine r_icmp_ne (pc := 35) (tgt := 40) h dX7_readColumns_35 (by decide) (fun h => ?_) (fun h => ?_)
    · refine r_iconst (pc := 38) dX7_readColumns_38 ?_
      exact r_zrets (pc := 39) h rfl dX7_readColumns_39
    · refine r_aload_n (pc := 40) dX7_readColumns_40 rfl rfl ?_
      refine r_iconst (pc := 41) dX7_readColumns_41 ?_
      refine r_bipush (pc := 42) dX7_readColumns_42 ⟨by decide, by decide⟩ ?_
      refine r_callVs (pc := 44) (fun v => some (sj_i v)) (As := [sj_i 1, sj_i 10]) (rest := []) (b := a0) (ok7 ha0) h dX7_readColumns_44 mw_X7_89 vw_X7_readNumber (fun _ _ hc => cg_X7_readNumber ha0 hc) rfl ⟨(Nat.le_of_ble_eq_true rfl), (Nat.le_of_ble_eq_true rfl)⟩ (Nat.le_of_ble_eq_true rfl) rfl (fun v7 V6 h => ?_)
      refine r_istore_n (ln := [some (sj_r (some a0)), some (sj_r (some x1)), some (sj_i v5), some (sj_i v7)]) (pc := 47) dX7_readColumns_47 rfl (Nat.le_of_ble_eq_true rfl) rfl ?_
      refine r_iload_n (pc := 48) dX7_readColumns_48 rfl rfl ?_
      refine r_iconst (pc := 49) dX7_readColumns_49 ?_
      refine r_icmp_ne (pc := 50) (tgt := 55) h dX7_readColumns_50 (by decide) (fun h => ?_) (fun h => ?_)
      · refine r_iconst (pc := 53) dX7_readColumns_53 ?_
        exact r_zrets (pc := 54) h rfl dX7_readColumns_54
      · refine r_aload_n (pc := 55) dX7_readColumns_55 rfl rfl ?_
        refine r_iload_n (pc := 56) dX7_readColumns_56 rfl rfl ?_
        refine r_iload_n (pc := 57) dX7_readColumns_57 rfl rfl ?_
        refine r_callVs (pc := 58) (fun _ => none) (As := [sj_i v5, sj_i v7]) (rest := []) (b := x1) (ok0 hx1) h dX7_readColumns_58 mw_X7_92 vw_X0_begin (fun _ _ hc => cg_X0_begin hx1 hc) rfl ⟨(Nat.le_of_ble_eq_true rfl), (Nat.le_of_ble_eq_true rfl)⟩ (Nat.le_of_ble_eq_true rfl) rfl (fun _u V8 h => ?_)
        refine r_aload_n (pc := 61) dX7_readColumns_61 rfl rfl ?_
        refine r_callVs (pc := 62) (fun v => some (sj_i v)) (As := []) (rest := []) (b := a0) (ok7 ha0) h dX7_readColumns_62 mw_X7_95 vw_X7_readEnd (fun _ _ hc => cg_X7_readEnd ha0 hc) rfl ⟨(Nat.le_of_ble_eq_true rfl), (Nat.le_of_ble_eq_true rfl)⟩ (Nat.le_of_ble_eq_true rfl) rfl (fun v10 V9 h => ?_)
        exact r_zrets (pc := 65) h rfl dX7_readColumns_65
set_option maxHeartbeats 4000000 in
theorem cg_X7_readColumns {X : sj_X} {g : sj_G} {N : Nat} {a0 : Nat} {x1 : Nat} {V : sj_VV} {q : Int × sj_VV} (ha0 : OK7 g a0) (hx1 : OK0 g x1) (h : g_X7_readColumns N a0 x1 V = some q) : sj_C X m_X7_readColumns [sj_r (some a0), sj_r (some x1)] (g, V) (some (sj_i q.1), (g, q.2)) :=
  sj_C_of (by decide +kernel) (Nat.le_of_ble_eq_true rfl) (lo := [some (sj_r (some a0)), some (sj_r (some x1)), none, none]) rfl (sj_weak (l2 := [some (sj_r (some a0)), some (sj_r (some x1)), none, none]) (⟨rfl, ⟨rfl, trivial⟩⟩) (st_X7_readColumns_0 a0 x1 V ha0 hx1 h))
set_option maxHeartbeats 4000000 in
theorem c_X7_readColumns {X : sj_X} {N : Nat} {a0 : Nat} {x1 : Option Nat} {s : sj_Mem} {q : Int × sj_Mem} (h : f_X7_readColumns N a0 x1 s = some q) : sj_C X m_X7_readColumns [sj_r (some a0), sj_r x1] s (some (sj_i q.1), q.2) := by
  obtain ⟨g, V⟩ := s
  unfold f_X7_readColumns at h
  obtain ⟨ho, h1⟩ := e_ok_some h
  obtain ⟨q2, h2, rfl⟩ := sj_map_some h1
  obtain ⟨z1, hz1⟩ : ∃ z, x1 = some z := ⟨_, ho.2.1⟩
  subst hz1
  exact cg_X7_readColumns ho.1 ho.2.2 h2
theorem dX7_lineKind_0 : decode cX7_lineKind 0 = .ok (.aload_n 0, 1) := by decide +kernel
theorem dX7_lineKind_1 : decode cX7_lineKind 1 = .ok (.ldc 98, 2) := by decide +kernel
theorem dX7_lineKind_3 : decode cX7_lineKind 3 = .ok (.invokevirtual 85, 3) := by decide +kernel
theorem dX7_lineKind_6 : decode cX7_lineKind 6 = .ok (.ifCond .eq 5, 3) := by decide +kernel
theorem dX7_lineKind_9 : decode cX7_lineKind 9 = .ok (.iconst 0, 1) := by decide +kernel
theorem dX7_lineKind_10 : decode cX7_lineKind 10 = .ok (.ireturn, 1) := by decide +kernel
theorem dX7_lineKind_11 : decode cX7_lineKind 11 = .ok (.aload_n 0, 1) := by decide +kernel
theorem dX7_lineKind_12 : decode cX7_lineKind 12 = .ok (.ldc 100, 2) := by decide +kernel
theorem dX7_lineKind_14 : decode cX7_lineKind 14 = .ok (.invokevirtual 85, 3) := by decide +kernel
theorem dX7_lineKind_17 : decode cX7_lineKind 17 = .ok (.ifCond .eq 5, 3) := by decide +kernel
theorem dX7_lineKind_20 : decode cX7_lineKind 20 = .ok (.iconst 1, 1) := by decide +kernel
theorem dX7_lineKind_21 : decode cX7_lineKind 21 = .ok (.ireturn, 1) := by decide +kernel
theorem dX7_lineKind_22 : decode cX7_lineKind 22 = .ok (.aload_n 0, 1) := by decide +kernel
theorem dX7_lineKind_23 : decode cX7_lineKind 23 = .ok (.ldc 102, 2) := by decide +kernel
theorem dX7_lineKind_25 : decode cX7_lineKind 25 = .ok (.invokevirtual 85, 3) := by decide +kernel
theorem dX7_lineKind_28 : decode cX7_lineKind 28 = .ok (.ifCond .eq 5, 3) := by decide +kernel
theorem dX7_lineKind_31 : decode cX7_lineKind 31 = .ok (.iconst 2, 1) := by decide +kernel
theorem dX7_lineKind_32 : decode cX7_lineKind 32 = .ok (.ireturn, 1) := by decide +kernel
theorem dX7_lineKind_33 : decode cX7_lineKind 33 = .ok (.aload_n 0, 1) := by decide +kernel
theorem dX7_lineKind_34 : decode cX7_lineKind 34 = .ok (.ldc 104, 2) := by decide +kernel
theorem dX7_lineKind_36 : decode cX7_lineKind 36 = .ok (.invokevirtual 85, 3) := by decide +kernel
theorem dX7_lineKind_39 : decode cX7_lineKind 39 = .ok (.ifCond .eq 5, 3) := by decide +kernel
theorem dX7_lineKind_42 : decode cX7_lineKind 42 = .ok (.iconst 3, 1) := by decide +kernel
theorem dX7_lineKind_43 : decode cX7_lineKind 43 = .ok (.ireturn, 1) := by decide +kernel
theorem dX7_lineKind_44 : decode cX7_lineKind 44 = .ok (.aload_n 0, 1) := by decide +kernel
theorem dX7_lineKind_45 : decode cX7_lineKind 45 = .ok (.ldc 106, 2) := by decide +kernel
theorem dX7_lineKind_47 : decode cX7_lineKind 47 = .ok (.invokevirtual 85, 3) := by decide +kernel
theorem dX7_lineKind_50 : decode cX7_lineKind 50 = .ok (.ifCond .eq 5, 3) := by decide +kernel
theorem dX7_lineKind_53 : decode cX7_lineKind 53 = .ok (.iconst 4, 1) := by decide +kernel
theorem dX7_lineKind_54 : decode cX7_lineKind 54 = .ok (.ireturn, 1) := by decide +kernel
theorem dX7_lineKind_55 : decode cX7_lineKind 55 = .ok (.aload_n 0, 1) := by decide +kernel
theorem dX7_lineKind_56 : decode cX7_lineKind 56 = .ok (.ldc 108, 2) := by decide +kernel
theorem dX7_lineKind_58 : decode cX7_lineKind 58 = .ok (.invokevirtual 85, 3) := by decide +kernel
theorem dX7_lineKind_61 : decode cX7_lineKind 61 = .ok (.ifCond .eq 5, 3) := by decide +kernel
theorem dX7_lineKind_64 : decode cX7_lineKind 64 = .ok (.iconst 5, 1) := by decide +kernel
theorem dX7_lineKind_65 : decode cX7_lineKind 65 = .ok (.ireturn, 1) := by decide +kernel
theorem dX7_lineKind_66 : decode cX7_lineKind 66 = .ok (.aload_n 0, 1) := by decide +kernel
theorem dX7_lineKind_67 : decode cX7_lineKind 67 = .ok (.ldc 110, 2) := by decide +kernel
theorem dX7_lineKind_69 : decode cX7_lineKind 69 = .ok (.invokevirtual 85, 3) := by decide +kernel
theorem dX7_lineKind_72 : decode cX7_lineKind 72 = .ok (.ifCond .eq 6, 3) := by decide +kernel
theorem dX7_lineKind_75 : decode cX7_lineKind 75 = .ok (.bipush 9, 2) := by decide +kernel
theorem dX7_lineKind_77 : decode cX7_lineKind 77 = .ok (.ireturn, 1) := by decide +kernel
theorem dX7_lineKind_78 : decode cX7_lineKind 78 = .ok (.aload_n 0, 1) := by decide +kernel
theorem dX7_lineKind_79 : decode cX7_lineKind 79 = .ok (.ldc 112, 2) := by decide +kernel
theorem dX7_lineKind_81 : decode cX7_lineKind 81 = .ok (.invokevirtual 85, 3) := by decide +kernel
theorem dX7_lineKind_84 : decode cX7_lineKind 84 = .ok (.ifCond .eq 8, 3) := by decide +kernel
theorem dX7_lineKind_87 : decode cX7_lineKind 87 = .ok (.bipush 13, 2) := by decide +kernel
theorem dX7_lineKind_89 : decode cX7_lineKind 89 = .ok (.goto 4, 3) := by decide +kernel
theorem dX7_lineKind_92 : decode cX7_lineKind 92 = .ok (.iconst (-1), 1) := by decide +kernel
theorem dX7_lineKind_93 : decode cX7_lineKind 93 = .ok (.ireturn, 1) := by decide +kernel
set_option maxHeartbeats 4000000 in
theorem st_X7_lineKind_0 {X : sj_X} {g : sj_G} {s0 : sj_Mem} {N : Nat} {q : Int × sj_VV} :
    ∀ (a0 : Nat) (V : sj_VV), OK7 g a0 → g_X7_lineKind N a0 V = some q → sj_T X m_X7_lineKind s0 (some (sj_i q.1), (g, q.2)) 0 [some (sj_r (some a0))] [] (g, V) := by
  intro a0 V ha0 h
  unfold g_X7_lineKind at h
  refine r_aload_n (pc := 0) dX7_lineKind_0 rfl rfl ?_
  refine r_ldcS (n := 1) (pc := 1) dX7_lineKind_1 rfl rfl (by decide) ?_
  refine r_callVs (pc := 3) (fun v => some (sj_i v)) (As := [sj_t 1]) (rest := []) (b := a0) (ok7 ha0) h dX7_lineKind_3 mw_X7_85 vw_X7_isWord (fun _ _ hc => cg_X7_isWord ha0 hc) rfl ⟨(Nat.le_of_ble_eq_true rfl), (Nat.le_of_ble_eq_true rfl)⟩ (Nat.le_of_ble_eq_true rfl) rfl (fun v2 V1 h => ?_)
  refine r_if_eq (pc := 6) (tgt := 11) h dX7_lineKind_6 (by decide) (fun h => ?_) (fun h => ?_)
  · refine r_aload_n (pc := 11) dX7_lineKind_11 rfl rfl ?_
    refine r_ldcS (n := 2) (pc := 12) dX7_lineKind_12 rfl rfl (by decide) ?_
    refine r_callVs (pc := 14) (fun v => some (sj_i v)) (As := [sj_t 2]) (rest := []) (b := a0) (ok7 ha0) h dX7_lineKind_14 mw_X7_85 vw_X7_isWord (fun _ _ hc => cg_X7_isWord ha0 hc) rfl ⟨(Nat.le_of_ble_eq_true rfl), (Nat.le_of_ble_eq_true rfl)⟩ (Nat.le_of_ble_eq_true rfl) rfl (fun v4 V3 h => ?_)
    refine r_if_eq (pc := 17) (tgt := 22) h dX7_lineKind_17 (by decide) (fun h => ?_) (fun h => ?_)
    · refine r_aload_n (pc := 22) dX7_lineKind_22 rfl rfl ?_
      refine r_ldcS (n := 3) (pc := 23) dX7_lineKind_23 rfl rfl (by decide) ?_
      refine r_callVs (pc := 25) (fun v => some (sj_i v)) (As := [sj_t 3]) (rest := []) (b := a0) (ok7 ha0) h dX7_lineKind_25 mw_X7_85 vw_X7_isWord (fun _ _ hc => cg_X7_isWord ha0 hc) rfl ⟨(Nat.le_of_ble_eq_true rfl), (Nat.le_of_ble_eq_true rfl)⟩ (Nat.le_of_ble_eq_true rfl) rfl (fun v6 V5 h => ?_)
      refine r_if_eq (pc := 28) (tgt := 33) h dX7_lineKind_28 (by decide) (fun h => ?_) (fun h => ?_)
      · refine r_aload_n (pc := 33) dX7_lineKind_33 rfl rfl ?_
        refine r_ldcS (n := 4) (pc := 34) dX7_lineKind_34 rfl rfl (by decide) ?_
        refine r_callVs (pc := 36) (fun v => some (sj_i v)) (As := [sj_t 4]) (rest := []) (b := a0) (ok7 ha0) h dX7_lineKind_36 mw_X7_85 vw_X7_isWord (fun _ _ hc => cg_X7_isWord ha0 hc) rfl ⟨(Nat.le_of_ble_eq_true rfl), (Nat.le_of_ble_eq_true rfl)⟩ (Nat.le_of_ble_eq_true rfl) rfl (fun v8 V7 h => ?_)
        refine r_if_eq (pc := 39) (tgt := 44) h dX7_lineKind_39 (by decide) (fun h => ?_) (fun h => ?_)
        · refine r_aload_n (pc := 44) dX7_lineKind_44 rfl rfl ?_
          refine r_ldcS (n := 5) (pc := 45) dX7_lineKind_45 rfl rfl (by decide) ?_
          refine r_callVs (pc := 47) (fun v => some (sj_i v)) (As := [sj_t 5]) (rest := []) (b := a0) (ok7 ha0) h dX7_lineKind_47 mw_X7_85 vw_X7_isWord (fun _ _ hc => cg_X7_isWord ha0 hc) rfl ⟨(Nat.le_of_ble_eq_true rfl), (Nat.le_of_ble_eq_true rfl)⟩ (Nat.le_of_ble_eq_true rfl) rfl (fun v10 V9 h => ?_)
          refine r_if_eq (pc := 50) (tgt := 55) h dX7_lineKind_50 (by decide) (fun h => ?_) (fun h => ?_)
          · refine r_aload_n (pc := 55) dX7_lineKind_55 rfl rfl ?_
            refine r_ldcS (n := 6) (pc := 56) dX7_lineKind_56 rfl rfl (by decide) ?_
            refine r_callVs (pc := 58) (fun v => some (sj_i v)) (As := [sj_t 6]) (rest := []) (b := a0) (ok7 ha0) h dX7_lineKind_58 mw_X7_85 vw_X7_isWord (fun _ _ hc => cg_X7_isWord ha0 hc) rfl ⟨(Nat.le_of_ble_eq_true rfl), (Nat.le_of_ble_eq_true rfl)⟩ (Nat.le_of_ble_eq_true rfl) rfl (fun v12 V11 h => ?_)
            refine r_if_eq (pc := 61) (tgt := 66) h dX7_lineKind_61 (by decide) (fun h => ?_) (fun h => ?_)
            · refine r_aload_n (pc := 66) dX7_lineKind_66 rfl rfl ?_
              refine r_ldcS (n := 7) (pc := 67) dX7_lineKind_67 rfl rfl (by decide) ?_
              refine r_callVs (pc := 69) (fun v => some (sj_i v)) (As := [sj_t 7]) (rest := []) (b := a0) (ok7 ha0) h dX7_lineKind_69 mw_X7_85 vw_X7_isWord (fun _ _ hc => cg_X7_isWord ha0 hc) rfl ⟨(Nat.le_of_ble_eq_true rfl), (Nat.le_of_ble_eq_true rfl)⟩ (Nat.le_of_ble_eq_true rfl) rfl (fun v14 V13 h => ?_)
              refine r_if_eq (pc := 72) (tgt := 78) h dX7_lineKind_72 (by decide) (fun h => ?_) (fun h => ?_)
              · refine r_aload_n (pc := 78) dX7_lineKind_78 rfl rfl ?_
                refine r_ldcS (n := 8) (pc := 79) dX7_lineKind_79 rfl rfl (by decide) ?_
                refine r_callVs (pc := 81) (fun v => some (sj_i v)) (As := [sj_t 8]) (rest := []) (b := a0) (ok7 ha0) h dX7_lineKind_81 mw_X7_85 vw_X7_isWord (fun _ _ hc => cg_X7_isWord ha0 hc) rfl ⟨(Nat.le_of_ble_eq_true rfl), (Nat.le_of_ble_eq_true rfl)⟩ (Nat.le_of_ble_eq_true rfl) rfl (fun v16 V15 h => ?_)
                refine r_if_eq (pc := 84) (tgt := 92) h dX7_lineKind_84 (by decide) (fun h => ?_) (fun h => ?_)
                · refine r_iconst (pc := 92) dX7_lineKind_92 ?_
                  exact r_irets (pc := 93) h rfl dX7_lineKind_93
                · refine r_bipush (pc := 87) dX7_lineKind_87 ⟨by decide, by decide⟩ ?_
                  refine r_goto (pc := 89) (tgt := 93) dX7_lineKind_89 (by decide) ?_
                  exact r_irets (pc := 93) h rfl dX7_lineKind_93
              · refine r_bipush (pc := 75) dX7_lineKind_75 ⟨by decide, by decide⟩ ?_
                exact r_irets (pc := 77) h rfl dX7_lineKind_77
            · refine r_iconst (pc := 64) dX7_lineKind_64 ?_
              exact r_irets (pc := 65) h rfl dX7_lineKind_65
          · refine r_iconst (pc := 53) dX7_lineKind_53 ?_
            exact r_irets (pc := 54) h rfl dX7_lineKind_54
        · refine r_iconst (pc := 42) dX7_lineKind_42 ?_
          exact r_irets (pc := 43) h rfl dX7_lineKind_43
      · refine r_iconst (pc := 31) dX7_lineKind_31 ?_
        exact r_irets (pc := 32) h rfl dX7_lineKind_32
    · refine r_iconst (pc := 20) dX7_lineKind_20 ?_
      exact r_irets (pc := 21) h rfl dX7_lineKind_21
  · refine r_iconst (pc := 9) dX7_lineKind_9 ?_
    exact r_irets (pc := 10) h rfl dX7_lineKind_10
set_option maxHeartbeats 4000000 in
theorem cg_X7_lineKind {X : sj_X} {g : sj_G} {N : Nat} {a0 : Nat} {V : sj_VV} {q : Int × sj_VV} (ha0 : OK7 g a0) (h : g_X7_lineKind N a0 V = some q) : sj_C X m_X7_lineKind [sj_r (some a0)] (g, V) (some (sj_i q.1), (g, q.2)) :=
  sj_C_of (by decide +kernel) (Nat.le_of_ble_eq_true rfl) (lo := [some (sj_r (some a0))]) rfl (sj_weak (l2 := [some (sj_r (some a0))]) (⟨rfl, trivial⟩) (st_X7_lineKind_0 a0 V ha0 h))
set_option maxHeartbeats 4000000 in
theorem c_X7_lineKind {X : sj_X} {N : Nat} {a0 : Nat} {s : sj_Mem} {q : Int × sj_Mem} (h : f_X7_lineKind N a0 s = some q) : sj_C X m_X7_lineKind [sj_r (some a0)] s (some (sj_i q.1), q.2) := by
  obtain ⟨g, V⟩ := s
  unfold f_X7_lineKind at h
  obtain ⟨ho, h1⟩ := e_ok_some h
  obtain ⟨q2, h2, rfl⟩ := sj_map_some h1
  exact cg_X7_lineKind ho h2
theorem dX7_isNew_0 : decode cX7_isNew 0 = .ok (.iconst 1, 1) := by decide +kernel
theorem dX7_isNew_1 : decode cX7_isNew 1 = .ok (.iload_n 1, 1) := by decide +kernel
theorem dX7_isNew_2 : decode cX7_isNew 2 = .ok (.ishl, 1) := by decide +kernel
theorem dX7_isNew_3 : decode cX7_isNew 3 = .ok (.istore_n 2, 1) := by decide +kernel
theorem dX7_isNew_4 : decode cX7_isNew 4 = .ok (.aload_n 0, 1) := by decide +kernel
theorem dX7_isNew_5 : decode cX7_isNew 5 = .ok (.getfield 28, 3) := by decide +kernel
theorem dX7_isNew_8 : decode cX7_isNew 8 = .ok (.iload_n 2, 1) := by decide +kernel
theorem dX7_isNew_9 : decode cX7_isNew 9 = .ok (.iand, 1) := by decide +kernel
theorem dX7_isNew_10 : decode cX7_isNew 10 = .ok (.ifCond .eq 15, 3) := by decide +kernel
theorem dX7_isNew_13 : decode cX7_isNew 13 = .ok (.aload_n 0, 1) := by decide +kernel
theorem dX7_isNew_14 : decode cX7_isNew 14 = .ok (.iconst 3, 1) := by decide +kernel
theorem dX7_isNew_15 : decode cX7_isNew 15 = .ok (.aload_n 0, 1) := by decide +kernel
theorem dX7_isNew_16 : decode cX7_isNew 16 = .ok (.getfield 55, 3) := by decide +kernel
theorem dX7_isNew_19 : decode cX7_isNew 19 = .ok (.invokevirtual 47, 3) := by decide +kernel
theorem dX7_isNew_22 : decode cX7_isNew 22 = .ok (.pop, 1) := by decide +kernel
theorem dX7_isNew_23 : decode cX7_isNew 23 = .ok (.iconst 0, 1) := by decide +kernel
theorem dX7_isNew_24 : decode cX7_isNew 24 = .ok (.ireturn, 1) := by decide +kernel
theorem dX7_isNew_25 : decode cX7_isNew 25 = .ok (.aload_n 0, 1) := by decide +kernel
theorem dX7_isNew_26 : decode cX7_isNew 26 = .ok (.dup, 1) := by decide +kernel
theorem dX7_isNew_27 : decode cX7_isNew 27 = .ok (.getfield 28, 3) := by decide +kernel
theorem dX7_isNew_30 : decode cX7_isNew 30 = .ok (.iload_n 2, 1) := by decide +kernel
theorem dX7_isNew_31 : decode cX7_isNew 31 = .ok (.ior, 1) := by decide +kernel
theorem dX7_isNew_32 : decode cX7_isNew 32 = .ok (.putfield 28, 3) := by decide +kernel
theorem dX7_isNew_35 : decode cX7_isNew 35 = .ok (.iconst 1, 1) := by decide +kernel
theorem dX7_isNew_36 : decode cX7_isNew 36 = .ok (.ireturn, 1) := by decide +kernel
set_option maxHeartbeats 4000000 in
theorem st_X7_isNew_0 {X : sj_X} {g : sj_G} {s0 : sj_Mem} {N : Nat} {q : Int × sj_VV} :
    ∀ (a0 : Nat) (x1 : Int) (V : sj_VV), OK7 g a0 → g_X7_isNew N a0 x1 V = some q → sj_T X m_X7_isNew s0 (some (sj_i q.1), (g, q.2)) 0 [some (sj_r (some a0)), some (sj_i x1), none] [] (g, V) := by
  intro a0 x1 V ha0 h
  unfold g_X7_isNew at h
  refine r_iconst (pc := 0) dX7_isNew_0 ?_
  refine r_iload_n (pc := 1) dX7_isNew_1 rfl rfl ?_
  refine r_ishl (pc := 2) h dX7_isNew_2 (fun v1 h => ?_)
  refine r_istore_n (ln := [some (sj_r (some a0)), some (sj_i x1), some (sj_i v1)]) (pc := 3) dX7_isNew_3 rfl (Nat.le_of_ble_eq_true rfl) rfl ?_
  refine r_aload_n (pc := 4) dX7_isNew_4 rfl rfl ?_
  refine r_gIs (pc := 5) dX7_isNew_5 fw_X7_28 rfl (ok7 ha0) ?_
  refine r_iload_n (pc := 8) dX7_isNew_8 rfl rfl ?_
  refine r_iand (pc := 9) dX7_isNew_9 ?_
  refine r_if_eq (pc := 10) (tgt := 25) h dX7_isNew_10 (by decide) (fun h => ?_) (fun h => ?_)
  · refine r_aload_n (pc := 25) dX7_isNew_25 rfl rfl ?_
    refine r_dup (pc := 26) dX7_isNew_26 rfl ?_
    refine r_gIs (pc := 27) dX7_isNew_27 fw_X7_28 rfl (ok7 ha0) ?_
    refine r_iload_n (pc := 30) dX7_isNew_30 rfl rfl ?_
    refine r_ior (pc := 31) dX7_isNew_31 ?_
    refine r_pIs (pc := 32) h dX7_isNew_32 fw_X7_28 rfl rfl (nf7_7) (ok7 ha0) (fun V2 h => ?_)
    refine r_iconst (pc := 35) dX7_isNew_35 ?_
    exact r_zrets (pc := 36) h rfl dX7_isNew_36
  · refine r_aload_n (pc := 13) dX7_isNew_13 rfl rfl ?_
    refine r_iconst (pc := 14) dX7_isNew_14 ?_
    refine r_aload_n (pc := 15) dX7_isNew_15 rfl rfl ?_
    refine r_gIs (pc := 16) dX7_isNew_16 fw_X7_55 rfl (ok7 ha0) ?_
    refine r_callVs (pc := 19) (fun v => some (sj_i v)) (As := [sj_i 3, sj_i (V a0 5)]) (rest := []) (b := a0) (ok7 ha0) h dX7_isNew_19 mw_X7_47 vw_X7_fail (fun _ _ hc => cg_X7_fail ha0 hc) rfl ⟨(Nat.le_of_ble_eq_true rfl), (Nat.le_of_ble_eq_true rfl)⟩ (Nat.le_of_ble_eq_true rfl) rfl (fun v4 V3 h => ?_)
    refine r_pop (pc := 22) dX7_isNew_22 rfl ?_
    refine r_iconst (pc := 23) dX7_isNew_23 ?_
    exact r_zrets (pc := 24) h rfl dX7_isNew_24
set_option maxHeartbeats 4000000 in
theorem cg_X7_isNew {X : sj_X} {g : sj_G} {N : Nat} {a0 : Nat} {x1 : Int} {V : sj_VV} {q : Int × sj_VV} (ha0 : OK7 g a0) (h : g_X7_isNew N a0 x1 V = some q) : sj_C X m_X7_isNew [sj_r (some a0), sj_i x1] (g, V) (some (sj_i q.1), (g, q.2)) :=
  sj_C_of (by decide +kernel) (Nat.le_of_ble_eq_true rfl) (lo := [some (sj_r (some a0)), some (sj_i x1), none]) rfl (sj_weak (l2 := [some (sj_r (some a0)), some (sj_i x1), none]) (⟨rfl, ⟨rfl, trivial⟩⟩) (st_X7_isNew_0 a0 x1 V ha0 h))
set_option maxHeartbeats 4000000 in
theorem c_X7_isNew {X : sj_X} {N : Nat} {a0 : Nat} {x1 : Int} {s : sj_Mem} {q : Int × sj_Mem} (h : f_X7_isNew N a0 x1 s = some q) : sj_C X m_X7_isNew [sj_r (some a0), sj_i x1] s (some (sj_i q.1), q.2) := by
  obtain ⟨g, V⟩ := s
  unfold f_X7_isNew at h
  obtain ⟨ho, h1⟩ := e_ok_some h
  obtain ⟨q2, h2, rfl⟩ := sj_map_some h1
  exact cg_X7_isNew ho h2
theorem dX7_readAnchor_0 : decode cX7_readAnchor 0 = .ok (.aload_n 0, 1) := by decide +kernel
theorem dX7_readAnchor_1 : decode cX7_readAnchor 1 = .ok (.iconst 0, 1) := by decide +kernel
theorem dX7_readAnchor_2 : decode cX7_readAnchor 2 = .ok (.iconst 5, 1) := by decide +kernel
theorem dX7_readAnchor_3 : decode cX7_readAnchor 3 = .ok (.invokevirtual 89, 3) := by decide +kernel
theorem dX7_readAnchor_6 : decode cX7_readAnchor 6 = .ok (.istore_n 2, 1) := by decide +kernel
theorem dX7_readAnchor_7 : decode cX7_readAnchor 7 = .ok (.iload_n 2, 1) := by decide +kernel
theorem dX7_readAnchor_8 : decode cX7_readAnchor 8 = .ok (.iconst (-1), 1) := by decide +kernel
theorem dX7_readAnchor_9 : decode cX7_readAnchor 9 = .ok (.if_icmp .eq 14, 3) := by decide +kernel
theorem dX7_readAnchor_12 : decode cX7_readAnchor 12 = .ok (.aload_n 0, 1) := by decide +kernel
theorem dX7_readAnchor_13 : decode cX7_readAnchor 13 = .ok (.bipush 13, 2) := by decide +kernel
theorem dX7_readAnchor_15 : decode cX7_readAnchor 15 = .ok (.iload_n 2, 1) := by decide +kernel
theorem dX7_readAnchor_16 : decode cX7_readAnchor 16 = .ok (.iadd, 1) := by decide +kernel
theorem dX7_readAnchor_17 : decode cX7_readAnchor 17 = .ok (.invokevirtual 117, 3) := by decide +kernel
theorem dX7_readAnchor_20 : decode cX7_readAnchor 20 = .ok (.ifCond .ne 5, 3) := by decide +kernel
theorem dX7_readAnchor_23 : decode cX7_readAnchor 23 = .ok (.iconst 0, 1) := by decide +kernel
theorem dX7_readAnchor_24 : decode cX7_readAnchor 24 = .ok (.ireturn, 1) := by decide +kernel
theorem dX7_readAnchor_25 : decode cX7_readAnchor 25 = .ok (.aload_n 0, 1) := by decide +kernel
theorem dX7_readAnchor_26 : decode cX7_readAnchor 26 = .ok (.iconst 0, 1) := by decide +kernel
theorem dX7_readAnchor_27 : decode cX7_readAnchor 27 = .ok (.aload_n 1, 1) := by decide +kernel
theorem dX7_readAnchor_28 : decode cX7_readAnchor 28 = .ok (.getfield 122, 3) := by decide +kernel
theorem dX7_readAnchor_31 : decode cX7_readAnchor 31 = .ok (.invokevirtual 89, 3) := by decide +kernel
theorem dX7_readAnchor_34 : decode cX7_readAnchor 34 = .ok (.istore_n 3, 1) := by decide +kernel
theorem dX7_readAnchor_35 : decode cX7_readAnchor 35 = .ok (.iload_n 3, 1) := by decide +kernel
theorem dX7_readAnchor_36 : decode cX7_readAnchor 36 = .ok (.iconst (-1), 1) := by decide +kernel
theorem dX7_readAnchor_37 : decode cX7_readAnchor 37 = .ok (.if_icmp .ne 5, 3) := by decide +kernel
theorem dX7_readAnchor_40 : decode cX7_readAnchor 40 = .ok (.iconst 0, 1) := by decide +kernel
theorem dX7_readAnchor_41 : decode cX7_readAnchor 41 = .ok (.ireturn, 1) := by decide +kernel
theorem dX7_readAnchor_42 : decode cX7_readAnchor 42 = .ok (.aload_n 0, 1) := by decide +kernel
theorem dX7_readAnchor_43 : decode cX7_readAnchor 43 = .ok (.iconst 0, 1) := by decide +kernel
theorem dX7_readAnchor_44 : decode cX7_readAnchor 44 = .ok (.bipush 100, 2) := by decide +kernel
theorem dX7_readAnchor_46 : decode cX7_readAnchor 46 = .ok (.invokevirtual 89, 3) := by decide +kernel
theorem dX7_readAnchor_49 : decode cX7_readAnchor 49 = .ok (.istore 4, 2) := by decide +kernel
theorem dX7_readAnchor_51 : decode cX7_readAnchor 51 = .ok (.iload 4, 2) := by decide +kernel
theorem dX7_readAnchor_53 : decode cX7_readAnchor 53 = .ok (.iconst (-1), 1) := by decide +kernel
theorem dX7_readAnchor_54 : decode cX7_readAnchor 54 = .ok (.if_icmp .ne 5, 3) := by decide +kernel
theorem dX7_readAnchor_57 : decode cX7_readAnchor 57 = .ok (.iconst 0, 1) := by decide +kernel
theorem dX7_readAnchor_58 : decode cX7_readAnchor 58 = .ok (.ireturn, 1) := by decide +kernel
theorem dX7_readAnchor_59 : decode cX7_readAnchor 59 = .ok (.aload_n 0, 1) := by decide +kernel
theorem dX7_readAnchor_60 : decode cX7_readAnchor 60 = .ok (.iconst 1, 1) := by decide +kernel
theorem dX7_readAnchor_61 : decode cX7_readAnchor 61 = .ok (.sipush 500, 3) := by decide +kernel
theorem dX7_readAnchor_64 : decode cX7_readAnchor 64 = .ok (.invokevirtual 89, 3) := by decide +kernel
theorem dX7_readAnchor_67 : decode cX7_readAnchor 67 = .ok (.istore 5, 2) := by decide +kernel
theorem dX7_readAnchor_69 : decode cX7_readAnchor 69 = .ok (.aload_n 1, 1) := by decide +kernel
theorem dX7_readAnchor_70 : decode cX7_readAnchor 70 = .ok (.getfield 164, 3) := by decide +kernel
theorem dX7_readAnchor_73 : decode cX7_readAnchor 73 = .ok (.iload_n 2, 1) := by decide +kernel
theorem dX7_readAnchor_74 : decode cX7_readAnchor 74 = .ok (.iload_n 3, 1) := by decide +kernel
theorem dX7_readAnchor_75 : decode cX7_readAnchor 75 = .ok (.iastore, 1) := by decide +kernel
theorem dX7_readAnchor_76 : decode cX7_readAnchor 76 = .ok (.aload_n 1, 1) := by decide +kernel
theorem dX7_readAnchor_77 : decode cX7_readAnchor 77 = .ok (.getfield 167, 3) := by decide +kernel
theorem dX7_readAnchor_80 : decode cX7_readAnchor 80 = .ok (.iload_n 2, 1) := by decide +kernel
theorem dX7_readAnchor_81 : decode cX7_readAnchor 81 = .ok (.iload 4, 2) := by decide +kernel
theorem dX7_readAnchor_83 : decode cX7_readAnchor 83 = .ok (.iastore, 1) := by decide +kernel
theorem dX7_readAnchor_84 : decode cX7_readAnchor 84 = .ok (.aload_n 1, 1) := by decide +kernel
theorem dX7_readAnchor_85 : decode cX7_readAnchor 85 = .ok (.getfield 170, 3) := by decide +kernel
theorem dX7_readAnchor_88 : decode cX7_readAnchor 88 = .ok (.iload_n 2, 1) := by decide +kernel
theorem dX7_readAnchor_89 : decode cX7_readAnchor 89 = .ok (.iload 5, 2) := by decide +kernel
theorem dX7_readAnchor_91 : decode cX7_readAnchor 91 = .ok (.iastore, 1) := by decide +kernel
theorem dX7_readAnchor_92 : decode cX7_readAnchor 92 = .ok (.iload 5, 2) := by decide +kernel
theorem dX7_readAnchor_94 : decode cX7_readAnchor 94 = .ok (.iconst (-1), 1) := by decide +kernel
theorem dX7_readAnchor_95 : decode cX7_readAnchor 95 = .ok (.if_icmp .eq 14, 3) := by decide +kernel
theorem dX7_readAnchor_98 : decode cX7_readAnchor 98 = .ok (.aload_n 0, 1) := by decide +kernel
theorem dX7_readAnchor_99 : decode cX7_readAnchor 99 = .ok (.invokevirtual 95, 3) := by decide +kernel
theorem dX7_readAnchor_102 : decode cX7_readAnchor 102 = .ok (.ifCond .eq 7, 3) := by decide +kernel
theorem dX7_readAnchor_105 : decode cX7_readAnchor 105 = .ok (.iconst 1, 1) := by decide +kernel
theorem dX7_readAnchor_106 : decode cX7_readAnchor 106 = .ok (.goto 4, 3) := by decide +kernel
theorem dX7_readAnchor_109 : decode cX7_readAnchor 109 = .ok (.iconst 0, 1) := by decide +kernel
theorem dX7_readAnchor_110 : decode cX7_readAnchor 110 = .ok (.ireturn, 1) := by decide +kernel
set_option maxHeartbeats 4000000 in
theorem st_X7_readAnchor_0 {X : sj_X} {g : sj_G} {s0 : sj_Mem} {N : Nat} {q : Int × sj_VV} :
    ∀ (a0 : Nat) (x1 : Nat) (V : sj_VV), OK7 g a0 → OK0 g x1 → g_X7_readAnchor N a0 x1 V = some q → sj_T X m_X7_readAnchor s0 (some (sj_i q.1), (g, q.2)) 0 [some (sj_r (some a0)), some (sj_r (some x1)), none, none, none, none] [] (g, V) := by
  intro a0 x1 V ha0 hx1 h
  unfold g_X7_readAnchor at h
  refine r_aload_n (pc := 0) dX7_readAnchor_0 rfl rfl ?_
  refine r_iconst (pc := 1) dX7_readAnchor_1 ?_
  refine r_iconst (pc := 2) dX7_readAnchor_2 ?_
  refine r_callVs (pc := 3) (fun v => some (sj_i v)) (As := [sj_i 0, sj_i 5]) (rest := []) (b := a0) (ok7 ha0) h dX7_readAnchor_3 mw_X7_89 vw_X7_readNumber (fun _ _ hc => cg_X7_readNumber ha0 hc) rfl ⟨(Nat.le_of_ble_eq_true rfl), (Nat.le_of_ble_eq_true rfl)⟩ (Nat.le_of_ble_eq_true rfl) rfl (fun v2 V1 h => ?_)
  refine r_istore_n (ln := [some (sj_r (some a0)), some (sj_r (some x1)), some (sj_i v2), none, none, none]) (pc := 6) dX7_readAnchor_6 rfl (Nat.le_of_ble_eq_true rfl) rfl ?_
  refine r_iload_n (pc := 7) dX7_readAnchor_7 rfl rfl ?_
  refine r_iconst (pc := 8) dX7_readAnchor_8 ?_
  refine r_icmp_eq (pc := 9) (tgt := 23) h dX7_readAnchor_9 (by decide) (fun h => ?_) (fun h => ?_)
  · refine r_iconst (pc := 23) dX7_readAnchor_23 ?_
    exact r_zrets (pc := 24) h rfl dX7_readAnchor_24
  · refine r_aload_n (pc := 12) dX7_readAnchor_12 rfl rfl ?_
    refine r_bipush (pc := 13) dX7_readAnchor_13 ⟨by decide, by decide⟩ ?_
    refine r_iload_n (pc := 15) dX7_readAnchor_15 rfl rfl ?_
    refine r_iadd (pc := 16) dX7_readAnchor_16 ?_
    refine r_callVs (pc := 17) (fun v => some (sj_i v)) (As := [sj_i (13 + v2)]) (rest := []) (b := a0) (ok7 ha0) h dX7_readAnchor_17 mw_X7_117 vw_X7_isNew (fun _ _ hc => cg_X7_isNew ha0 hc) rfl ⟨(Nat.le_of_ble_eq_true rfl), (Nat.le_of_ble_eq_true rfl)⟩ (Nat.le_of_ble_eq_true rfl) rfl (fun v4 V3 h => ?_)
    refine r_if_ne (pc := 20) (tgt := 25) h dX7_readAnchor_20 (by decide) (fun h => ?_) (fun h => ?_)
    · refine r_iconst (pc := 23) dX7_readAnchor_23 ?_
      exact r_zrets (pc := 24) h rfl dX7_readAnchor_24
    · refine r_aload_n (pc := 25) dX7_readAnchor_25 rfl rfl ?_
      refine r_iconst (pc := 26) dX7_readAnchor_26 ?_
      refine r_aload_n (pc := 27) dX7_readAnchor_27 rfl rfl ?_
      refine r_gIs (pc := 28) dX7_readAnchor_28 fw_X7_122 rfl (ok0 hx1) ?_
      refine r_callVs (pc := 31) (fun v => some (sj_i v)) (As := [sj_i 0, sj_i (V3 x1 0)]) (rest := []) (b := a0) (ok7 ha0) h dX7_readAnchor_31 mw_X7_89 vw_X7_readNumber (fun _ _ hc => cg_X7_readNumber ha0 hc) rfl ⟨(Nat.le_of_ble_eq_true rfl), (Nat.le_of_ble_eq_true rfl)⟩ (Nat.le_of_ble_eq_true rfl) rfl (fun v6 V5 h => ?_)
      refine r_istore_n (ln := [some (sj_r (some a0)), some (sj_r (some x1)), some (sj_i v2), some (sj_i v6), none, none]) (pc := 34) dX7_readAnchor_34 rfl (Nat.le_of_ble_eq_true rfl) rfl ?_
      refine r_iload_n (pc := 35) dX7_readAnchor_35 rfl rfl ?_
      refine r_iconst (pc := 36) dX7_readAnchor_36 ?_
      refine r_icmp_ne (pc := 37) (tgt := 42) h dX7_readAnchor_37 (by decide) (fun h => ?_) (fun h => ?_)
      · refine r_iconst (pc := 40) dX7_readAnchor_40 ?_
        exact r_zrets (pc := 41) h rfl dX7_readAnchor_41
      · refine r_aload_n (pc := 42) dX7_readAnchor_42 rfl rfl ?_
        refine r_iconst (pc := 43) dX7_readAnchor_43 ?_
        refine r_bipush (pc := 44) dX7_readAnchor_44 ⟨by decide, by decide⟩ ?_
        refine r_callVs (pc := 46) (fun v => some (sj_i v)) (As := [sj_i 0, sj_i 100]) (rest := []) (b := a0) (ok7 ha0) h dX7_readAnchor_46 mw_X7_89 vw_X7_readNumber (fun _ _ hc => cg_X7_readNumber ha0 hc) rfl ⟨(Nat.le_of_ble_eq_true rfl), (Nat.le_of_ble_eq_true rfl)⟩ (Nat.le_of_ble_eq_true rfl) rfl (fun v8 V7 h => ?_)
        refine r_istore (ln := [some (sj_r (some a0)), some (sj_r (some x1)), some (sj_i v2), some (sj_i v6), some (sj_i v8), none]) (pc := 49) dX7_readAnchor_49 (Nat.le_of_ble_eq_true rfl) rfl ?_
        refine r_iload (pc := 51) dX7_readAnchor_51 rfl ?_
        refine r_iconst (pc := 53) dX7_readAnchor_53 ?_
        refine r_icmp_ne (pc := 54) (tgt := 59) h dX7_readAnchor_54 (by decide) (fun h => ?_) (fun h => ?_)
        · refine r_iconst (pc := 57) dX7_readAnchor_57 ?_
          exact r_zrets (pc := 58) h rfl dX7_readAnchor_58
        · refine r_aload_n (pc := 59) dX7_readAnchor_59 rfl rfl ?_
          refine r_iconst (pc := 60) dX7_readAnchor_60 ?_
          refine r_sipush (pc := 61) dX7_readAnchor_61 ⟨by decide, by decide⟩ ?_
          refine r_callVs (pc := 64) (fun v => some (sj_i v)) (As := [sj_i 1, sj_i 500]) (rest := []) (b := a0) (ok7 ha0) h dX7_readAnchor_64 mw_X7_89 vw_X7_readNumber (fun _ _ hc => cg_X7_readNumber ha0 hc) rfl ⟨(Nat.le_of_ble_eq_true rfl), (Nat.le_of_ble_eq_true rfl)⟩ (Nat.le_of_ble_eq_true rfl) rfl (fun v10 V9 h => ?_)
          refine r_istore (ln := [some (sj_r (some a0)), some (sj_r (some x1)), some (sj_i v2), some (sj_i v6), some (sj_i v8), some (sj_i v10)]) (pc := 67) dX7_readAnchor_67 (Nat.le_of_ble_eq_true rfl) rfl ?_
          refine r_aload_n (pc := 69) dX7_readAnchor_69 rfl rfl ?_
          refine r_gRs (b := x1 + 9) (pc := 70) dX7_readAnchor_70 fw_X7_164 rfl (ok0 hx1) (ok0_11 hx1).1 ?_
          refine r_iload_n (pc := 73) dX7_readAnchor_73 rfl rfl ?_
          refine r_iload_n (pc := 74) dX7_readAnchor_74 rfl rfl ?_
          refine r_iastores (pc := 75) h dX7_readAnchor_75 (ok0_11 hx1).2 (fun V11 h => ?_)
          refine r_aload_n (pc := 76) dX7_readAnchor_76 rfl rfl ?_
          refine r_gRs (b := x1 + 10) (pc := 77) dX7_readAnchor_77 fw_X7_167 rfl (ok0 hx1) (ok0_12 hx1).1 ?_
          refine r_iload_n (pc := 80) dX7_readAnchor_80 rfl rfl ?_
          refine r_iload (pc := 81) dX7_readAnchor_81 rfl ?_
          refine r_iastores (pc := 83) h dX7_readAnchor_83 (ok0_12 hx1).2 (fun V12 h => ?_)
          refine r_aload_n (pc := 84) dX7_readAnchor_84 rfl rfl ?_
          refine r_gRs (b := x1 + 11) (pc := 85) dX7_readAnchor_85 fw_X7_170 rfl (ok0 hx1) (ok0_13 hx1).1 ?_
          refine r_iload_n (pc := 88) dX7_readAnchor_88 rfl rfl ?_
          refine r_iload (pc := 89) dX7_readAnchor_89 rfl ?_
          refine r_iastores (pc := 91) h dX7_readAnchor_91 (ok0_13 hx1).2 (fun V13 h => ?_)
          refine r_iload (pc := 92) dX7_readAnchor_92 rfl ?_
          refine r_iconst (pc := 94) dX7_readAnchor_94 ?_
          refine r_icmp_eq (pc := 95) (tgt := 109) h dX7_readAnchor_95 (by decide) (fun h => ?_) (fun h => ?_)
          · refine r_iconst (pc := 109) dX7_readAnchor_109 ?_
            exact r_zrets (pc := 110) h rfl dX7_readAnchor_110
          · refine r_aload_n (pc := 98) dX7_readAnchor_98 rfl rfl ?_
            refine r_callVs (pc := 99) (fun v => some (sj_i v)) (As := []) (rest := []) (b := a0) (ok7 ha0) h dX7_readAnchor_99 mw_X7_95 vw_X7_readEnd (fun _ _ hc => cg_X7_readEnd ha0 hc) rfl ⟨(Nat.le_of_ble_eq_true rfl), (Nat.le_of_ble_eq_true rfl)⟩ (Nat.le_of_ble_eq_true rfl) rfl (fun v15 V14 h => ?_)
            refine r_if_eq (pc := 102) (tgt := 109) h dX7_readAnchor_102 (by decide) (fun h => ?_) (fun h => ?_)
            · refine r_iconst (pc := 109) dX7_readAnchor_109 ?_
              exact r_zrets (pc := 110) h rfl dX7_readAnchor_110
            · refine r_iconst (pc := 105) dX7_readAnchor_105 ?_
              refine r_goto (pc := 106) (tgt := 110) dX7_readAnchor_106 (by decide) ?_
              exact r_zrets (pc := 110) h rfl dX7_readAnchor_110
set_option maxHeartbeats 4000000 in
theorem cg_X7_readAnchor {X : sj_X} {g : sj_G} {N : Nat} {a0 : Nat} {x1 : Nat} {V : sj_VV} {q : Int × sj_VV} (ha0 : OK7 g a0) (hx1 : OK0 g x1) (h : g_X7_readAnchor N a0 x1 V = some q) : sj_C X m_X7_readAnchor [sj_r (some a0), sj_r (some x1)] (g, V) (some (sj_i q.1), (g, q.2)) :=
  sj_C_of (by decide +kernel) (Nat.le_of_ble_eq_true rfl) (lo := [some (sj_r (some a0)), some (sj_r (some x1)), none, none, none, none]) rfl (sj_weak (l2 := [some (sj_r (some a0)), some (sj_r (some x1)), none, none, none, none]) (⟨rfl, ⟨rfl, trivial⟩⟩) (st_X7_readAnchor_0 a0 x1 V ha0 hx1 h))
set_option maxHeartbeats 4000000 in
theorem c_X7_readAnchor {X : sj_X} {N : Nat} {a0 : Nat} {x1 : Option Nat} {s : sj_Mem} {q : Int × sj_Mem} (h : f_X7_readAnchor N a0 x1 s = some q) : sj_C X m_X7_readAnchor [sj_r (some a0), sj_r x1] s (some (sj_i q.1), q.2) := by
  obtain ⟨g, V⟩ := s
  unfold f_X7_readAnchor at h
  obtain ⟨ho, h1⟩ := e_ok_some h
  obtain ⟨q2, h2, rfl⟩ := sj_map_some h1
  obtain ⟨z1, hz1⟩ : ∃ z, x1 = some z := ⟨_, ho.2.1⟩
  subst hz1
  exact cg_X7_readAnchor ho.1 ho.2.2 h2
theorem dX7_readSoil_0 : decode cX7_readSoil 0 = .ok (.aload_n 0, 1) := by decide +kernel
theorem dX7_readSoil_1 : decode cX7_readSoil 1 = .ok (.iconst 0, 1) := by decide +kernel
theorem dX7_readSoil_2 : decode cX7_readSoil 2 = .ok (.iconst 3, 1) := by decide +kernel
theorem dX7_readSoil_3 : decode cX7_readSoil 3 = .ok (.invokevirtual 89, 3) := by decide +kernel
theorem dX7_readSoil_6 : decode cX7_readSoil 6 = .ok (.istore_n 2, 1) := by decide +kernel
theorem dX7_readSoil_7 : decode cX7_readSoil 7 = .ok (.iload_n 2, 1) := by decide +kernel
theorem dX7_readSoil_8 : decode cX7_readSoil 8 = .ok (.iconst (-1), 1) := by decide +kernel
theorem dX7_readSoil_9 : decode cX7_readSoil 9 = .ok (.if_icmp .eq 14, 3) := by decide +kernel
theorem dX7_readSoil_12 : decode cX7_readSoil 12 = .ok (.aload_n 0, 1) := by decide +kernel
theorem dX7_readSoil_13 : decode cX7_readSoil 13 = .ok (.bipush 9, 2) := by decide +kernel
theorem dX7_readSoil_15 : decode cX7_readSoil 15 = .ok (.iload_n 2, 1) := by decide +kernel
theorem dX7_readSoil_16 : decode cX7_readSoil 16 = .ok (.iadd, 1) := by decide +kernel
theorem dX7_readSoil_17 : decode cX7_readSoil 17 = .ok (.invokevirtual 117, 3) := by decide +kernel
theorem dX7_readSoil_20 : decode cX7_readSoil 20 = .ok (.ifCond .ne 5, 3) := by decide +kernel
theorem dX7_readSoil_23 : decode cX7_readSoil 23 = .ok (.iconst 0, 1) := by decide +kernel
theorem dX7_readSoil_24 : decode cX7_readSoil 24 = .ok (.ireturn, 1) := by decide +kernel
theorem dX7_readSoil_25 : decode cX7_readSoil 25 = .ok (.aload_n 0, 1) := by decide +kernel
theorem dX7_readSoil_26 : decode cX7_readSoil 26 = .ok (.iconst 1, 1) := by decide +kernel
theorem dX7_readSoil_27 : decode cX7_readSoil 27 = .ok (.bipush 30, 2) := by decide +kernel
theorem dX7_readSoil_29 : decode cX7_readSoil 29 = .ok (.invokevirtual 89, 3) := by decide +kernel
theorem dX7_readSoil_32 : decode cX7_readSoil 32 = .ok (.istore_n 3, 1) := by decide +kernel
theorem dX7_readSoil_33 : decode cX7_readSoil 33 = .ok (.iload_n 3, 1) := by decide +kernel
theorem dX7_readSoil_34 : decode cX7_readSoil 34 = .ok (.iconst (-1), 1) := by decide +kernel
theorem dX7_readSoil_35 : decode cX7_readSoil 35 = .ok (.if_icmp .ne 5, 3) := by decide +kernel
theorem dX7_readSoil_38 : decode cX7_readSoil 38 = .ok (.iconst 0, 1) := by decide +kernel
theorem dX7_readSoil_39 : decode cX7_readSoil 39 = .ok (.ireturn, 1) := by decide +kernel
theorem dX7_readSoil_40 : decode cX7_readSoil 40 = .ok (.aload_n 0, 1) := by decide +kernel
theorem dX7_readSoil_41 : decode cX7_readSoil 41 = .ok (.iconst 0, 1) := by decide +kernel
theorem dX7_readSoil_42 : decode cX7_readSoil 42 = .ok (.sipush 200, 3) := by decide +kernel
theorem dX7_readSoil_45 : decode cX7_readSoil 45 = .ok (.invokevirtual 89, 3) := by decide +kernel
theorem dX7_readSoil_48 : decode cX7_readSoil 48 = .ok (.istore 4, 2) := by decide +kernel
theorem dX7_readSoil_50 : decode cX7_readSoil 50 = .ok (.iload 4, 2) := by decide +kernel
theorem dX7_readSoil_52 : decode cX7_readSoil 52 = .ok (.iconst (-1), 1) := by decide +kernel
theorem dX7_readSoil_53 : decode cX7_readSoil 53 = .ok (.if_icmp .ne 5, 3) := by decide +kernel
theorem dX7_readSoil_56 : decode cX7_readSoil 56 = .ok (.iconst 0, 1) := by decide +kernel
theorem dX7_readSoil_57 : decode cX7_readSoil 57 = .ok (.ireturn, 1) := by decide +kernel
theorem dX7_readSoil_58 : decode cX7_readSoil 58 = .ok (.aload_n 0, 1) := by decide +kernel
theorem dX7_readSoil_59 : decode cX7_readSoil 59 = .ok (.iconst 0, 1) := by decide +kernel
theorem dX7_readSoil_60 : decode cX7_readSoil 60 = .ok (.sipush 1500, 3) := by decide +kernel
theorem dX7_readSoil_63 : decode cX7_readSoil 63 = .ok (.invokevirtual 89, 3) := by decide +kernel
theorem dX7_readSoil_66 : decode cX7_readSoil 66 = .ok (.istore 5, 2) := by decide +kernel
theorem dX7_readSoil_68 : decode cX7_readSoil 68 = .ok (.aload_n 1, 1) := by decide +kernel
theorem dX7_readSoil_69 : decode cX7_readSoil 69 = .ok (.getfield 155, 3) := by decide +kernel
theorem dX7_readSoil_72 : decode cX7_readSoil 72 = .ok (.iload_n 2, 1) := by decide +kernel
theorem dX7_readSoil_73 : decode cX7_readSoil 73 = .ok (.iload_n 3, 1) := by decide +kernel
theorem dX7_readSoil_74 : decode cX7_readSoil 74 = .ok (.iastore, 1) := by decide +kernel
theorem dX7_readSoil_75 : decode cX7_readSoil 75 = .ok (.aload_n 1, 1) := by decide +kernel
theorem dX7_readSoil_76 : decode cX7_readSoil 76 = .ok (.getfield 158, 3) := by decide +kernel
theorem dX7_readSoil_79 : decode cX7_readSoil 79 = .ok (.iload_n 2, 1) := by decide +kernel
theorem dX7_readSoil_80 : decode cX7_readSoil 80 = .ok (.iload 4, 2) := by decide +kernel
theorem dX7_readSoil_82 : decode cX7_readSoil 82 = .ok (.iastore, 1) := by decide +kernel
theorem dX7_readSoil_83 : decode cX7_readSoil 83 = .ok (.aload_n 1, 1) := by decide +kernel
theorem dX7_readSoil_84 : decode cX7_readSoil 84 = .ok (.getfield 161, 3) := by decide +kernel
theorem dX7_readSoil_87 : decode cX7_readSoil 87 = .ok (.iload_n 2, 1) := by decide +kernel
theorem dX7_readSoil_88 : decode cX7_readSoil 88 = .ok (.iload 5, 2) := by decide +kernel
theorem dX7_readSoil_90 : decode cX7_readSoil 90 = .ok (.iastore, 1) := by decide +kernel
theorem dX7_readSoil_91 : decode cX7_readSoil 91 = .ok (.iload 5, 2) := by decide +kernel
theorem dX7_readSoil_93 : decode cX7_readSoil 93 = .ok (.iconst (-1), 1) := by decide +kernel
theorem dX7_readSoil_94 : decode cX7_readSoil 94 = .ok (.if_icmp .eq 14, 3) := by decide +kernel
theorem dX7_readSoil_97 : decode cX7_readSoil 97 = .ok (.aload_n 0, 1) := by decide +kernel
theorem dX7_readSoil_98 : decode cX7_readSoil 98 = .ok (.invokevirtual 95, 3) := by decide +kernel
theorem dX7_readSoil_101 : decode cX7_readSoil 101 = .ok (.ifCond .eq 7, 3) := by decide +kernel
theorem dX7_readSoil_104 : decode cX7_readSoil 104 = .ok (.iconst 1, 1) := by decide +kernel
theorem dX7_readSoil_105 : decode cX7_readSoil 105 = .ok (.goto 4, 3) := by decide +kernel
theorem dX7_readSoil_108 : decode cX7_readSoil 108 = .ok (.iconst 0, 1) := by decide +kernel
theorem dX7_readSoil_109 : decode cX7_readSoil 109 = .ok (.ireturn, 1) := by decide +kernel
set_option maxHeartbeats 4000000 in
theorem st_X7_readSoil_0 {X : sj_X} {g : sj_G} {s0 : sj_Mem} {N : Nat} {q : Int × sj_VV} :
    ∀ (a0 : Nat) (x1 : Nat) (V : sj_VV), OK7 g a0 → OK0 g x1 → g_X7_readSoil N a0 x1 V = some q → sj_T X m_X7_readSoil s0 (some (sj_i q.1), (g, q.2)) 0 [some (sj_r (some a0)), some (sj_r (some x1)), none, none, none, none] [] (g, V) := by
  intro a0 x1 V ha0 hx1 h
  unfold g_X7_readSoil at h
  refine r_aload_n (pc := 0) dX7_readSoil_0 rfl rfl ?_
  refine r_iconst (pc := 1) dX7_readSoil_1 ?_
  refine r_iconst (pc := 2) dX7_readSoil_2 ?_
  refine r_callVs (pc := 3) (fun v => some (sj_i v)) (As := [sj_i 0, sj_i 3]) (rest := []) (b := a0) (ok7 ha0) h dX7_readSoil_3 mw_X7_89 vw_X7_readNumber (fun _ _ hc => cg_X7_readNumber ha0 hc) rfl ⟨(Nat.le_of_ble_eq_true rfl), (Nat.le_of_ble_eq_true rfl)⟩ (Nat.le_of_ble_eq_true rfl) rfl (fun v2 V1 h => ?_)
  refine r_istore_n (ln := [some (sj_r (some a0)), some (sj_r (some x1)), some (sj_i v2), none, none, none]) (pc := 6) dX7_readSoil_6 rfl (Nat.le_of_ble_eq_true rfl) rfl ?_
  refine r_iload_n (pc := 7) dX7_readSoil_7 rfl rfl ?_
  refine r_iconst (pc := 8) dX7_readSoil_8 ?_
  refine r_icmp_eq (pc := 9) (tgt := 23) h dX7_readSoil_9 (by decide) (fun h => ?_) (fun h => ?_)
  · refine r_iconst (pc := 23) dX7_readSoil_23 ?_
    exact r_zrets (pc := 24) h rfl dX7_readSoil_24
  · refine r_aload_n (pc := 12) dX7_readSoil_12 rfl rfl ?_
    refine r_bipush (pc := 13) dX7_readSoil_13 ⟨by decide, by decide⟩ ?_
    refine r_iload_n (pc := 15) dX7_readSoil_15 rfl rfl ?_
    refine r_iadd (pc := 16) dX7_readSoil_16 ?_
    refine r_callVs (pc := 17) (fun v => some (sj_i v)) (As := [sj_i (9 + v2)]) (rest := []) (b := a0) (ok7 ha0) h dX7_readSoil_17 mw_X7_117 vw_X7_isNew (fun _ _ hc => cg_X7_isNew ha0 hc) rfl ⟨(Nat.le_of_ble_eq_true rfl), (Nat.le_of_ble_eq_true rfl)⟩ (Nat.le_of_ble_eq_true rfl) rfl (fun v4 V3 h => ?_)
    refine r_if_ne (pc := 20) (tgt := 25) h dX7_readSoil_20 (by decide) (fun h => ?_) (fun h => ?_)
    · refine r_iconst (pc := 23) dX7_readSoil_23 ?_
      exact r_zrets (pc := 24) h rfl dX7_readSoil_24
    · refine r_aload_n (pc := 25) dX7_readSoil_25 rfl rfl ?_
      refine r_iconst (pc := 26) dX7_readSoil_26 ?_
      refine r_bipush (pc := 27) dX7_readSoil_27 ⟨by decide, by decide⟩ ?_
      refine r_callVs (pc := 29) (fun v => some (sj_i v)) (As := [sj_i 1, sj_i 30]) (rest := []) (b := a0) (ok7 ha0) h dX7_readSoil_29 mw_X7_89 vw_X7_readNumber (fun _ _ hc => cg_X7_readNumber ha0 hc) rfl ⟨(Nat.le_of_ble_eq_true rfl), (Nat.le_of_ble_eq_true rfl)⟩ (Nat.le_of_ble_eq_true rfl) rfl (fun v6 V5 h => ?_)
      refine r_istore_n (ln := [some (sj_r (some a0)), some (sj_r (some x1)), some (sj_i v2), some (sj_i v6), none, none]) (pc := 32) dX7_readSoil_32 rfl (Nat.le_of_ble_eq_true rfl) rfl ?_
      refine r_iload_n (pc := 33) dX7_readSoil_33 rfl rfl ?_
      refine r_iconst (pc := 34) dX7_readSoil_34 ?_
      refine r_icmp_ne (pc := 35) (tgt := 40) h dX7_readSoil_35 (by decide) (fun h => ?_) (fun h => ?_)
      · refine r_iconst (pc := 38) dX7_readSoil_38 ?_
        exact r_zrets (pc := 39) h rfl dX7_readSoil_39
      · refine r_aload_n (pc := 40) dX7_readSoil_40 rfl rfl ?_
        refine r_iconst (pc := 41) dX7_readSoil_41 ?_
        refine r_sipush (pc := 42) dX7_readSoil_42 ⟨by decide, by decide⟩ ?_
        refine r_callVs (pc := 45) (fun v => some (sj_i v)) (As := [sj_i 0, sj_i 200]) (rest := []) (b := a0) (ok7 ha0) h dX7_readSoil_45 mw_X7_89 vw_X7_readNumber (fun _ _ hc => cg_X7_readNumber ha0 hc) rfl ⟨(Nat.le_of_ble_eq_true rfl), (Nat.le_of_ble_eq_true rfl)⟩ (Nat.le_of_ble_eq_true rfl) rfl (fun v8 V7 h => ?_)
        refine r_istore (ln := [some (sj_r (some a0)), some (sj_r (some x1)), some (sj_i v2), some (sj_i v6), some (sj_i v8), none]) (pc := 48) dX7_readSoil_48 (Nat.le_of_ble_eq_true rfl) rfl ?_
        refine r_iload (pc := 50) dX7_readSoil_50 rfl ?_
        refine r_iconst (pc := 52) dX7_readSoil_52 ?_
        refine r_icmp_ne (pc := 53) (tgt := 58) h dX7_readSoil_53 (by decide) (fun h => ?_) (fun h => ?_)
        · refine r_iconst (pc := 56) dX7_readSoil_56 ?_
          exact r_zrets (pc := 57) h rfl dX7_readSoil_57
        · refine r_aload_n (pc := 58) dX7_readSoil_58 rfl rfl ?_
          refine r_iconst (pc := 59) dX7_readSoil_59 ?_
          refine r_sipush (pc := 60) dX7_readSoil_60 ⟨by decide, by decide⟩ ?_
          refine r_callVs (pc := 63) (fun v => some (sj_i v)) (As := [sj_i 0, sj_i 1500]) (rest := []) (b := a0) (ok7 ha0) h dX7_readSoil_63 mw_X7_89 vw_X7_readNumber (fun _ _ hc => cg_X7_readNumber ha0 hc) rfl ⟨(Nat.le_of_ble_eq_true rfl), (Nat.le_of_ble_eq_true rfl)⟩ (Nat.le_of_ble_eq_true rfl) rfl (fun v10 V9 h => ?_)
          refine r_istore (ln := [some (sj_r (some a0)), some (sj_r (some x1)), some (sj_i v2), some (sj_i v6), some (sj_i v8), some (sj_i v10)]) (pc := 66) dX7_readSoil_66 (Nat.le_of_ble_eq_true rfl) rfl ?_
          refine r_aload_n (pc := 68) dX7_readSoil_68 rfl rfl ?_
          refine r_gRs (b := x1 + 6) (pc := 69) dX7_readSoil_69 fw_X7_155 rfl (ok0 hx1) (ok0_8 hx1).1 ?_
          refine r_iload_n (pc := 72) dX7_readSoil_72 rfl rfl ?_
          refine r_iload_n (pc := 73) dX7_readSoil_73 rfl rfl ?_
          refine r_iastores (pc := 74) h dX7_readSoil_74 (ok0_8 hx1).2 (fun V11 h => ?_)
          refine r_aload_n (pc := 75) dX7_readSoil_75 rfl rfl ?_
          refine r_gRs (b := x1 + 7) (pc := 76) dX7_readSoil_76 fw_X7_158 rfl (ok0 hx1) (ok0_9 hx1).1 ?_
          refine r_iload_n (pc := 79) dX7_readSoil_79 rfl rfl ?_
          refine r_iload (pc := 80) dX7_readSoil_80 rfl ?_
          refine r_iastores (pc := 82) h dX7_readSoil_82 (ok0_9 hx1).2 (fun V12 h => ?_)
          refine r_aload_n (pc := 83) dX7_readSoil_83 rfl rfl ?_
          refine r_gRs (b := x1 + 8) (pc := 84) dX7_readSoil_84 fw_X7_161 rfl (ok0 hx1) (ok0_10 hx1).1 ?_
          refine r_iload_n (pc := 87) dX7_readSoil_87 rfl rfl ?_
          refine r_iload (pc := 88) dX7_readSoil_88 rfl ?_
          refine r_iastores (pc := 90) h dX7_readSoil_90 (ok0_10 hx1).2 (fun V13 h => ?_)
          refine r_iload (pc := 91) dX7_readSoil_91 rfl ?_
          refine r_iconst (pc := 93) dX7_readSoil_93 ?_
          refine r_icmp_eq (pc := 94) (tgt := 108) h dX7_readSoil_94 (by decide) (fun h => ?_) (fun h => ?_)
          · refine r_iconst (pc := 108) dX7_readSoil_108 ?_
            exact r_zrets (pc := 109) h rfl dX7_readSoil_109
          · refine r_aload_n (pc := 97) dX7_readSoil_97 rfl rfl ?_
            refine r_callVs (pc := 98) (fun v => some (sj_i v)) (As := []) (rest := []) (b := a0) (ok7 ha0) h dX7_readSoil_98 mw_X7_95 vw_X7_readEnd (fun _ _ hc => cg_X7_readEnd ha0 hc) rfl ⟨(Nat.le_of_ble_eq_true rfl), (Nat.le_of_ble_eq_true rfl)⟩ (Nat.le_of_ble_eq_true rfl) rfl (fun v15 V14 h => ?_)
            refine r_if_eq (pc := 101) (tgt := 108) h dX7_readSoil_101 (by decide) (fun h => ?_) (fun h => ?_)
            · refine r_iconst (pc := 108) dX7_readSoil_108 ?_
              exact r_zrets (pc := 109) h rfl dX7_readSoil_109
            · refine r_iconst (pc := 104) dX7_readSoil_104 ?_
              refine r_goto (pc := 105) (tgt := 109) dX7_readSoil_105 (by decide) ?_
              exact r_zrets (pc := 109) h rfl dX7_readSoil_109
set_option maxHeartbeats 4000000 in
theorem cg_X7_readSoil {X : sj_X} {g : sj_G} {N : Nat} {a0 : Nat} {x1 : Nat} {V : sj_VV} {q : Int × sj_VV} (ha0 : OK7 g a0) (hx1 : OK0 g x1) (h : g_X7_readSoil N a0 x1 V = some q) : sj_C X m_X7_readSoil [sj_r (some a0), sj_r (some x1)] (g, V) (some (sj_i q.1), (g, q.2)) :=
  sj_C_of (by decide +kernel) (Nat.le_of_ble_eq_true rfl) (lo := [some (sj_r (some a0)), some (sj_r (some x1)), none, none, none, none]) rfl (sj_weak (l2 := [some (sj_r (some a0)), some (sj_r (some x1)), none, none, none, none]) (⟨rfl, ⟨rfl, trivial⟩⟩) (st_X7_readSoil_0 a0 x1 V ha0 hx1 h))
set_option maxHeartbeats 4000000 in
theorem c_X7_readSoil {X : sj_X} {N : Nat} {a0 : Nat} {x1 : Option Nat} {s : sj_Mem} {q : Int × sj_Mem} (h : f_X7_readSoil N a0 x1 s = some q) : sj_C X m_X7_readSoil [sj_r (some a0), sj_r x1] s (some (sj_i q.1), q.2) := by
  obtain ⟨g, V⟩ := s
  unfold f_X7_readSoil at h
  obtain ⟨ho, h1⟩ := e_ok_some h
  obtain ⟨q2, h2, rfl⟩ := sj_map_some h1
  obtain ⟨z1, hz1⟩ : ∃ z, x1 = some z := ⟨_, ho.2.1⟩
  subst hz1
  exact cg_X7_readSoil ho.1 ho.2.2 h2
theorem dX7_readTimes_0 : decode cX7_readTimes 0 = .ok (.aload_n 0, 1) := by decide +kernel
theorem dX7_readTimes_1 : decode cX7_readTimes 1 = .ok (.bipush 42, 2) := by decide +kernel
theorem dX7_readTimes_3 : decode cX7_readTimes 3 = .ok (.invokevirtual 51, 3) := by decide +kernel
theorem dX7_readTimes_6 : decode cX7_readTimes 6 = .ok (.ifCond .ne 5, 3) := by decide +kernel
theorem dX7_readTimes_9 : decode cX7_readTimes 9 = .ok (.iconst 1, 1) := by decide +kernel
theorem dX7_readTimes_10 : decode cX7_readTimes 10 = .ok (.ireturn, 1) := by decide +kernel
theorem dX7_readTimes_11 : decode cX7_readTimes 11 = .ok (.aload_n 0, 1) := by decide +kernel
theorem dX7_readTimes_12 : decode cX7_readTimes 12 = .ok (.dup, 1) := by decide +kernel
theorem dX7_readTimes_13 : decode cX7_readTimes 13 = .ok (.getfield 22, 3) := by decide +kernel
theorem dX7_readTimes_16 : decode cX7_readTimes 16 = .ok (.iconst 1, 1) := by decide +kernel
theorem dX7_readTimes_17 : decode cX7_readTimes 17 = .ok (.iadd, 1) := by decide +kernel
theorem dX7_readTimes_18 : decode cX7_readTimes 18 = .ok (.putfield 22, 3) := by decide +kernel
theorem dX7_readTimes_21 : decode cX7_readTimes 21 = .ok (.aload_n 0, 1) := by decide +kernel
theorem dX7_readTimes_22 : decode cX7_readTimes 22 = .ok (.invokevirtual 31, 3) := by decide +kernel
theorem dX7_readTimes_25 : decode cX7_readTimes 25 = .ok (.aload_n 0, 1) := by decide +kernel
theorem dX7_readTimes_26 : decode cX7_readTimes 26 = .ok (.iconst 1, 1) := by decide +kernel
theorem dX7_readTimes_27 : decode cX7_readTimes 27 = .ok (.iload_n 1, 1) := by decide +kernel
theorem dX7_readTimes_28 : decode cX7_readTimes 28 = .ok (.invokevirtual 89, 3) := by decide +kernel
theorem dX7_readTimes_31 : decode cX7_readTimes 31 = .ok (.ireturn, 1) := by decide +kernel
set_option maxHeartbeats 4000000 in
theorem st_X7_readTimes_0 {X : sj_X} {g : sj_G} {s0 : sj_Mem} {N : Nat} {q : Int × sj_VV} :
    ∀ (a0 : Nat) (x1 : Int) (V : sj_VV), OK7 g a0 → g_X7_readTimes N a0 x1 V = some q → sj_T X m_X7_readTimes s0 (some (sj_i q.1), (g, q.2)) 0 [some (sj_r (some a0)), some (sj_i x1)] [] (g, V) := by
  intro a0 x1 V ha0 h
  unfold g_X7_readTimes at h
  refine r_aload_n (pc := 0) dX7_readTimes_0 rfl rfl ?_
  refine r_bipush (pc := 1) dX7_readTimes_1 ⟨by decide, by decide⟩ ?_
  refine r_callVs (pc := 3) (fun v => some (sj_i v)) (As := [sj_i 42]) (rest := []) (b := a0) (ok7 ha0) h dX7_readTimes_3 mw_X7_51 vw_X7_sees (fun _ _ hc => cg_X7_sees ha0 hc) rfl ⟨(Nat.le_of_ble_eq_true rfl), (Nat.le_of_ble_eq_true rfl)⟩ (Nat.le_of_ble_eq_true rfl) rfl (fun v2 V1 h => ?_)
  refine r_if_ne (pc := 6) (tgt := 11) h dX7_readTimes_6 (by decide) (fun h => ?_) (fun h => ?_)
  · refine r_iconst (pc := 9) dX7_readTimes_9 ?_
    exact r_irets (pc := 10) h rfl dX7_readTimes_10
  · refine r_aload_n (pc := 11) dX7_readTimes_11 rfl rfl ?_
    refine r_dup (pc := 12) dX7_readTimes_12 rfl ?_
    refine r_gIs (pc := 13) dX7_readTimes_13 fw_X7_22 rfl (ok7 ha0) ?_
    refine r_iconst (pc := 16) dX7_readTimes_16 ?_
    refine r_iadd (pc := 17) dX7_readTimes_17 ?_
    refine r_pIs (pc := 18) h dX7_readTimes_18 fw_X7_22 rfl rfl (nf7_2) (ok7 ha0) (fun V3 h => ?_)
    refine r_aload_n (pc := 21) dX7_readTimes_21 rfl rfl ?_
    refine r_callVs (pc := 22) (fun _ => none) (As := []) (rest := []) (b := a0) (ok7 ha0) h dX7_readTimes_22 mw_X7_31 vw_X7_skip (fun _ _ hc => cg_X7_skip ha0 hc) rfl ⟨(Nat.le_of_ble_eq_true rfl), (Nat.le_of_ble_eq_true rfl)⟩ (Nat.le_of_ble_eq_true rfl) rfl (fun _u V4 h => ?_)
    refine r_aload_n (pc := 25) dX7_readTimes_25 rfl rfl ?_
    refine r_iconst (pc := 26) dX7_readTimes_26 ?_
    refine r_iload_n (pc := 27) dX7_readTimes_27 rfl rfl ?_
    refine r_callVs (pc := 28) (fun v => some (sj_i v)) (As := [sj_i 1, sj_i x1]) (rest := []) (b := a0) (ok7 ha0) h dX7_readTimes_28 mw_X7_89 vw_X7_readNumber (fun _ _ hc => cg_X7_readNumber ha0 hc) rfl ⟨(Nat.le_of_ble_eq_true rfl), (Nat.le_of_ble_eq_true rfl)⟩ (Nat.le_of_ble_eq_true rfl) rfl (fun v6 V5 h => ?_)
    exact r_irets (pc := 31) h rfl dX7_readTimes_31
set_option maxHeartbeats 4000000 in
theorem cg_X7_readTimes {X : sj_X} {g : sj_G} {N : Nat} {a0 : Nat} {x1 : Int} {V : sj_VV} {q : Int × sj_VV} (ha0 : OK7 g a0) (h : g_X7_readTimes N a0 x1 V = some q) : sj_C X m_X7_readTimes [sj_r (some a0), sj_i x1] (g, V) (some (sj_i q.1), (g, q.2)) :=
  sj_C_of (by decide +kernel) (Nat.le_of_ble_eq_true rfl) (lo := [some (sj_r (some a0)), some (sj_i x1)]) rfl (sj_weak (l2 := [some (sj_r (some a0)), some (sj_i x1)]) (⟨rfl, ⟨rfl, trivial⟩⟩) (st_X7_readTimes_0 a0 x1 V ha0 h))
set_option maxHeartbeats 4000000 in
theorem c_X7_readTimes {X : sj_X} {N : Nat} {a0 : Nat} {x1 : Int} {s : sj_Mem} {q : Int × sj_Mem} (h : f_X7_readTimes N a0 x1 s = some q) : sj_C X m_X7_readTimes [sj_r (some a0), sj_i x1] s (some (sj_i q.1), q.2) := by
  obtain ⟨g, V⟩ := s
  unfold f_X7_readTimes at h
  obtain ⟨ho, h1⟩ := e_ok_some h
  obtain ⟨q2, h2, rfl⟩ := sj_map_some h1
  exact cg_X7_readTimes ho h2
