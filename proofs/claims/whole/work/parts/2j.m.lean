theorem dX9_word_0 : decode cX9_word 0 = .ok (.aload_n 0, 1) := by decide +kernel
theorem dX9_word_1 : decode cX9_word 1 = .ok (.bipush 6, 2) := by decide +kernel
theorem dX9_word_3 : decode cX9_word 3 = .ok (.bipush 103, 2) := by decide +kernel
theorem dX9_word_5 : decode cX9_word 5 = .ok (.bipush 114, 2) := by decide +kernel
theorem dX9_word_7 : decode cX9_word 7 = .ok (.bipush 111, 2) := by decide +kernel
theorem dX9_word_9 : decode cX9_word 9 = .ok (.bipush 117, 2) := by decide +kernel
theorem dX9_word_11 : decode cX9_word 11 = .ok (.bipush 110, 2) := by decide +kernel
theorem dX9_word_13 : decode cX9_word 13 = .ok (.bipush 100, 2) := by decide +kernel
theorem dX9_word_15 : decode cX9_word 15 = .ok (.iconst 0, 1) := by decide +kernel
theorem dX9_word_16 : decode cX9_word 16 = .ok (.invokevirtual 379, 3) := by decide +kernel
theorem dX9_word_19 : decode cX9_word 19 = .ok (.ifCond .eq 5, 3) := by decide +kernel
theorem dX9_word_22 : decode cX9_word 22 = .ok (.iconst 0, 1) := by decide +kernel
theorem dX9_word_23 : decode cX9_word 23 = .ok (.ireturn, 1) := by decide +kernel
theorem dX9_word_24 : decode cX9_word 24 = .ok (.aload_n 0, 1) := by decide +kernel
theorem dX9_word_25 : decode cX9_word 25 = .ok (.iconst 4, 1) := by decide +kernel
theorem dX9_word_26 : decode cX9_word 26 = .ok (.bipush 114, 2) := by decide +kernel
theorem dX9_word_28 : decode cX9_word 28 = .ok (.bipush 111, 2) := by decide +kernel
theorem dX9_word_30 : decode cX9_word 30 = .ok (.bipush 99, 2) := by decide +kernel
theorem dX9_word_32 : decode cX9_word 32 = .ok (.bipush 107, 2) := by decide +kernel
theorem dX9_word_34 : decode cX9_word 34 = .ok (.iconst 0, 1) := by decide +kernel
theorem dX9_word_35 : decode cX9_word 35 = .ok (.iconst 0, 1) := by decide +kernel
theorem dX9_word_36 : decode cX9_word 36 = .ok (.iconst 0, 1) := by decide +kernel
theorem dX9_word_37 : decode cX9_word 37 = .ok (.invokevirtual 379, 3) := by decide +kernel
theorem dX9_word_40 : decode cX9_word 40 = .ok (.ifCond .eq 5, 3) := by decide +kernel
theorem dX9_word_43 : decode cX9_word 43 = .ok (.iconst 1, 1) := by decide +kernel
theorem dX9_word_44 : decode cX9_word 44 = .ok (.ireturn, 1) := by decide +kernel
theorem dX9_word_45 : decode cX9_word 45 = .ok (.aload_n 0, 1) := by decide +kernel
theorem dX9_word_46 : decode cX9_word 46 = .ok (.iconst 5, 1) := by decide +kernel
theorem dX9_word_47 : decode cX9_word 47 = .ok (.bipush 119, 2) := by decide +kernel
theorem dX9_word_49 : decode cX9_word 49 = .ok (.bipush 97, 2) := by decide +kernel
theorem dX9_word_51 : decode cX9_word 51 = .ok (.bipush 116, 2) := by decide +kernel
theorem dX9_word_53 : decode cX9_word 53 = .ok (.bipush 101, 2) := by decide +kernel
theorem dX9_word_55 : decode cX9_word 55 = .ok (.bipush 114, 2) := by decide +kernel
theorem dX9_word_57 : decode cX9_word 57 = .ok (.iconst 0, 1) := by decide +kernel
theorem dX9_word_58 : decode cX9_word 58 = .ok (.iconst 0, 1) := by decide +kernel
theorem dX9_word_59 : decode cX9_word 59 = .ok (.invokevirtual 379, 3) := by decide +kernel
theorem dX9_word_62 : decode cX9_word 62 = .ok (.ifCond .eq 5, 3) := by decide +kernel
theorem dX9_word_65 : decode cX9_word 65 = .ok (.iconst 2, 1) := by decide +kernel
theorem dX9_word_66 : decode cX9_word 66 = .ok (.ireturn, 1) := by decide +kernel
theorem dX9_word_67 : decode cX9_word 67 = .ok (.aload_n 0, 1) := by decide +kernel
theorem dX9_word_68 : decode cX9_word 68 = .ok (.iconst 4, 1) := by decide +kernel
theorem dX9_word_69 : decode cX9_word 69 = .ok (.bipush 108, 2) := by decide +kernel
theorem dX9_word_71 : decode cX9_word 71 = .ok (.bipush 111, 2) := by decide +kernel
theorem dX9_word_73 : decode cX9_word 73 = .ok (.bipush 97, 2) := by decide +kernel
theorem dX9_word_75 : decode cX9_word 75 = .ok (.bipush 100, 2) := by decide +kernel
theorem dX9_word_77 : decode cX9_word 77 = .ok (.iconst 0, 1) := by decide +kernel
theorem dX9_word_78 : decode cX9_word 78 = .ok (.iconst 0, 1) := by decide +kernel
theorem dX9_word_79 : decode cX9_word 79 = .ok (.iconst 0, 1) := by decide +kernel
theorem dX9_word_80 : decode cX9_word 80 = .ok (.invokevirtual 379, 3) := by decide +kernel
theorem dX9_word_83 : decode cX9_word 83 = .ok (.ifCond .eq 5, 3) := by decide +kernel
theorem dX9_word_86 : decode cX9_word 86 = .ok (.iconst 3, 1) := by decide +kernel
theorem dX9_word_87 : decode cX9_word 87 = .ok (.ireturn, 1) := by decide +kernel
theorem dX9_word_88 : decode cX9_word 88 = .ok (.aload_n 0, 1) := by decide +kernel
theorem dX9_word_89 : decode cX9_word 89 = .ok (.iconst 5, 1) := by decide +kernel
theorem dX9_word_90 : decode cX9_word 90 = .ok (.bipush 113, 2) := by decide +kernel
theorem dX9_word_92 : decode cX9_word 92 = .ok (.bipush 117, 2) := by decide +kernel
theorem dX9_word_94 : decode cX9_word 94 = .ok (.bipush 97, 2) := by decide +kernel
theorem dX9_word_96 : decode cX9_word 96 = .ok (.bipush 107, 2) := by decide +kernel
theorem dX9_word_98 : decode cX9_word 98 = .ok (.bipush 101, 2) := by decide +kernel
theorem dX9_word_100 : decode cX9_word 100 = .ok (.iconst 0, 1) := by decide +kernel
theorem dX9_word_101 : decode cX9_word 101 = .ok (.iconst 0, 1) := by decide +kernel
theorem dX9_word_102 : decode cX9_word 102 = .ok (.invokevirtual 379, 3) := by decide +kernel
theorem dX9_word_105 : decode cX9_word 105 = .ok (.ifCond .eq 5, 3) := by decide +kernel
theorem dX9_word_108 : decode cX9_word 108 = .ok (.iconst 4, 1) := by decide +kernel
theorem dX9_word_109 : decode cX9_word 109 = .ok (.ireturn, 1) := by decide +kernel
theorem dX9_word_110 : decode cX9_word 110 = .ok (.aload_n 0, 1) := by decide +kernel
theorem dX9_word_111 : decode cX9_word 111 = .ok (.iconst 3, 1) := by decide +kernel
theorem dX9_word_112 : decode cX9_word 112 = .ok (.bipush 116, 2) := by decide +kernel
theorem dX9_word_114 : decode cX9_word 114 = .ok (.bipush 111, 2) := by decide +kernel
theorem dX9_word_116 : decode cX9_word 116 = .ok (.bipush 112, 2) := by decide +kernel
theorem dX9_word_118 : decode cX9_word 118 = .ok (.iconst 0, 1) := by decide +kernel
theorem dX9_word_119 : decode cX9_word 119 = .ok (.iconst 0, 1) := by decide +kernel
theorem dX9_word_120 : decode cX9_word 120 = .ok (.iconst 0, 1) := by decide +kernel
theorem dX9_word_121 : decode cX9_word 121 = .ok (.iconst 0, 1) := by decide +kernel
theorem dX9_word_122 : decode cX9_word 122 = .ok (.invokevirtual 379, 3) := by decide +kernel
theorem dX9_word_125 : decode cX9_word 125 = .ok (.ifCond .eq 5, 3) := by decide +kernel
theorem dX9_word_128 : decode cX9_word 128 = .ok (.iconst 5, 1) := by decide +kernel
theorem dX9_word_129 : decode cX9_word 129 = .ok (.ireturn, 1) := by decide +kernel
theorem dX9_word_130 : decode cX9_word 130 = .ok (.aload_n 0, 1) := by decide +kernel
theorem dX9_word_131 : decode cX9_word 131 = .ok (.iconst 4, 1) := by decide +kernel
theorem dX9_word_132 : decode cX9_word 132 = .ok (.bipush 115, 2) := by decide +kernel
theorem dX9_word_134 : decode cX9_word 134 = .ok (.bipush 111, 2) := by decide +kernel
theorem dX9_word_136 : decode cX9_word 136 = .ok (.bipush 105, 2) := by decide +kernel
theorem dX9_word_138 : decode cX9_word 138 = .ok (.bipush 108, 2) := by decide +kernel
theorem dX9_word_140 : decode cX9_word 140 = .ok (.iconst 0, 1) := by decide +kernel
theorem dX9_word_141 : decode cX9_word 141 = .ok (.iconst 0, 1) := by decide +kernel
theorem dX9_word_142 : decode cX9_word 142 = .ok (.iconst 0, 1) := by decide +kernel
theorem dX9_word_143 : decode cX9_word 143 = .ok (.invokevirtual 379, 3) := by decide +kernel
theorem dX9_word_146 : decode cX9_word 146 = .ok (.ifCond .eq 6, 3) := by decide +kernel
theorem dX9_word_149 : decode cX9_word 149 = .ok (.bipush 6, 2) := by decide +kernel
theorem dX9_word_151 : decode cX9_word 151 = .ok (.ireturn, 1) := by decide +kernel
theorem dX9_word_152 : decode cX9_word 152 = .ok (.aload_n 0, 1) := by decide +kernel
theorem dX9_word_153 : decode cX9_word 153 = .ok (.bipush 6, 2) := by decide +kernel
theorem dX9_word_155 : decode cX9_word 155 = .ok (.bipush 97, 2) := by decide +kernel
theorem dX9_word_157 : decode cX9_word 157 = .ok (.bipush 110, 2) := by decide +kernel
theorem dX9_word_159 : decode cX9_word 159 = .ok (.bipush 99, 2) := by decide +kernel
theorem dX9_word_161 : decode cX9_word 161 = .ok (.bipush 104, 2) := by decide +kernel
theorem dX9_word_163 : decode cX9_word 163 = .ok (.bipush 111, 2) := by decide +kernel
theorem dX9_word_165 : decode cX9_word 165 = .ok (.bipush 114, 2) := by decide +kernel
theorem dX9_word_167 : decode cX9_word 167 = .ok (.iconst 0, 1) := by decide +kernel
theorem dX9_word_168 : decode cX9_word 168 = .ok (.invokevirtual 379, 3) := by decide +kernel
theorem dX9_word_171 : decode cX9_word 171 = .ok (.ifCond .eq 8, 3) := by decide +kernel
theorem dX9_word_174 : decode cX9_word 174 = .ok (.bipush 7, 2) := by decide +kernel
theorem dX9_word_176 : decode cX9_word 176 = .ok (.goto 4, 3) := by decide +kernel
theorem dX9_word_179 : decode cX9_word 179 = .ok (.iconst (-1), 1) := by decide +kernel
theorem dX9_word_180 : decode cX9_word 180 = .ok (.ireturn, 1) := by decide +kernel
set_option maxHeartbeats 4000000 in
theorem t_X9_word_0 {X : sj_X} {s0 : sj_Mem} {N : Nat} {q : Int × sj_Mem} :
    ∀ (a0 : Nat) (s : sj_Mem), f_X9_word N a0 s = some q → sj_T X m_X9_word s0 (some (sj_i q.1), q.2) 0 [some (sj_r (some a0))] [] s := by
  intro a0 s h
  unfold f_X9_word at h
  refine r_aload_n (pc := 0) dX9_word_0 rfl rfl ?_
  refine r_bipush (pc := 1) dX9_word_1 ⟨by decide, by decide⟩ ?_
  refine r_bipush (pc := 3) dX9_word_3 ⟨by decide, by decide⟩ ?_
  refine r_bipush (pc := 5) dX9_word_5 ⟨by decide, by decide⟩ ?_
  refine r_bipush (pc := 7) dX9_word_7 ⟨by decide, by decide⟩ ?_
  refine r_bipush (pc := 9) dX9_word_9 ⟨by decide, by decide⟩ ?_
  refine r_bipush (pc := 11) dX9_word_11 ⟨by decide, by decide⟩ ?_
  refine r_bipush (pc := 13) dX9_word_13 ⟨by decide, by decide⟩ ?_
  refine r_iconst (pc := 15) dX9_word_15 ?_
  refine r_callV (pc := 16) (fun v => some (sj_i v)) (As := [sj_i 6, sj_i 103, sj_i 114, sj_i 111, sj_i 117, sj_i 110, sj_i 100, sj_i 0]) (rest := []) h dX9_word_16 mw_X9_379 vw_X9_spells (fun _ _ hc => c_X9_spells hc) rfl ⟨(Nat.le_of_ble_eq_true rfl), (Nat.le_of_ble_eq_true rfl)⟩ (Nat.le_of_ble_eq_true rfl) rfl (fun v2 s1 h => ?_)
  refine r_if_eq (pc := 19) (tgt := 24) h dX9_word_19 (by decide) (fun h => ?_) (fun h => ?_)
  · refine r_aload_n (pc := 24) dX9_word_24 rfl rfl ?_
    refine r_iconst (pc := 25) dX9_word_25 ?_
    refine r_bipush (pc := 26) dX9_word_26 ⟨by decide, by decide⟩ ?_
    refine r_bipush (pc := 28) dX9_word_28 ⟨by decide, by decide⟩ ?_
    refine r_bipush (pc := 30) dX9_word_30 ⟨by decide, by decide⟩ ?_
    refine r_bipush (pc := 32) dX9_word_32 ⟨by decide, by decide⟩ ?_
    refine r_iconst (pc := 34) dX9_word_34 ?_
    refine r_iconst (pc := 35) dX9_word_35 ?_
    refine r_iconst (pc := 36) dX9_word_36 ?_
    refine r_callV (pc := 37) (fun v => some (sj_i v)) (As := [sj_i 4, sj_i 114, sj_i 111, sj_i 99, sj_i 107, sj_i 0, sj_i 0, sj_i 0]) (rest := []) h dX9_word_37 mw_X9_379 vw_X9_spells (fun _ _ hc => c_X9_spells hc) rfl ⟨(Nat.le_of_ble_eq_true rfl), (Nat.le_of_ble_eq_true rfl)⟩ (Nat.le_of_ble_eq_true rfl) rfl (fun v4 s3 h => ?_)
    refine r_if_eq (pc := 40) (tgt := 45) h dX9_word_40 (by decide) (fun h => ?_) (fun h => ?_)
    · refine r_aload_n (pc := 45) dX9_word_45 rfl rfl ?_
      refine r_iconst (pc := 46) dX9_word_46 ?_
      refine r_bipush (pc := 47) dX9_word_47 ⟨by decide, by decide⟩ ?_
      refine r_bipush (pc := 49) dX9_word_49 ⟨by decide, by decide⟩ ?_
      refine r_bipush (pc := 51) dX9_word_51 ⟨by decide, by decide⟩ ?_
      refine r_bipush (pc := 53) dX9_word_53 ⟨by decide, by decide⟩ ?_
      refine r_bipush (pc := 55) dX9_word_55 ⟨by decide, by decide⟩ ?_
      refine r_iconst (pc := 57) dX9_word_57 ?_
      refine r_iconst (pc := 58) dX9_word_58 ?_
      refine r_callV (pc := 59) (fun v => some (sj_i v)) (As := [sj_i 5, sj_i 119, sj_i 97, sj_i 116, sj_i 101, sj_i 114, sj_i 0, sj_i 0]) (rest := []) h dX9_word_59 mw_X9_379 vw_X9_spells (fun _ _ hc => c_X9_spells hc) rfl ⟨(Nat.le_of_ble_eq_true rfl), (Nat.le_of_ble_eq_true rfl)⟩ (Nat.le_of_ble_eq_true rfl) rfl (fun v6 s5 h => ?_)
      refine r_if_eq (pc := 62) (tgt := 67) h dX9_word_62 (by decide) (fun h => ?_) (fun h => ?_)
      · refine r_aload_n (pc := 67) dX9_word_67 rfl rfl ?_
        refine r_iconst (pc := 68) dX9_word_68 ?_
        refine r_bipush (pc := 69) dX9_word_69 ⟨by decide, by decide⟩ ?_
        refine r_bipush (pc := 71) dX9_word_71 ⟨by decide, by decide⟩ ?_
        refine r_bipush (pc := 73) dX9_word_73 ⟨by decide, by decide⟩ ?_
        refine r_bipush (pc := 75) dX9_word_75 ⟨by decide, by decide⟩ ?_
        refine r_iconst (pc := 77) dX9_word_77 ?_
        refine r_iconst (pc := 78) dX9_word_78 ?_
        refine r_iconst (pc := 79) dX9_word_79 ?_
        refine r_callV (pc := 80) (fun v => some (sj_i v)) (As := [sj_i 4, sj_i 108, sj_i 111, sj_i 97, sj_i 100, sj_i 0, sj_i 0, sj_i 0]) (rest := []) h dX9_word_80 mw_X9_379 vw_X9_spells (fun _ _ hc => c_X9_spells hc) rfl ⟨(Nat.le_of_ble_eq_true rfl), (Nat.le_of_ble_eq_true rfl)⟩ (Nat.le_of_ble_eq_true rfl) rfl (fun v8 s7 h => ?_)
        refine r_if_eq (pc := 83) (tgt := 88) h dX9_word_83 (by decide) (fun h => ?_) (fun h => ?_)
        · refine r_aload_n (pc := 88) dX9_word_88 rfl rfl ?_
          refine r_iconst (pc := 89) dX9_word_89 ?_
          refine r_bipush (pc := 90) dX9_word_90 ⟨by decide, by decide⟩ ?_
          refine r_bipush (pc := 92) dX9_word_92 ⟨by decide, by decide⟩ ?_
          refine r_bipush (pc := 94) dX9_word_94 ⟨by decide, by decide⟩ ?_
          refine r_bipush (pc := 96) dX9_word_96 ⟨by decide, by decide⟩ ?_
          refine r_bipush (pc := 98) dX9_word_98 ⟨by decide, by decide⟩ ?_
          refine r_iconst (pc := 100) dX9_word_100 ?_
          refine r_iconst (pc := 101) dX9_word_101 ?_
          refine r_callV (pc := 102) (fun v => some (sj_i v)) (As := [sj_i 5, sj_i 113, sj_i 117, sj_i 97, sj_i 107, sj_i 101, sj_i 0, sj_i 0]) (rest := []) h dX9_word_102 mw_X9_379 vw_X9_spells (fun _ _ hc => c_X9_spells hc) rfl ⟨(Nat.le_of_ble_eq_true rfl), (Nat.le_of_ble_eq_true rfl)⟩ (Nat.le_of_ble_eq_true rfl) rfl (fun v10 s9 h => ?_)
          refine r_if_eq (pc := 105) (tgt := 110) h dX9_word_105 (by decide) (fun h => ?_) (fun h => ?_)
          · refine r_aload_n (pc := 110) dX9_word_110 rfl rfl ?_
            refine r_iconst (pc := 111) dX9_word_111 ?_
            refine r_bipush (pc := 112) dX9_word_112 ⟨by decide, by decide⟩ ?_
            refine r_bipush (pc := 114) dX9_word_114 ⟨by decide, by decide⟩ ?_
            refine r_bipush (pc := 116) dX9_word_116 ⟨by decide, by decide⟩ ?_
            refine r_iconst (pc := 118) dX9_word_118 ?_
            refine r_iconst (pc := 119) dX9_word_119 ?_
            refine r_iconst (pc := 120) dX9_word_120 ?_
            refine r_iconst (pc := 121) dX9_word_121 ?_
            refine r_callV (pc := 122) (fun v => some (sj_i v)) (As := [sj_i 3, sj_i 116, sj_i 111, sj_i 112, sj_i 0, sj_i 0, sj_i 0, sj_i 0]) (rest := []) h dX9_word_122 mw_X9_379 vw_X9_spells (fun _ _ hc => c_X9_spells hc) rfl ⟨(Nat.le_of_ble_eq_true rfl), (Nat.le_of_ble_eq_true rfl)⟩ (Nat.le_of_ble_eq_true rfl) rfl (fun v12 s11 h => ?_)
            refine r_if_eq (pc := 125) (tgt := 130) h dX9_word_125 (by decide) (fun h => ?_) (fun h => ?_)
            · refine r_aload_n (pc := 130) dX9_word_130 rfl rfl ?_
              refine r_iconst (pc := 131) dX9_word_131 ?_
              refine r_bipush (pc := 132) dX9_word_132 ⟨by decide, by decide⟩ ?_
              refine r_bipush (pc := 134) dX9_word_134 ⟨by decide, by decide⟩ ?_
              refine r_bipush (pc := 136) dX9_word_136 ⟨by decide, by decide⟩ ?_
              refine r_bipush (pc := 138) dX9_word_138 ⟨by decide, by decide⟩ ?_
              refine r_iconst (pc := 140) dX9_word_140 ?_
              refine r_iconst (pc := 141) dX9_word_141 ?_
              refine r_iconst (pc := 142) dX9_word_142 ?_
              refine r_callV (pc := 143) (fun v => some (sj_i v)) (As := [sj_i 4, sj_i 115, sj_i 111, sj_i 105, sj_i 108, sj_i 0, sj_i 0, sj_i 0]) (rest := []) h dX9_word_143 mw_X9_379 vw_X9_spells (fun _ _ hc => c_X9_spells hc) rfl ⟨(Nat.le_of_ble_eq_true rfl), (Nat.le_of_ble_eq_true rfl)⟩ (Nat.le_of_ble_eq_true rfl) rfl (fun v14 s13 h => ?_)
              refine r_if_eq (pc := 146) (tgt := 152) h dX9_word_146 (by decide) (fun h => ?_) (fun h => ?_)
              · refine r_aload_n (pc := 152) dX9_word_152 rfl rfl ?_
                refine r_bipush (pc := 153) dX9_word_153 ⟨by decide, by decide⟩ ?_
                refine r_bipush (pc := 155) dX9_word_155 ⟨by decide, by decide⟩ ?_
                refine r_bipush (pc := 157) dX9_word_157 ⟨by decide, by decide⟩ ?_
                refine r_bipush (pc := 159) dX9_word_159 ⟨by decide, by decide⟩ ?_
                refine r_bipush (pc := 161) dX9_word_161 ⟨by decide, by decide⟩ ?_
                refine r_bipush (pc := 163) dX9_word_163 ⟨by decide, by decide⟩ ?_
                refine r_bipush (pc := 165) dX9_word_165 ⟨by decide, by decide⟩ ?_
                refine r_iconst (pc := 167) dX9_word_167 ?_
                refine r_callV (pc := 168) (fun v => some (sj_i v)) (As := [sj_i 6, sj_i 97, sj_i 110, sj_i 99, sj_i 104, sj_i 111, sj_i 114, sj_i 0]) (rest := []) h dX9_word_168 mw_X9_379 vw_X9_spells (fun _ _ hc => c_X9_spells hc) rfl ⟨(Nat.le_of_ble_eq_true rfl), (Nat.le_of_ble_eq_true rfl)⟩ (Nat.le_of_ble_eq_true rfl) rfl (fun v16 s15 h => ?_)
                refine r_if_eq (pc := 171) (tgt := 179) h dX9_word_171 (by decide) (fun h => ?_) (fun h => ?_)
                · refine r_iconst (pc := 179) dX9_word_179 ?_
                  exact r_iret (pc := 180) h rfl dX9_word_180
                · refine r_bipush (pc := 174) dX9_word_174 ⟨by decide, by decide⟩ ?_
                  refine r_goto (pc := 176) (tgt := 180) dX9_word_176 (by decide) ?_
                  exact r_iret (pc := 180) h rfl dX9_word_180
              · refine r_bipush (pc := 149) dX9_word_149 ⟨by decide, by decide⟩ ?_
                exact r_iret (pc := 151) h rfl dX9_word_151
            · refine r_iconst (pc := 128) dX9_word_128 ?_
              exact r_iret (pc := 129) h rfl dX9_word_129
          · refine r_iconst (pc := 108) dX9_word_108 ?_
            exact r_iret (pc := 109) h rfl dX9_word_109
        · refine r_iconst (pc := 86) dX9_word_86 ?_
          exact r_iret (pc := 87) h rfl dX9_word_87
      · refine r_iconst (pc := 65) dX9_word_65 ?_
        exact r_iret (pc := 66) h rfl dX9_word_66
    · refine r_iconst (pc := 43) dX9_word_43 ?_
      exact r_iret (pc := 44) h rfl dX9_word_44
  · refine r_iconst (pc := 22) dX9_word_22 ?_
    exact r_iret (pc := 23) h rfl dX9_word_23
set_option maxHeartbeats 4000000 in
theorem c_X9_word {X : sj_X} {N : Nat} {a0 : Nat} {s : sj_Mem} {q : Int × sj_Mem} (h : f_X9_word N a0 s = some q) : sj_C X m_X9_word [sj_r (some a0)] s (some (sj_i q.1), q.2) :=
  sj_C_of (by decide +kernel) (Nat.le_of_ble_eq_true rfl) (lo := [some (sj_r (some a0))]) rfl (sj_weak (l2 := [some (sj_r (some a0))]) (⟨rfl, trivial⟩) (t_X9_word_0 a0 s h))
theorem dX9_tells_0 : decode cX9_tells 0 = .ok (.aload_n 0, 1) := by decide +kernel
theorem dX9_tells_1 : decode cX9_tells 1 = .ok (.getfield 346, 3) := by decide +kernel
theorem dX9_tells_4 : decode cX9_tells 4 = .ok (.ifCond .eq 4, 3) := by decide +kernel
theorem dX9_tells_7 : decode cX9_tells 7 = .ok (.return_, 1) := by decide +kernel
theorem dX9_tells_8 : decode cX9_tells 8 = .ok (.aload_n 0, 1) := by decide +kernel
theorem dX9_tells_9 : decode cX9_tells 9 = .ok (.getfield 49, 3) := by decide +kernel
theorem dX9_tells_12 : decode cX9_tells 12 = .ok (.iload_n 1, 1) := by decide +kernel
theorem dX9_tells_13 : decode cX9_tells 13 = .ok (.baload, 1) := by decide +kernel
theorem dX9_tells_14 : decode cX9_tells 14 = .ok (.ifCond .eq 9, 3) := by decide +kernel
theorem dX9_tells_17 : decode cX9_tells 17 = .ok (.aload_n 0, 1) := by decide +kernel
theorem dX9_tells_18 : decode cX9_tells 18 = .ok (.iconst 3, 1) := by decide +kernel
theorem dX9_tells_19 : decode cX9_tells 19 = .ok (.iload_n 2, 1) := by decide +kernel
theorem dX9_tells_20 : decode cX9_tells 20 = .ok (.invokevirtual 362, 3) := by decide +kernel
theorem dX9_tells_23 : decode cX9_tells 23 = .ok (.aload_n 0, 1) := by decide +kernel
theorem dX9_tells_24 : decode cX9_tells 24 = .ok (.getfield 49, 3) := by decide +kernel
theorem dX9_tells_27 : decode cX9_tells 27 = .ok (.iload_n 1, 1) := by decide +kernel
theorem dX9_tells_28 : decode cX9_tells 28 = .ok (.iconst 1, 1) := by decide +kernel
theorem dX9_tells_29 : decode cX9_tells 29 = .ok (.bastore, 1) := by decide +kernel
theorem dX9_tells_30 : decode cX9_tells 30 = .ok (.return_, 1) := by decide +kernel
set_option maxHeartbeats 4000000 in
theorem t_X9_tells_23 {X : sj_X} {s0 : sj_Mem} {N : Nat} {q : Unit × sj_Mem} :
    ∀ (a0 : Nat) (x1 : Int) (s : sj_Mem), f_X9_tells_23 N a0 x1 s = some q → sj_T X m_X9_tells s0 (none, q.2) 23 [some (sj_r (some a0)), some (sj_i x1), none] [] s := by
  intro a0 x1 s h
  unfold f_X9_tells_23 at h
  refine r_aload_n (pc := 23) dX9_tells_23 rfl rfl ?_
  refine r_gR (pc := 24) h dX9_tells_24 fw_X9_49 rfl (fun r1 h => ?_)
  refine r_iload_n (pc := 27) dX9_tells_27 rfl rfl ?_
  refine r_iconst (pc := 28) dX9_tells_28 ?_
  obtain ⟨a2, ea2, g⟩ := e_nn_some h
  clear h
  subst ea2
  have h := g
  clear g
  refine r_zastore (pc := 29) h dX9_tells_29 (fun s3 h => ?_)
  exact r_vret (pc := 30) h rfl dX9_tells_30
set_option maxHeartbeats 4000000 in
theorem t_X9_tells_0 {X : sj_X} {s0 : sj_Mem} {N : Nat} {q : Unit × sj_Mem} :
    ∀ (a0 : Nat) (x1 : Int) (x2 : Int) (s : sj_Mem), f_X9_tells N a0 x1 x2 s = some q → sj_T X m_X9_tells s0 (none, q.2) 0 [some (sj_r (some a0)), some (sj_i x1), some (sj_i x2)] [] s := by
  intro a0 x1 x2 s h
  unfold f_X9_tells at h
  refine r_aload_n (pc := 0) dX9_tells_0 rfl rfl ?_
  refine r_gI (pc := 1) h dX9_tells_1 fw_X9_346 rfl (fun v1 h => ?_)
  refine r_if_eq (pc := 4) (tgt := 8) h dX9_tells_4 (by decide) (fun h => ?_) (fun h => ?_)
  · refine r_aload_n (pc := 8) dX9_tells_8 rfl rfl ?_
    refine r_gR (pc := 9) h dX9_tells_9 fw_X9_49 rfl (fun r2 h => ?_)
    refine r_iload_n (pc := 12) dX9_tells_12 rfl rfl ?_
    obtain ⟨a3, ea3, g⟩ := e_nn_some h
    clear h
    subst ea3
    have h := g
    clear g
    refine r_zaload (pc := 13) h dX9_tells_13 (fun v4 h => ?_)
    refine r_if_eq (pc := 14) (tgt := 23) h dX9_tells_14 (by decide) (fun h => ?_) (fun h => ?_)
    · exact sj_weak (l2 := [some (sj_r (some a0)), some (sj_i x1), none]) (⟨rfl, ⟨rfl, trivial⟩⟩) (t_X9_tells_23 a0 x1 s h)
    · refine r_aload_n (pc := 17) dX9_tells_17 rfl rfl ?_
      refine r_iconst (pc := 18) dX9_tells_18 ?_
      refine r_iload_n (pc := 19) dX9_tells_19 rfl rfl ?_
      refine r_callV (pc := 20) (fun _ => none) (As := [sj_i 3, sj_i x2]) (rest := []) h dX9_tells_20 mw_X9_362 vw_X9_wrong (fun _ _ hc => c_X9_wrong hc) rfl ⟨(Nat.le_of_ble_eq_true rfl), (Nat.le_of_ble_eq_true rfl)⟩ (Nat.le_of_ble_eq_true rfl) rfl (fun _u s5 h => ?_)
      exact sj_weak (l2 := [some (sj_r (some a0)), some (sj_i x1), none]) (⟨rfl, ⟨rfl, trivial⟩⟩) (t_X9_tells_23 a0 x1 s5 h)
  · exact r_vret (pc := 7) h rfl dX9_tells_7
set_option maxHeartbeats 4000000 in
theorem c_X9_tells {X : sj_X} {N : Nat} {a0 : Nat} {x1 : Int} {x2 : Int} {s : sj_Mem} {q : Unit × sj_Mem} (h : f_X9_tells N a0 x1 x2 s = some q) : sj_C X m_X9_tells [sj_r (some a0), sj_i x1, sj_i x2] s (none, q.2) :=
  sj_C_of (by decide +kernel) (Nat.le_of_ble_eq_true rfl) (lo := [some (sj_r (some a0)), some (sj_i x1), some (sj_i x2)]) rfl (sj_weak (l2 := [some (sj_r (some a0)), some (sj_i x1), some (sj_i x2)]) (⟨rfl, ⟨rfl, ⟨rfl, trivial⟩⟩⟩) (t_X9_tells_0 a0 x1 x2 s h))
theorem dX9_anchorLine_0 : decode cX9_anchorLine 0 = .ok (.aload_n 0, 1) := by decide +kernel
theorem dX9_anchorLine_1 : decode cX9_anchorLine 1 = .ok (.iconst 0, 1) := by decide +kernel
theorem dX9_anchorLine_2 : decode cX9_anchorLine 2 = .ok (.iconst 5, 1) := by decide +kernel
theorem dX9_anchorLine_3 : decode cX9_anchorLine 3 = .ok (.invokevirtual 383, 3) := by decide +kernel
theorem dX9_anchorLine_6 : decode cX9_anchorLine 6 = .ok (.istore_n 1, 1) := by decide +kernel
theorem dX9_anchorLine_7 : decode cX9_anchorLine 7 = .ok (.aload_n 0, 1) := by decide +kernel
theorem dX9_anchorLine_8 : decode cX9_anchorLine 8 = .ok (.bipush 12, 2) := by decide +kernel
theorem dX9_anchorLine_10 : decode cX9_anchorLine 10 = .ok (.iload_n 1, 1) := by decide +kernel
theorem dX9_anchorLine_11 : decode cX9_anchorLine 11 = .ok (.iadd, 1) := by decide +kernel
theorem dX9_anchorLine_12 : decode cX9_anchorLine 12 = .ok (.aload_n 0, 1) := by decide +kernel
theorem dX9_anchorLine_13 : decode cX9_anchorLine 13 = .ok (.getfield 368, 3) := by decide +kernel
theorem dX9_anchorLine_16 : decode cX9_anchorLine 16 = .ok (.invokevirtual 386, 3) := by decide +kernel
theorem dX9_anchorLine_19 : decode cX9_anchorLine 19 = .ok (.aload_n 0, 1) := by decide +kernel
theorem dX9_anchorLine_20 : decode cX9_anchorLine 20 = .ok (.getfield 9, 3) := by decide +kernel
theorem dX9_anchorLine_23 : decode cX9_anchorLine 23 = .ok (.sipush 302, 3) := by decide +kernel
theorem dX9_anchorLine_26 : decode cX9_anchorLine 26 = .ok (.iconst 3, 1) := by decide +kernel
theorem dX9_anchorLine_27 : decode cX9_anchorLine 27 = .ok (.iload_n 1, 1) := by decide +kernel
theorem dX9_anchorLine_28 : decode cX9_anchorLine 28 = .ok (.imul, 1) := by decide +kernel
theorem dX9_anchorLine_29 : decode cX9_anchorLine 29 = .ok (.iadd, 1) := by decide +kernel
theorem dX9_anchorLine_30 : decode cX9_anchorLine 30 = .ok (.aload_n 0, 1) := by decide +kernel
theorem dX9_anchorLine_31 : decode cX9_anchorLine 31 = .ok (.iconst 0, 1) := by decide +kernel
theorem dX9_anchorLine_32 : decode cX9_anchorLine 32 = .ok (.aload_n 0, 1) := by decide +kernel
theorem dX9_anchorLine_33 : decode cX9_anchorLine 33 = .ok (.getfield 9, 3) := by decide +kernel
theorem dX9_anchorLine_36 : decode cX9_anchorLine 36 = .ok (.iconst 0, 1) := by decide +kernel
theorem dX9_anchorLine_37 : decode cX9_anchorLine 37 = .ok (.iaload, 1) := by decide +kernel
theorem dX9_anchorLine_38 : decode cX9_anchorLine 38 = .ok (.invokevirtual 383, 3) := by decide +kernel
theorem dX9_anchorLine_41 : decode cX9_anchorLine 41 = .ok (.iastore, 1) := by decide +kernel
theorem dX9_anchorLine_42 : decode cX9_anchorLine 42 = .ok (.aload_n 0, 1) := by decide +kernel
theorem dX9_anchorLine_43 : decode cX9_anchorLine 43 = .ok (.getfield 9, 3) := by decide +kernel
theorem dX9_anchorLine_46 : decode cX9_anchorLine 46 = .ok (.sipush 302, 3) := by decide +kernel
theorem dX9_anchorLine_49 : decode cX9_anchorLine 49 = .ok (.iconst 3, 1) := by decide +kernel
theorem dX9_anchorLine_50 : decode cX9_anchorLine 50 = .ok (.iload_n 1, 1) := by decide +kernel
theorem dX9_anchorLine_51 : decode cX9_anchorLine 51 = .ok (.imul, 1) := by decide +kernel
theorem dX9_anchorLine_52 : decode cX9_anchorLine 52 = .ok (.iadd, 1) := by decide +kernel
theorem dX9_anchorLine_53 : decode cX9_anchorLine 53 = .ok (.iconst 1, 1) := by decide +kernel
theorem dX9_anchorLine_54 : decode cX9_anchorLine 54 = .ok (.iadd, 1) := by decide +kernel
theorem dX9_anchorLine_55 : decode cX9_anchorLine 55 = .ok (.aload_n 0, 1) := by decide +kernel
theorem dX9_anchorLine_56 : decode cX9_anchorLine 56 = .ok (.iconst 0, 1) := by decide +kernel
theorem dX9_anchorLine_57 : decode cX9_anchorLine 57 = .ok (.bipush 100, 2) := by decide +kernel
theorem dX9_anchorLine_59 : decode cX9_anchorLine 59 = .ok (.invokevirtual 383, 3) := by decide +kernel
theorem dX9_anchorLine_62 : decode cX9_anchorLine 62 = .ok (.iastore, 1) := by decide +kernel
theorem dX9_anchorLine_63 : decode cX9_anchorLine 63 = .ok (.aload_n 0, 1) := by decide +kernel
theorem dX9_anchorLine_64 : decode cX9_anchorLine 64 = .ok (.getfield 9, 3) := by decide +kernel
theorem dX9_anchorLine_67 : decode cX9_anchorLine 67 = .ok (.sipush 302, 3) := by decide +kernel
theorem dX9_anchorLine_70 : decode cX9_anchorLine 70 = .ok (.iconst 3, 1) := by decide +kernel
theorem dX9_anchorLine_71 : decode cX9_anchorLine 71 = .ok (.iload_n 1, 1) := by decide +kernel
theorem dX9_anchorLine_72 : decode cX9_anchorLine 72 = .ok (.imul, 1) := by decide +kernel
theorem dX9_anchorLine_73 : decode cX9_anchorLine 73 = .ok (.iadd, 1) := by decide +kernel
theorem dX9_anchorLine_74 : decode cX9_anchorLine 74 = .ok (.iconst 2, 1) := by decide +kernel
theorem dX9_anchorLine_75 : decode cX9_anchorLine 75 = .ok (.iadd, 1) := by decide +kernel
theorem dX9_anchorLine_76 : decode cX9_anchorLine 76 = .ok (.aload_n 0, 1) := by decide +kernel
theorem dX9_anchorLine_77 : decode cX9_anchorLine 77 = .ok (.iconst 1, 1) := by decide +kernel
theorem dX9_anchorLine_78 : decode cX9_anchorLine 78 = .ok (.sipush 500, 3) := by decide +kernel
theorem dX9_anchorLine_81 : decode cX9_anchorLine 81 = .ok (.invokevirtual 383, 3) := by decide +kernel
theorem dX9_anchorLine_84 : decode cX9_anchorLine 84 = .ok (.iastore, 1) := by decide +kernel
theorem dX9_anchorLine_85 : decode cX9_anchorLine 85 = .ok (.return_, 1) := by decide +kernel
set_option maxHeartbeats 4000000 in
theorem t_X9_anchorLine_0 {X : sj_X} {s0 : sj_Mem} {N : Nat} {q : Unit × sj_Mem} :
    ∀ (a0 : Nat) (s : sj_Mem), f_X9_anchorLine N a0 s = some q → sj_T X m_X9_anchorLine s0 (none, q.2) 0 [some (sj_r (some a0)), none] [] s := by
  intro a0 s h
  unfold f_X9_anchorLine at h
  refine r_aload_n (pc := 0) dX9_anchorLine_0 rfl rfl ?_
  refine r_iconst (pc := 1) dX9_anchorLine_1 ?_
  refine r_iconst (pc := 2) dX9_anchorLine_2 ?_
  refine r_callV (pc := 3) (fun v => some (sj_i v)) (As := [sj_i 0, sj_i 5]) (rest := []) h dX9_anchorLine_3 mw_X9_383 vw_X9_number (fun _ _ hc => c_X9_number hc) rfl ⟨(Nat.le_of_ble_eq_true rfl), (Nat.le_of_ble_eq_true rfl)⟩ (Nat.le_of_ble_eq_true rfl) rfl (fun v2 s1 h => ?_)
  refine r_istore_n (ln := [some (sj_r (some a0)), some (sj_i v2)]) (pc := 6) dX9_anchorLine_6 rfl (Nat.le_of_ble_eq_true rfl) rfl ?_
  refine r_aload_n (pc := 7) dX9_anchorLine_7 rfl rfl ?_
  refine r_bipush (pc := 8) dX9_anchorLine_8 ⟨by decide, by decide⟩ ?_
  refine r_iload_n (pc := 10) dX9_anchorLine_10 rfl rfl ?_
  refine r_iadd (pc := 11) dX9_anchorLine_11 ?_
  refine r_aload_n (pc := 12) dX9_anchorLine_12 rfl rfl ?_
  refine r_gI (pc := 13) h dX9_anchorLine_13 fw_X9_368 rfl (fun v3 h => ?_)
  refine r_callV (pc := 16) (fun _ => none) (As := [sj_i (12 + v2), sj_i v3]) (rest := []) h dX9_anchorLine_16 mw_X9_386 vw_X9_tells (fun _ _ hc => c_X9_tells hc) rfl ⟨(Nat.le_of_ble_eq_true rfl), (Nat.le_of_ble_eq_true rfl)⟩ (Nat.le_of_ble_eq_true rfl) rfl (fun _u s4 h => ?_)
  refine r_aload_n (pc := 19) dX9_anchorLine_19 rfl rfl ?_
  refine r_gR (pc := 20) h dX9_anchorLine_20 fw_X9_9 rfl (fun r5 h => ?_)
  refine r_sipush (pc := 23) dX9_anchorLine_23 ⟨by decide, by decide⟩ ?_
  refine r_iconst (pc := 26) dX9_anchorLine_26 ?_
  refine r_iload_n (pc := 27) dX9_anchorLine_27 rfl rfl ?_
  refine r_imul (pc := 28) dX9_anchorLine_28 ?_
  refine r_iadd (pc := 29) dX9_anchorLine_29 ?_
  refine r_aload_n (pc := 30) dX9_anchorLine_30 rfl rfl ?_
  refine r_iconst (pc := 31) dX9_anchorLine_31 ?_
  refine r_aload_n (pc := 32) dX9_anchorLine_32 rfl rfl ?_
  refine r_gR (pc := 33) h dX9_anchorLine_33 fw_X9_9 rfl (fun r6 h => ?_)
  refine r_iconst (pc := 36) dX9_anchorLine_36 ?_
  obtain ⟨a7, ea7, g⟩ := e_nn_some h
  clear h
  subst ea7
  have h := g
  clear g
  refine r_iaload (pc := 37) h dX9_anchorLine_37 (fun v8 h => ?_)
  refine r_callV (pc := 38) (fun v => some (sj_i v)) (As := [sj_i 0, sj_i v8]) (rest := [(sj_i (302 + (3 * v2))), (sj_r r5)]) h dX9_anchorLine_38 mw_X9_383 vw_X9_number (fun _ _ hc => c_X9_number hc) rfl ⟨(Nat.le_of_ble_eq_true rfl), (Nat.le_of_ble_eq_true rfl)⟩ (Nat.le_of_ble_eq_true rfl) rfl (fun v10 s9 h => ?_)
  obtain ⟨a11, ea11, g⟩ := e_nn_some h
  clear h
  subst ea11
  have h := g
  clear g
  refine r_iastore (pc := 41) h dX9_anchorLine_41 (fun s12 h => ?_)
  refine r_aload_n (pc := 42) dX9_anchorLine_42 rfl rfl ?_
  refine r_gR (pc := 43) h dX9_anchorLine_43 fw_X9_9 rfl (fun r13 h => ?_)
  refine r_sipush (pc := 46) dX9_anchorLine_46 ⟨by decide, by decide⟩ ?_
  refine r_iconst (pc := 49) dX9_anchorLine_49 ?_
  refine r_iload_n (pc := 50) dX9_anchorLine_50 rfl rfl ?_
  refine r_imul (pc := 51) dX9_anchorLine_51 ?_
  refine r_iadd (pc := 52) dX9_anchorLine_52 ?_
  refine r_iconst (pc := 53) dX9_anchorLine_53 ?_
  refine r_iadd (pc := 54) dX9_anchorLine_54 ?_
  refine r_aload_n (pc := 55) dX9_anchorLine_55 rfl rfl ?_
  refine r_iconst (pc := 56) dX9_anchorLine_56 ?_
  refine r_bipush (pc := 57) dX9_anchorLine_57 ⟨by decide, by decide⟩ ?_
  refine r_callV (pc := 59) (fun v => some (sj_i v)) (As := [sj_i 0, sj_i 100]) (rest := [(sj_i ((302 + (3 * v2)) + 1)), (sj_r r13)]) h dX9_anchorLine_59 mw_X9_383 vw_X9_number (fun _ _ hc => c_X9_number hc) rfl ⟨(Nat.le_of_ble_eq_true rfl), (Nat.le_of_ble_eq_true rfl)⟩ (Nat.le_of_ble_eq_true rfl) rfl (fun v15 s14 h => ?_)
  obtain ⟨a16, ea16, g⟩ := e_nn_some h
  clear h
  subst ea16
  have h := g
  clear g
  refine r_iastore (pc := 62) h dX9_anchorLine_62 (fun s17 h => ?_)
  refine r_aload_n (pc := 63) dX9_anchorLine_63 rfl rfl ?_
  refine r_gR (pc := 64) h dX9_anchorLine_64 fw_X9_9 rfl (fun r18 h => ?_)
  refine r_sipush (pc := 67) dX9_anchorLine_67 ⟨by decide, by decide⟩ ?_
  refine r_iconst (pc := 70) dX9_anchorLine_70 ?_
  refine r_iload_n (pc := 71) dX9_anchorLine_71 rfl rfl ?_
  refine r_imul (pc := 72) dX9_anchorLine_72 ?_
  refine r_iadd (pc := 73) dX9_anchorLine_73 ?_
  refine r_iconst (pc := 74) dX9_anchorLine_74 ?_
  refine r_iadd (pc := 75) dX9_anchorLine_75 ?_
  refine r_aload_n (pc := 76) dX9_anchorLine_76 rfl rfl ?_
  refine r_iconst (pc := 77) dX9_anchorLine_77 ?_
  refine r_sipush (pc := 78) dX9_anchorLine_78 ⟨by decide, by decide⟩ ?_
  refine r_callV (pc := 81) (fun v => some (sj_i v)) (As := [sj_i 1, sj_i 500]) (rest := [(sj_i ((302 + (3 * v2)) + 2)), (sj_r r18)]) h dX9_anchorLine_81 mw_X9_383 vw_X9_number (fun _ _ hc => c_X9_number hc) rfl ⟨(Nat.le_of_ble_eq_true rfl), (Nat.le_of_ble_eq_true rfl)⟩ (Nat.le_of_ble_eq_true rfl) rfl (fun v20 s19 h => ?_)
  obtain ⟨a21, ea21, g⟩ := e_nn_some h
  clear h
  subst ea21
  have h := g
  clear g
  refine r_iastore (pc := 84) h dX9_anchorLine_84 (fun s22 h => ?_)
  exact r_vret (pc := 85) h rfl dX9_anchorLine_85
set_option maxHeartbeats 4000000 in
theorem c_X9_anchorLine {X : sj_X} {N : Nat} {a0 : Nat} {s : sj_Mem} {q : Unit × sj_Mem} (h : f_X9_anchorLine N a0 s = some q) : sj_C X m_X9_anchorLine [sj_r (some a0)] s (none, q.2) :=
  sj_C_of (by decide +kernel) (Nat.le_of_ble_eq_true rfl) (lo := [some (sj_r (some a0)), none]) rfl (sj_weak (l2 := [some (sj_r (some a0)), none]) (⟨rfl, trivial⟩) (t_X9_anchorLine_0 a0 s h))
theorem dX9_soilLine_0 : decode cX9_soilLine 0 = .ok (.aload_n 0, 1) := by decide +kernel
theorem dX9_soilLine_1 : decode cX9_soilLine 1 = .ok (.iconst 0, 1) := by decide +kernel
theorem dX9_soilLine_2 : decode cX9_soilLine 2 = .ok (.iconst 3, 1) := by decide +kernel
theorem dX9_soilLine_3 : decode cX9_soilLine 3 = .ok (.invokevirtual 383, 3) := by decide +kernel
theorem dX9_soilLine_6 : decode cX9_soilLine 6 = .ok (.istore_n 1, 1) := by decide +kernel
theorem dX9_soilLine_7 : decode cX9_soilLine 7 = .ok (.aload_n 0, 1) := by decide +kernel
theorem dX9_soilLine_8 : decode cX9_soilLine 8 = .ok (.bipush 8, 2) := by decide +kernel
theorem dX9_soilLine_10 : decode cX9_soilLine 10 = .ok (.iload_n 1, 1) := by decide +kernel
theorem dX9_soilLine_11 : decode cX9_soilLine 11 = .ok (.iadd, 1) := by decide +kernel
theorem dX9_soilLine_12 : decode cX9_soilLine 12 = .ok (.aload_n 0, 1) := by decide +kernel
theorem dX9_soilLine_13 : decode cX9_soilLine 13 = .ok (.getfield 368, 3) := by decide +kernel
theorem dX9_soilLine_16 : decode cX9_soilLine 16 = .ok (.invokevirtual 386, 3) := by decide +kernel
theorem dX9_soilLine_19 : decode cX9_soilLine 19 = .ok (.aload_n 0, 1) := by decide +kernel
theorem dX9_soilLine_20 : decode cX9_soilLine 20 = .ok (.getfield 9, 3) := by decide +kernel
theorem dX9_soilLine_23 : decode cX9_soilLine 23 = .ok (.sipush 290, 3) := by decide +kernel
theorem dX9_soilLine_26 : decode cX9_soilLine 26 = .ok (.iconst 3, 1) := by decide +kernel
theorem dX9_soilLine_27 : decode cX9_soilLine 27 = .ok (.iload_n 1, 1) := by decide +kernel
theorem dX9_soilLine_28 : decode cX9_soilLine 28 = .ok (.imul, 1) := by decide +kernel
theorem dX9_soilLine_29 : decode cX9_soilLine 29 = .ok (.iadd, 1) := by decide +kernel
theorem dX9_soilLine_30 : decode cX9_soilLine 30 = .ok (.aload_n 0, 1) := by decide +kernel
theorem dX9_soilLine_31 : decode cX9_soilLine 31 = .ok (.iconst 1, 1) := by decide +kernel
theorem dX9_soilLine_32 : decode cX9_soilLine 32 = .ok (.bipush 30, 2) := by decide +kernel
theorem dX9_soilLine_34 : decode cX9_soilLine 34 = .ok (.invokevirtual 383, 3) := by decide +kernel
theorem dX9_soilLine_37 : decode cX9_soilLine 37 = .ok (.iastore, 1) := by decide +kernel
theorem dX9_soilLine_38 : decode cX9_soilLine 38 = .ok (.aload_n 0, 1) := by decide +kernel
theorem dX9_soilLine_39 : decode cX9_soilLine 39 = .ok (.getfield 9, 3) := by decide +kernel
theorem dX9_soilLine_42 : decode cX9_soilLine 42 = .ok (.sipush 290, 3) := by decide +kernel
theorem dX9_soilLine_45 : decode cX9_soilLine 45 = .ok (.iconst 3, 1) := by decide +kernel
theorem dX9_soilLine_46 : decode cX9_soilLine 46 = .ok (.iload_n 1, 1) := by decide +kernel
theorem dX9_soilLine_47 : decode cX9_soilLine 47 = .ok (.imul, 1) := by decide +kernel
theorem dX9_soilLine_48 : decode cX9_soilLine 48 = .ok (.iadd, 1) := by decide +kernel
theorem dX9_soilLine_49 : decode cX9_soilLine 49 = .ok (.iconst 1, 1) := by decide +kernel
theorem dX9_soilLine_50 : decode cX9_soilLine 50 = .ok (.iadd, 1) := by decide +kernel
theorem dX9_soilLine_51 : decode cX9_soilLine 51 = .ok (.aload_n 0, 1) := by decide +kernel
theorem dX9_soilLine_52 : decode cX9_soilLine 52 = .ok (.iconst 0, 1) := by decide +kernel
theorem dX9_soilLine_53 : decode cX9_soilLine 53 = .ok (.sipush 200, 3) := by decide +kernel
theorem dX9_soilLine_56 : decode cX9_soilLine 56 = .ok (.invokevirtual 383, 3) := by decide +kernel
theorem dX9_soilLine_59 : decode cX9_soilLine 59 = .ok (.iastore, 1) := by decide +kernel
theorem dX9_soilLine_60 : decode cX9_soilLine 60 = .ok (.aload_n 0, 1) := by decide +kernel
theorem dX9_soilLine_61 : decode cX9_soilLine 61 = .ok (.getfield 9, 3) := by decide +kernel
theorem dX9_soilLine_64 : decode cX9_soilLine 64 = .ok (.sipush 290, 3) := by decide +kernel
theorem dX9_soilLine_67 : decode cX9_soilLine 67 = .ok (.iconst 3, 1) := by decide +kernel
theorem dX9_soilLine_68 : decode cX9_soilLine 68 = .ok (.iload_n 1, 1) := by decide +kernel
theorem dX9_soilLine_69 : decode cX9_soilLine 69 = .ok (.imul, 1) := by decide +kernel
theorem dX9_soilLine_70 : decode cX9_soilLine 70 = .ok (.iadd, 1) := by decide +kernel
theorem dX9_soilLine_71 : decode cX9_soilLine 71 = .ok (.iconst 2, 1) := by decide +kernel
theorem dX9_soilLine_72 : decode cX9_soilLine 72 = .ok (.iadd, 1) := by decide +kernel
theorem dX9_soilLine_73 : decode cX9_soilLine 73 = .ok (.aload_n 0, 1) := by decide +kernel
theorem dX9_soilLine_74 : decode cX9_soilLine 74 = .ok (.iconst 0, 1) := by decide +kernel
theorem dX9_soilLine_75 : decode cX9_soilLine 75 = .ok (.sipush 1500, 3) := by decide +kernel
theorem dX9_soilLine_78 : decode cX9_soilLine 78 = .ok (.invokevirtual 383, 3) := by decide +kernel
theorem dX9_soilLine_81 : decode cX9_soilLine 81 = .ok (.iastore, 1) := by decide +kernel
theorem dX9_soilLine_82 : decode cX9_soilLine 82 = .ok (.return_, 1) := by decide +kernel
set_option maxHeartbeats 4000000 in
theorem t_X9_soilLine_0 {X : sj_X} {s0 : sj_Mem} {N : Nat} {q : Unit × sj_Mem} :
    ∀ (a0 : Nat) (s : sj_Mem), f_X9_soilLine N a0 s = some q → sj_T X m_X9_soilLine s0 (none, q.2) 0 [some (sj_r (some a0)), none] [] s := by
  intro a0 s h
  unfold f_X9_soilLine at h
  refine r_aload_n (pc := 0) dX9_soilLine_0 rfl rfl ?_
  refine r_iconst (pc := 1) dX9_soilLine_1 ?_
  refine r_iconst (pc := 2) dX9_soilLine_2 ?_
  refine r_callV (pc := 3) (fun v => some (sj_i v)) (As := [sj_i 0, sj_i 3]) (rest := []) h dX9_soilLine_3 mw_X9_383 vw_X9_number (fun _ _ hc => c_X9_number hc) rfl ⟨(Nat.le_of_ble_eq_true rfl), (Nat.le_of_ble_eq_true rfl)⟩ (Nat.le_of_ble_eq_true rfl) rfl (fun v2 s1 h => ?_)
  refine r_istore_n (ln := [some (sj_r (some a0)), some (sj_i v2)]) (pc := 6) dX9_soilLine_6 rfl (Nat.le_of_ble_eq_true rfl) rfl ?_
  refine r_aload_n (pc := 7) dX9_soilLine_7 rfl rfl ?_
  refine r_bipush (pc := 8) dX9_soilLine_8 ⟨by decide, by decide⟩ ?_
  refine r_iload_n (pc := 10) dX9_soilLine_10 rfl rfl ?_
  refine r_iadd (pc := 11) dX9_soilLine_11 ?_
  refine r_aload_n (pc := 12) dX9_soilLine_12 rfl rfl ?_
  refine r_gI (pc := 13) h dX9_soilLine_13 fw_X9_368 rfl (fun v3 h => ?_)
  refine r_callV (pc := 16) (fun _ => none) (As := [sj_i (8 + v2), sj_i v3]) (rest := []) h dX9_soilLine_16 mw_X9_386 vw_X9_tells (fun _ _ hc => c_X9_tells hc) rfl ⟨(Nat.le_of_ble_eq_true rfl), (Nat.le_of_ble_eq_true rfl)⟩ (Nat.le_of_ble_eq_true rfl) rfl (fun _u s4 h => ?_)
  refine r_aload_n (pc := 19) dX9_soilLine_19 rfl rfl ?_
  refine r_gR (pc := 20) h dX9_soilLine_20 fw_X9_9 rfl (fun r5 h => ?_)
  refine r_sipush (pc := 23) dX9_soilLine_23 ⟨by decide, by decide⟩ ?_
  refine r_iconst (pc := 26) dX9_soilLine_26 ?_
  refine r_iload_n (pc := 27) dX9_soilLine_27 rfl rfl ?_
  refine r_imul (pc := 28) dX9_soilLine_28 ?_
  refine r_iadd (pc := 29) dX9_soilLine_29 ?_
  refine r_aload_n (pc := 30) dX9_soilLine_30 rfl rfl ?_
  refine r_iconst (pc := 31) dX9_soilLine_31 ?_
  refine r_bipush (pc := 32) dX9_soilLine_32 ⟨by decide, by decide⟩ ?_
  refine r_callV (pc := 34) (fun v => some (sj_i v)) (As := [sj_i 1, sj_i 30]) (rest := [(sj_i (290 + (3 * v2))), (sj_r r5)]) h dX9_soilLine_34 mw_X9_383 vw_X9_number (fun _ _ hc => c_X9_number hc) rfl ⟨(Nat.le_of_ble_eq_true rfl), (Nat.le_of_ble_eq_true rfl)⟩ (Nat.le_of_ble_eq_true rfl) rfl (fun v7 s6 h => ?_)
  obtain ⟨a8, ea8, g⟩ := e_nn_some h
  clear h
  subst ea8
  have h := g
  clear g
  refine r_iastore (pc := 37) h dX9_soilLine_37 (fun s9 h => ?_)
  refine r_aload_n (pc := 38) dX9_soilLine_38 rfl rfl ?_
  refine r_gR (pc := 39) h dX9_soilLine_39 fw_X9_9 rfl (fun r10 h => ?_)
  refine r_sipush (pc := 42) dX9_soilLine_42 ⟨by decide, by decide⟩ ?_
  refine r_iconst (pc := 45) dX9_soilLine_45 ?_
  refine r_iload_n (pc := 46) dX9_soilLine_46 rfl rfl ?_
  refine r_imul (pc := 47) dX9_soilLine_47 ?_
  refine r_iadd (pc := 48) dX9_soilLine_48 ?_
  refine r_iconst (pc := 49) dX9_soilLine_49 ?_
  refine r_iadd (pc := 50) dX9_soilLine_50 ?_
  refine r_aload_n (pc := 51) dX9_soilLine_51 rfl rfl ?_
  refine r_iconst (pc := 52) dX9_soilLine_52 ?_
  refine r_sipush (pc := 53) dX9_soilLine_53 ⟨by decide, by decide⟩ ?_
  refine r_callV (pc := 56) (fun v => some (sj_i v)) (As := [sj_i 0, sj_i 200]) (rest := [(sj_i ((290 + (3 * v2)) + 1)), (sj_r r10)]) h dX9_soilLine_56 mw_X9_383 vw_X9_number (fun _ _ hc => c_X9_number hc) rfl ⟨(Nat.le_of_ble_eq_true rfl), (Nat.le_of_ble_eq_true rfl)⟩ (Nat.le_of_ble_eq_true rfl) rfl (fun v12 s11 h => ?_)
  obtain ⟨a13, ea13, g⟩ := e_nn_some h
  clear h
  subst ea13
  have h := g
  clear g
  refine r_iastore (pc := 59) h dX9_soilLine_59 (fun s14 h => ?_)
  refine r_aload_n (pc := 60) dX9_soilLine_60 rfl rfl ?_
  refine r_gR (pc := 61) h dX9_soilLine_61 fw_X9_9 rfl (fun r15 h => ?_)
  refine r_sipush (pc := 64) dX9_soilLine_64 ⟨by decide, by decide⟩ ?_
  refine r_iconst (pc := 67) dX9_soilLine_67 ?_
  refine r_iload_n (pc := 68) dX9_soilLine_68 rfl rfl ?_
  refine r_imul (pc := 69) dX9_soilLine_69 ?_
  refine r_iadd (pc := 70) dX9_soilLine_70 ?_
  refine r_iconst (pc := 71) dX9_soilLine_71 ?_
  refine r_iadd (pc := 72) dX9_soilLine_72 ?_
  refine r_aload_n (pc := 73) dX9_soilLine_73 rfl rfl ?_
  refine r_iconst (pc := 74) dX9_soilLine_74 ?_
  refine r_sipush (pc := 75) dX9_soilLine_75 ⟨by decide, by decide⟩ ?_
  refine r_callV (pc := 78) (fun v => some (sj_i v)) (As := [sj_i 0, sj_i 1500]) (rest := [(sj_i ((290 + (3 * v2)) + 2)), (sj_r r15)]) h dX9_soilLine_78 mw_X9_383 vw_X9_number (fun _ _ hc => c_X9_number hc) rfl ⟨(Nat.le_of_ble_eq_true rfl), (Nat.le_of_ble_eq_true rfl)⟩ (Nat.le_of_ble_eq_true rfl) rfl (fun v17 s16 h => ?_)
  obtain ⟨a18, ea18, g⟩ := e_nn_some h
  clear h
  subst ea18
  have h := g
  clear g
  refine r_iastore (pc := 81) h dX9_soilLine_81 (fun s19 h => ?_)
  exact r_vret (pc := 82) h rfl dX9_soilLine_82
set_option maxHeartbeats 4000000 in
theorem c_X9_soilLine {X : sj_X} {N : Nat} {a0 : Nat} {s : sj_Mem} {q : Unit × sj_Mem} (h : f_X9_soilLine N a0 s = some q) : sj_C X m_X9_soilLine [sj_r (some a0)] s (none, q.2) :=
  sj_C_of (by decide +kernel) (Nat.le_of_ble_eq_true rfl) (lo := [some (sj_r (some a0)), none]) rfl (sj_weak (l2 := [some (sj_r (some a0)), none]) (⟨rfl, trivial⟩) (t_X9_soilLine_0 a0 s h))
theorem dX9_runs_0 : decode cX9_runs 0 = .ok (.iconst 0, 1) := by decide +kernel
theorem dX9_runs_1 : decode cX9_runs 1 = .ok (.istore_n 3, 1) := by decide +kernel
theorem dX9_runs_2 : decode cX9_runs 2 = .ok (.aload_n 0, 1) := by decide +kernel
theorem dX9_runs_3 : decode cX9_runs 3 = .ok (.getfield 346, 3) := by decide +kernel
theorem dX9_runs_6 : decode cX9_runs 6 = .ok (.ifCond .ne 133, 3) := by decide +kernel
theorem dX9_runs_9 : decode cX9_runs 9 = .ok (.iload_n 3, 1) := by decide +kernel
theorem dX9_runs_10 : decode cX9_runs 10 = .ok (.ifCond .eq 10, 3) := by decide +kernel
theorem dX9_runs_13 : decode cX9_runs 13 = .ok (.aload_n 0, 1) := by decide +kernel
theorem dX9_runs_14 : decode cX9_runs 14 = .ok (.invokevirtual 365, 3) := by decide +kernel
theorem dX9_runs_17 : decode cX9_runs 17 = .ok (.ifCond .eq 122, 3) := by decide +kernel
theorem dX9_runs_20 : decode cX9_runs 20 = .ok (.iload_n 3, 1) := by decide +kernel
theorem dX9_runs_21 : decode cX9_runs 21 = .ok (.aload_n 0, 1) := by decide +kernel
theorem dX9_runs_22 : decode cX9_runs 22 = .ok (.getfield 9, 3) := by decide +kernel
theorem dX9_runs_25 : decode cX9_runs 25 = .ok (.iconst 0, 1) := by decide +kernel
theorem dX9_runs_26 : decode cX9_runs 26 = .ok (.iaload, 1) := by decide +kernel
theorem dX9_runs_27 : decode cX9_runs 27 = .ok (.if_icmp .le 13, 3) := by decide +kernel
theorem dX9_runs_30 : decode cX9_runs 30 = .ok (.aload_n 0, 1) := by decide +kernel
theorem dX9_runs_31 : decode cX9_runs 31 = .ok (.iconst 1, 1) := by decide +kernel
theorem dX9_runs_32 : decode cX9_runs 32 = .ok (.aload_n 0, 1) := by decide +kernel
theorem dX9_runs_33 : decode cX9_runs 33 = .ok (.getfield 349, 3) := by decide +kernel
theorem dX9_runs_36 : decode cX9_runs 36 = .ok (.invokevirtual 362, 3) := by decide +kernel
theorem dX9_runs_39 : decode cX9_runs 39 = .ok (.return_, 1) := by decide +kernel
theorem dX9_runs_40 : decode cX9_runs 40 = .ok (.aload_n 0, 1) := by decide +kernel
theorem dX9_runs_41 : decode cX9_runs 41 = .ok (.iconst 0, 1) := by decide +kernel
theorem dX9_runs_42 : decode cX9_runs 42 = .ok (.iload_n 2, 1) := by decide +kernel
theorem dX9_runs_43 : decode cX9_runs 43 = .ok (.invokevirtual 383, 3) := by decide +kernel
theorem dX9_runs_46 : decode cX9_runs 46 = .ok (.istore 4, 2) := by decide +kernel
theorem dX9_runs_48 : decode cX9_runs 48 = .ok (.iconst 1, 1) := by decide +kernel
theorem dX9_runs_49 : decode cX9_runs 49 = .ok (.istore 5, 2) := by decide +kernel
theorem dX9_runs_51 : decode cX9_runs 51 = .ok (.aload_n 0, 1) := by decide +kernel
theorem dX9_runs_52 : decode cX9_runs 52 = .ok (.getfield 346, 3) := by decide +kernel
theorem dX9_runs_55 : decode cX9_runs 55 = .ok (.ifCond .ne 39, 3) := by decide +kernel
theorem dX9_runs_58 : decode cX9_runs 58 = .ok (.aload_n 0, 1) := by decide +kernel
theorem dX9_runs_59 : decode cX9_runs 59 = .ok (.bipush 42, 2) := by decide +kernel
theorem dX9_runs_61 : decode cX9_runs 61 = .ok (.invokevirtual 359, 3) := by decide +kernel
theorem dX9_runs_64 : decode cX9_runs 64 = .ok (.ifCond .eq 30, 3) := by decide +kernel
theorem dX9_runs_67 : decode cX9_runs 67 = .ok (.aload_n 0, 1) := by decide +kernel
theorem dX9_runs_68 : decode cX9_runs 68 = .ok (.dup, 1) := by decide +kernel
theorem dX9_runs_69 : decode cX9_runs 69 = .ok (.getfield 349, 3) := by decide +kernel
theorem dX9_runs_72 : decode cX9_runs 72 = .ok (.iconst 1, 1) := by decide +kernel
theorem dX9_runs_73 : decode cX9_runs 73 = .ok (.iadd, 1) := by decide +kernel
theorem dX9_runs_74 : decode cX9_runs 74 = .ok (.putfield 349, 3) := by decide +kernel
theorem dX9_runs_77 : decode cX9_runs 77 = .ok (.aload_n 0, 1) := by decide +kernel
theorem dX9_runs_78 : decode cX9_runs 78 = .ok (.iconst 1, 1) := by decide +kernel
theorem dX9_runs_79 : decode cX9_runs 79 = .ok (.aload_n 0, 1) := by decide +kernel
theorem dX9_runs_80 : decode cX9_runs 80 = .ok (.getfield 9, 3) := by decide +kernel
theorem dX9_runs_83 : decode cX9_runs 83 = .ok (.iconst 0, 1) := by decide +kernel
theorem dX9_runs_84 : decode cX9_runs 84 = .ok (.iaload, 1) := by decide +kernel
theorem dX9_runs_85 : decode cX9_runs 85 = .ok (.iconst 1, 1) := by decide +kernel
theorem dX9_runs_86 : decode cX9_runs 86 = .ok (.iadd, 1) := by decide +kernel
theorem dX9_runs_87 : decode cX9_runs 87 = .ok (.iload_n 3, 1) := by decide +kernel
theorem dX9_runs_88 : decode cX9_runs 88 = .ok (.isub, 1) := by decide +kernel
theorem dX9_runs_89 : decode cX9_runs 89 = .ok (.invokevirtual 383, 3) := by decide +kernel
theorem dX9_runs_92 : decode cX9_runs 92 = .ok (.istore 5, 2) := by decide +kernel
theorem dX9_runs_94 : decode cX9_runs 94 = .ok (.aload_n 0, 1) := by decide +kernel
theorem dX9_runs_95 : decode cX9_runs 95 = .ok (.getfield 346, 3) := by decide +kernel
theorem dX9_runs_98 : decode cX9_runs 98 = .ok (.ifCond .eq 4, 3) := by decide +kernel
theorem dX9_runs_101 : decode cX9_runs 101 = .ok (.return_, 1) := by decide +kernel
theorem dX9_runs_102 : decode cX9_runs 102 = .ok (.iconst 0, 1) := by decide +kernel
theorem dX9_runs_103 : decode cX9_runs 103 = .ok (.istore 6, 2) := by decide +kernel
theorem dX9_runs_105 : decode cX9_runs 105 = .ok (.iload 6, 2) := by decide +kernel
theorem dX9_runs_107 : decode cX9_runs 107 = .ok (.iload 5, 2) := by decide +kernel
theorem dX9_runs_109 : decode cX9_runs 109 = .ok (.if_icmp .ge 22, 3) := by decide +kernel
theorem dX9_runs_112 : decode cX9_runs 112 = .ok (.aload_n 0, 1) := by decide +kernel
theorem dX9_runs_113 : decode cX9_runs 113 = .ok (.getfield 9, 3) := by decide +kernel
theorem dX9_runs_116 : decode cX9_runs 116 = .ok (.iload_n 1, 1) := by decide +kernel
theorem dX9_runs_117 : decode cX9_runs 117 = .ok (.iload_n 3, 1) := by decide +kernel
theorem dX9_runs_118 : decode cX9_runs 118 = .ok (.iadd, 1) := by decide +kernel
theorem dX9_runs_119 : decode cX9_runs 119 = .ok (.iload 6, 2) := by decide +kernel
theorem dX9_runs_121 : decode cX9_runs 121 = .ok (.iadd, 1) := by decide +kernel
theorem dX9_runs_122 : decode cX9_runs 122 = .ok (.iload 4, 2) := by decide +kernel
theorem dX9_runs_124 : decode cX9_runs 124 = .ok (.iastore, 1) := by decide +kernel
theorem dX9_runs_125 : decode cX9_runs 125 = .ok (.iinc 6 1, 3) := by decide +kernel
theorem dX9_runs_128 : decode cX9_runs 128 = .ok (.goto (-23), 3) := by decide +kernel
theorem dX9_runs_131 : decode cX9_runs 131 = .ok (.iload_n 3, 1) := by decide +kernel
theorem dX9_runs_132 : decode cX9_runs 132 = .ok (.iload 5, 2) := by decide +kernel
theorem dX9_runs_134 : decode cX9_runs 134 = .ok (.iadd, 1) := by decide +kernel
theorem dX9_runs_135 : decode cX9_runs 135 = .ok (.istore_n 3, 1) := by decide +kernel
theorem dX9_runs_136 : decode cX9_runs 136 = .ok (.goto (-134), 3) := by decide +kernel
theorem dX9_runs_139 : decode cX9_runs 139 = .ok (.aload_n 0, 1) := by decide +kernel
theorem dX9_runs_140 : decode cX9_runs 140 = .ok (.getfield 346, 3) := by decide +kernel
theorem dX9_runs_143 : decode cX9_runs 143 = .ok (.ifCond .ne 35, 3) := by decide +kernel
theorem dX9_runs_146 : decode cX9_runs 146 = .ok (.iload_n 3, 1) := by decide +kernel
theorem dX9_runs_147 : decode cX9_runs 147 = .ok (.aload_n 0, 1) := by decide +kernel
theorem dX9_runs_148 : decode cX9_runs 148 = .ok (.getfield 9, 3) := by decide +kernel
theorem dX9_runs_151 : decode cX9_runs 151 = .ok (.iconst 0, 1) := by decide +kernel
theorem dX9_runs_152 : decode cX9_runs 152 = .ok (.iaload, 1) := by decide +kernel
theorem dX9_runs_153 : decode cX9_runs 153 = .ok (.if_icmp .gt 25, 3) := by decide +kernel
theorem dX9_runs_156 : decode cX9_runs 156 = .ok (.aload_n 0, 1) := by decide +kernel
theorem dX9_runs_157 : decode cX9_runs 157 = .ok (.aload_n 0, 1) := by decide +kernel
theorem dX9_runs_158 : decode cX9_runs 158 = .ok (.bipush 59, 2) := by decide +kernel
theorem dX9_runs_160 : decode cX9_runs 160 = .ok (.invokevirtual 359, 3) := by decide +kernel
theorem dX9_runs_163 : decode cX9_runs 163 = .ok (.ifCond .eq 7, 3) := by decide +kernel
theorem dX9_runs_166 : decode cX9_runs 166 = .ok (.iconst 2, 1) := by decide +kernel
theorem dX9_runs_167 : decode cX9_runs 167 = .ok (.goto 4, 3) := by decide +kernel
theorem dX9_runs_170 : decode cX9_runs 170 = .ok (.iconst 1, 1) := by decide +kernel
theorem dX9_runs_171 : decode cX9_runs 171 = .ok (.aload_n 0, 1) := by decide +kernel
theorem dX9_runs_172 : decode cX9_runs 172 = .ok (.getfield 349, 3) := by decide +kernel
theorem dX9_runs_175 : decode cX9_runs 175 = .ok (.invokevirtual 362, 3) := by decide +kernel
theorem dX9_runs_178 : decode cX9_runs 178 = .ok (.return_, 1) := by decide +kernel
set_option maxHeartbeats 4000000 in
theorem t_X9_runs_105_b {X : sj_X} {s0 : sj_Mem} {N : Nat} {q : Unit × sj_Mem} {k2 : Nat → Int → Int → Int → sj_Mem → Option (Unit × sj_Mem)} {k105 : Nat → Int → Int → Int → Int → Int → Int → sj_Mem → Option (Unit × sj_Mem)} (hk2 : ∀ (a0 : Nat) (x1 : Int) (x2 : Int) (x3 : Int) (s : sj_Mem), k2 a0 x1 x2 x3 s = some q → sj_T X m_X9_runs s0 (none, q.2) 2 [some (sj_r (some a0)), some (sj_i x1), some (sj_i x2), some (sj_i x3), none, none, none] [] s) (hk105 : ∀ (a0 : Nat) (x1 : Int) (x2 : Int) (x3 : Int) (x4 : Int) (x5 : Int) (x6 : Int) (s : sj_Mem), k105 a0 x1 x2 x3 x4 x5 x6 s = some q → sj_T X m_X9_runs s0 (none, q.2) 105 [some (sj_r (some a0)), some (sj_i x1), some (sj_i x2), some (sj_i x3), some (sj_i x4), some (sj_i x5), some (sj_i x6)] [] s) :
    ∀ (a0 : Nat) (x1 : Int) (x2 : Int) (x3 : Int) (x4 : Int) (x5 : Int) (x6 : Int) (s : sj_Mem), f_X9_runs_105_b N k2 k105 a0 x1 x2 x3 x4 x5 x6 s = some q → sj_T X m_X9_runs s0 (none, q.2) 105 [some (sj_r (some a0)), some (sj_i x1), some (sj_i x2), some (sj_i x3), some (sj_i x4), some (sj_i x5), some (sj_i x6)] [] s := by
  intro a0 x1 x2 x3 x4 x5 x6 s h
  unfold f_X9_runs_105_b at h
  refine r_iload (pc := 105) dX9_runs_105 rfl ?_
  refine r_iload (pc := 107) dX9_runs_107 rfl ?_
  refine r_icmp_ge (pc := 109) (tgt := 131) h dX9_runs_109 (by decide) (fun h => ?_) (fun h => ?_)
  · refine r_iload_n (pc := 131) dX9_runs_131 rfl rfl ?_
    refine r_iload (pc := 132) dX9_runs_132 rfl ?_
    refine r_iadd (pc := 134) dX9_runs_134 ?_
    refine r_istore_nL (ln := fun w => [some (sj_r (some a0)), some (sj_i x1), some (sj_i x2), some (sj_i w), some (sj_i x4), some (sj_i x5), some (sj_i x6)]) (pc := 135) h dX9_runs_135 rfl (Nat.le_of_ble_eq_true rfl) (fun _ => rfl) (fun v1 h => ?_)
    refine r_goto (pc := 136) (tgt := 2) dX9_runs_136 (by decide) ?_
    exact sj_weak (l2 := [some (sj_r (some a0)), some (sj_i x1), some (sj_i x2), some (sj_i v1), none, none, none]) (⟨rfl, ⟨rfl, ⟨rfl, ⟨rfl, trivial⟩⟩⟩⟩) (hk2 a0 x1 x2 v1 s h)
  · refine r_aload_n (pc := 112) dX9_runs_112 rfl rfl ?_
    refine r_gR (pc := 113) h dX9_runs_113 fw_X9_9 rfl (fun r2 h => ?_)
    refine r_iload_n (pc := 116) dX9_runs_116 rfl rfl ?_
    refine r_iload_n (pc := 117) dX9_runs_117 rfl rfl ?_
    refine r_iadd (pc := 118) dX9_runs_118 ?_
    refine r_iload (pc := 119) dX9_runs_119 rfl ?_
    refine r_iadd (pc := 121) dX9_runs_121 ?_
    refine r_iload (pc := 122) dX9_runs_122 rfl ?_
    obtain ⟨a3, ea3, g⟩ := e_nn_some h
    clear h
    subst ea3
    have h := g
    clear g
    refine r_iastore (pc := 124) h dX9_runs_124 (fun s4 h => ?_)
    refine r_iinc (ln := fun w => [some (sj_r (some a0)), some (sj_i x1), some (sj_i x2), some (sj_i x3), some (sj_i x4), some (sj_i x5), some (sj_i w)]) (pc := 125) h dX9_runs_125 rfl (Nat.le_of_ble_eq_true rfl) (fun _ => rfl) (fun v5 h => ?_)
    refine r_goto (pc := 128) (tgt := 105) dX9_runs_128 (by decide) ?_
    exact sj_weak (l2 := [some (sj_r (some a0)), some (sj_i x1), some (sj_i x2), some (sj_i x3), some (sj_i x4), some (sj_i x5), some (sj_i v5)]) (⟨rfl, ⟨rfl, ⟨rfl, ⟨rfl, ⟨rfl, ⟨rfl, ⟨rfl, trivial⟩⟩⟩⟩⟩⟩⟩) (hk105 a0 x1 x2 x3 x4 x5 v5 s4 h)
set_option maxHeartbeats 4000000 in
theorem t_X9_runs_105 {X : sj_X} {s0 : sj_Mem} {N : Nat} {q : Unit × sj_Mem} {k2 : Nat → Int → Int → Int → sj_Mem → Option (Unit × sj_Mem)} (hk2 : ∀ (a0 : Nat) (x1 : Int) (x2 : Int) (x3 : Int) (s : sj_Mem), k2 a0 x1 x2 x3 s = some q → sj_T X m_X9_runs s0 (none, q.2) 2 [some (sj_r (some a0)), some (sj_i x1), some (sj_i x2), some (sj_i x3), none, none, none] [] s) :
    ∀ (n : Nat) (a0 : Nat) (x1 : Int) (x2 : Int) (x3 : Int) (x4 : Int) (x5 : Int) (x6 : Int) (s : sj_Mem), f_X9_runs_105 N k2 n a0 x1 x2 x3 x4 x5 x6 s = some q → sj_T X m_X9_runs s0 (none, q.2) 105 [some (sj_r (some a0)), some (sj_i x1), some (sj_i x2), some (sj_i x3), some (sj_i x4), some (sj_i x5), some (sj_i x6)] [] s := by
  intro n
  induction n with
  | zero => intro a0 x1 x2 x3 x4 x5 x6 s h; exact nomatch h
  | succ n ih => intro a0 x1 x2 x3 x4 x5 x6 s h; exact t_X9_runs_105_b (N := N) hk2 ih a0 x1 x2 x3 x4 x5 x6 s h
set_option maxHeartbeats 4000000 in
theorem t_X9_runs_94 {X : sj_X} {s0 : sj_Mem} {N : Nat} {q : Unit × sj_Mem} {k2 : Nat → Int → Int → Int → sj_Mem → Option (Unit × sj_Mem)} (hk2 : ∀ (a0 : Nat) (x1 : Int) (x2 : Int) (x3 : Int) (s : sj_Mem), k2 a0 x1 x2 x3 s = some q → sj_T X m_X9_runs s0 (none, q.2) 2 [some (sj_r (some a0)), some (sj_i x1), some (sj_i x2), some (sj_i x3), none, none, none] [] s) :
    ∀ (a0 : Nat) (x1 : Int) (x2 : Int) (x3 : Int) (x4 : Int) (x5 : Int) (s : sj_Mem), f_X9_runs_94 N k2 a0 x1 x2 x3 x4 x5 s = some q → sj_T X m_X9_runs s0 (none, q.2) 94 [some (sj_r (some a0)), some (sj_i x1), some (sj_i x2), some (sj_i x3), some (sj_i x4), some (sj_i x5), none] [] s := by
  intro a0 x1 x2 x3 x4 x5 s h
  unfold f_X9_runs_94 at h
  refine r_aload_n (pc := 94) dX9_runs_94 rfl rfl ?_
  refine r_gI (pc := 95) h dX9_runs_95 fw_X9_346 rfl (fun v1 h => ?_)
  refine r_if_eq (pc := 98) (tgt := 102) h dX9_runs_98 (by decide) (fun h => ?_) (fun h => ?_)
  · refine r_iconst (pc := 102) dX9_runs_102 ?_
    refine r_istore (ln := [some (sj_r (some a0)), some (sj_i x1), some (sj_i x2), some (sj_i x3), some (sj_i x4), some (sj_i x5), some (sj_i 0)]) (pc := 103) dX9_runs_103 (Nat.le_of_ble_eq_true rfl) rfl ?_
    exact sj_weak (l2 := [some (sj_r (some a0)), some (sj_i x1), some (sj_i x2), some (sj_i x3), some (sj_i x4), some (sj_i x5), some (sj_i 0)]) (⟨rfl, ⟨rfl, ⟨rfl, ⟨rfl, ⟨rfl, ⟨rfl, ⟨rfl, trivial⟩⟩⟩⟩⟩⟩⟩) (t_X9_runs_105 hk2 N a0 x1 x2 x3 x4 x5 0 s h)
  · exact r_vret (pc := 101) h rfl dX9_runs_101
set_option maxHeartbeats 4000000 in
theorem t_X9_runs_20 {X : sj_X} {s0 : sj_Mem} {N : Nat} {q : Unit × sj_Mem} {k2 : Nat → Int → Int → Int → sj_Mem → Option (Unit × sj_Mem)} (hk2 : ∀ (a0 : Nat) (x1 : Int) (x2 : Int) (x3 : Int) (s : sj_Mem), k2 a0 x1 x2 x3 s = some q → sj_T X m_X9_runs s0 (none, q.2) 2 [some (sj_r (some a0)), some (sj_i x1), some (sj_i x2), some (sj_i x3), none, none, none] [] s) :
    ∀ (a0 : Nat) (x1 : Int) (x2 : Int) (x3 : Int) (s : sj_Mem), f_X9_runs_20 N k2 a0 x1 x2 x3 s = some q → sj_T X m_X9_runs s0 (none, q.2) 20 [some (sj_r (some a0)), some (sj_i x1), some (sj_i x2), some (sj_i x3), none, none, none] [] s := by
  intro a0 x1 x2 x3 s h
  unfold f_X9_runs_20 at h
  refine r_iload_n (pc := 20) dX9_runs_20 rfl rfl ?_
  refine r_aload_n (pc := 21) dX9_runs_21 rfl rfl ?_
  refine r_gR (pc := 22) h dX9_runs_22 fw_X9_9 rfl (fun r1 h => ?_)
  refine r_iconst (pc := 25) dX9_runs_25 ?_
  obtain ⟨a2, ea2, g⟩ := e_nn_some h
  clear h
  subst ea2
  have h := g
  clear g
  refine r_iaload (pc := 26) h dX9_runs_26 (fun v3 h => ?_)
  refine r_icmp_le (pc := 27) (tgt := 40) h dX9_runs_27 (by decide) (fun h => ?_) (fun h => ?_)
  · refine r_aload_n (pc := 40) dX9_runs_40 rfl rfl ?_
    refine r_iconst (pc := 41) dX9_runs_41 ?_
    refine r_iload_n (pc := 42) dX9_runs_42 rfl rfl ?_
    refine r_callV (pc := 43) (fun v => some (sj_i v)) (As := [sj_i 0, sj_i x2]) (rest := []) h dX9_runs_43 mw_X9_383 vw_X9_number (fun _ _ hc => c_X9_number hc) rfl ⟨(Nat.le_of_ble_eq_true rfl), (Nat.le_of_ble_eq_true rfl)⟩ (Nat.le_of_ble_eq_true rfl) rfl (fun v5 s4 h => ?_)
    refine r_istore (ln := [some (sj_r (some a0)), some (sj_i x1), some (sj_i x2), some (sj_i x3), some (sj_i v5), none, none]) (pc := 46) dX9_runs_46 (Nat.le_of_ble_eq_true rfl) rfl ?_
    refine r_iconst (pc := 48) dX9_runs_48 ?_
    refine r_istore (ln := [some (sj_r (some a0)), some (sj_i x1), some (sj_i x2), some (sj_i x3), some (sj_i v5), some (sj_i 1), none]) (pc := 49) dX9_runs_49 (Nat.le_of_ble_eq_true rfl) rfl ?_
    refine r_aload_n (pc := 51) dX9_runs_51 rfl rfl ?_
    refine r_gI (pc := 52) h dX9_runs_52 fw_X9_346 rfl (fun v6 h => ?_)
    refine r_if_ne (pc := 55) (tgt := 94) h dX9_runs_55 (by decide) (fun h => ?_) (fun h => ?_)
    · refine r_aload_n (pc := 58) dX9_runs_58 rfl rfl ?_
      refine r_bipush (pc := 59) dX9_runs_59 ⟨by decide, by decide⟩ ?_
      refine r_callV (pc := 61) (fun v => some (sj_i v)) (As := [sj_i 42]) (rest := []) h dX9_runs_61 mw_X9_359 vw_X9_isNext (fun _ _ hc => c_X9_isNext hc) rfl ⟨(Nat.le_of_ble_eq_true rfl), (Nat.le_of_ble_eq_true rfl)⟩ (Nat.le_of_ble_eq_true rfl) rfl (fun v8 s7 h => ?_)
      refine r_if_eq (pc := 64) (tgt := 94) h dX9_runs_64 (by decide) (fun h => ?_) (fun h => ?_)
      · exact sj_weak (l2 := [some (sj_r (some a0)), some (sj_i x1), some (sj_i x2), some (sj_i x3), some (sj_i v5), some (sj_i 1), none]) (⟨rfl, ⟨rfl, ⟨rfl, ⟨rfl, ⟨rfl, ⟨rfl, trivial⟩⟩⟩⟩⟩⟩) (t_X9_runs_94 hk2 a0 x1 x2 x3 v5 1 s7 h)
      · refine r_aload_n (pc := 67) dX9_runs_67 rfl rfl ?_
        refine r_dup (pc := 68) dX9_runs_68 rfl ?_
        refine r_gI (pc := 69) h dX9_runs_69 fw_X9_349 rfl (fun v9 h => ?_)
        refine r_iconst (pc := 72) dX9_runs_72 ?_
        refine r_iadd (pc := 73) dX9_runs_73 ?_
        refine r_pI (pc := 74) h dX9_runs_74 fw_X9_349 rfl rfl (fun _ hq => by cases hq; rfl) (fun s10 h => ?_)
        refine r_aload_n (pc := 77) dX9_runs_77 rfl rfl ?_
        refine r_iconst (pc := 78) dX9_runs_78 ?_
        refine r_aload_n (pc := 79) dX9_runs_79 rfl rfl ?_
        refine r_gR (pc := 80) h dX9_runs_80 fw_X9_9 rfl (fun r11 h => ?_)
        refine r_iconst (pc := 83) dX9_runs_83 ?_
        obtain ⟨a12, ea12, g⟩ := e_nn_some h
        clear h
        subst ea12
        have h := g
        clear g
        refine r_iaload (pc := 84) h dX9_runs_84 (fun v13 h => ?_)
        refine r_iconst (pc := 85) dX9_runs_85 ?_
        refine r_iadd (pc := 86) dX9_runs_86 ?_
        refine r_iload_n (pc := 87) dX9_runs_87 rfl rfl ?_
        refine r_isub (pc := 88) dX9_runs_88 ?_
        refine r_callV (pc := 89) (fun v => some (sj_i v)) (As := [sj_i 1, sj_i ((v13 + 1) - x3)]) (rest := []) h dX9_runs_89 mw_X9_383 vw_X9_number (fun _ _ hc => c_X9_number hc) rfl ⟨(Nat.le_of_ble_eq_true rfl), (Nat.le_of_ble_eq_true rfl)⟩ (Nat.le_of_ble_eq_true rfl) rfl (fun v15 s14 h => ?_)
        refine r_istore (ln := [some (sj_r (some a0)), some (sj_i x1), some (sj_i x2), some (sj_i x3), some (sj_i v5), some (sj_i v15), none]) (pc := 92) dX9_runs_92 (Nat.le_of_ble_eq_true rfl) rfl ?_
        exact sj_weak (l2 := [some (sj_r (some a0)), some (sj_i x1), some (sj_i x2), some (sj_i x3), some (sj_i v5), some (sj_i v15), none]) (⟨rfl, ⟨rfl, ⟨rfl, ⟨rfl, ⟨rfl, ⟨rfl, trivial⟩⟩⟩⟩⟩⟩) (t_X9_runs_94 hk2 a0 x1 x2 x3 v5 v15 s14 h)
    · exact sj_weak (l2 := [some (sj_r (some a0)), some (sj_i x1), some (sj_i x2), some (sj_i x3), some (sj_i v5), some (sj_i 1), none]) (⟨rfl, ⟨rfl, ⟨rfl, ⟨rfl, ⟨rfl, ⟨rfl, trivial⟩⟩⟩⟩⟩⟩) (t_X9_runs_94 hk2 a0 x1 x2 x3 v5 1 s4 h)
  · refine r_aload_n (pc := 30) dX9_runs_30 rfl rfl ?_
    refine r_iconst (pc := 31) dX9_runs_31 ?_
    refine r_aload_n (pc := 32) dX9_runs_32 rfl rfl ?_
    refine r_gI (pc := 33) h dX9_runs_33 fw_X9_349 rfl (fun v16 h => ?_)
    refine r_callV (pc := 36) (fun _ => none) (As := [sj_i 1, sj_i v16]) (rest := []) h dX9_runs_36 mw_X9_362 vw_X9_wrong (fun _ _ hc => c_X9_wrong hc) rfl ⟨(Nat.le_of_ble_eq_true rfl), (Nat.le_of_ble_eq_true rfl)⟩ (Nat.le_of_ble_eq_true rfl) rfl (fun _u s17 h => ?_)
    exact r_vret (pc := 39) h rfl dX9_runs_39
set_option maxHeartbeats 4000000 in
theorem t_X9_runs_171 {X : sj_X} {s0 : sj_Mem} {N : Nat} {q : Unit × sj_Mem} :
    ∀ (a0 : Nat) (y0 : Int) (y1 : Option Nat) (s : sj_Mem), f_X9_runs_171 N a0 y0 y1 s = some q → sj_T X m_X9_runs s0 (none, q.2) 171 [some (sj_r (some a0)), none, none, none, none, none, none] [(sj_i y0), (sj_r y1)] s := by
  intro a0 y0 y1 s h
  unfold f_X9_runs_171 at h
  refine r_aload_n (pc := 171) dX9_runs_171 rfl rfl ?_
  refine r_gI (pc := 172) h dX9_runs_172 fw_X9_349 rfl (fun v1 h => ?_)
  obtain ⟨a2, ea2, g⟩ := e_nn_some h
  clear h
  subst ea2
  have h := g
  clear g
  refine r_callV (pc := 175) (fun _ => none) (As := [sj_i y0, sj_i v1]) (rest := []) h dX9_runs_175 mw_X9_362 vw_X9_wrong (fun _ _ hc => c_X9_wrong hc) rfl ⟨(Nat.le_of_ble_eq_true rfl), (Nat.le_of_ble_eq_true rfl)⟩ (Nat.le_of_ble_eq_true rfl) rfl (fun _u s3 h => ?_)
  exact r_vret (pc := 178) h rfl dX9_runs_178
set_option maxHeartbeats 4000000 in
theorem t_X9_runs_139 {X : sj_X} {s0 : sj_Mem} {N : Nat} {q : Unit × sj_Mem} :
    ∀ (a0 : Nat) (x3 : Int) (s : sj_Mem), f_X9_runs_139 N a0 x3 s = some q → sj_T X m_X9_runs s0 (none, q.2) 139 [some (sj_r (some a0)), none, none, some (sj_i x3), none, none, none] [] s := by
  intro a0 x3 s h
  unfold f_X9_runs_139 at h
  refine r_aload_n (pc := 139) dX9_runs_139 rfl rfl ?_
  refine r_gI (pc := 140) h dX9_runs_140 fw_X9_346 rfl (fun v1 h => ?_)
  refine r_if_ne (pc := 143) (tgt := 178) h dX9_runs_143 (by decide) (fun h => ?_) (fun h => ?_)
  · refine r_iload_n (pc := 146) dX9_runs_146 rfl rfl ?_
    refine r_aload_n (pc := 147) dX9_runs_147 rfl rfl ?_
    refine r_gR (pc := 148) h dX9_runs_148 fw_X9_9 rfl (fun r2 h => ?_)
    refine r_iconst (pc := 151) dX9_runs_151 ?_
    obtain ⟨a3, ea3, g⟩ := e_nn_some h
    clear h
    subst ea3
    have h := g
    clear g
    refine r_iaload (pc := 152) h dX9_runs_152 (fun v4 h => ?_)
    refine r_icmp_gt (pc := 153) (tgt := 178) h dX9_runs_153 (by decide) (fun h => ?_) (fun h => ?_)
    · exact r_vret (pc := 178) h rfl dX9_runs_178
    · refine r_aload_n (pc := 156) dX9_runs_156 rfl rfl ?_
      refine r_aload_n (pc := 157) dX9_runs_157 rfl rfl ?_
      refine r_bipush (pc := 158) dX9_runs_158 ⟨by decide, by decide⟩ ?_
      refine r_callV (pc := 160) (fun v => some (sj_i v)) (As := [sj_i 59]) (rest := [(sj_r (some a0))]) h dX9_runs_160 mw_X9_359 vw_X9_isNext (fun _ _ hc => c_X9_isNext hc) rfl ⟨(Nat.le_of_ble_eq_true rfl), (Nat.le_of_ble_eq_true rfl)⟩ (Nat.le_of_ble_eq_true rfl) rfl (fun v6 s5 h => ?_)
      refine r_if_eq (pc := 163) (tgt := 170) h dX9_runs_163 (by decide) (fun h => ?_) (fun h => ?_)
      · refine r_iconst (pc := 170) dX9_runs_170 ?_
        exact sj_weak (l2 := [some (sj_r (some a0)), none, none, none, none, none, none]) (⟨rfl, trivial⟩) (t_X9_runs_171 a0 1 (some a0) s5 h)
      · refine r_iconst (pc := 166) dX9_runs_166 ?_
        refine r_goto (pc := 167) (tgt := 171) dX9_runs_167 (by decide) ?_
        exact sj_weak (l2 := [some (sj_r (some a0)), none, none, none, none, none, none]) (⟨rfl, trivial⟩) (t_X9_runs_171 a0 2 (some a0) s5 h)
  · exact r_vret (pc := 178) h rfl dX9_runs_178
set_option maxHeartbeats 4000000 in
theorem t_X9_runs_2_b {X : sj_X} {s0 : sj_Mem} {N : Nat} {q : Unit × sj_Mem} {k2 : Nat → Int → Int → Int → sj_Mem → Option (Unit × sj_Mem)} (hk2 : ∀ (a0 : Nat) (x1 : Int) (x2 : Int) (x3 : Int) (s : sj_Mem), k2 a0 x1 x2 x3 s = some q → sj_T X m_X9_runs s0 (none, q.2) 2 [some (sj_r (some a0)), some (sj_i x1), some (sj_i x2), some (sj_i x3), none, none, none] [] s) :
    ∀ (a0 : Nat) (x1 : Int) (x2 : Int) (x3 : Int) (s : sj_Mem), f_X9_runs_2_b N k2 a0 x1 x2 x3 s = some q → sj_T X m_X9_runs s0 (none, q.2) 2 [some (sj_r (some a0)), some (sj_i x1), some (sj_i x2), some (sj_i x3), none, none, none] [] s := by
  intro a0 x1 x2 x3 s h
  unfold f_X9_runs_2_b at h
  refine r_aload_n (pc := 2) dX9_runs_2 rfl rfl ?_
  refine r_gI (pc := 3) h dX9_runs_3 fw_X9_346 rfl (fun v1 h => ?_)
  refine r_if_ne (pc := 6) (tgt := 139) h dX9_runs_6 (by decide) (fun h => ?_) (fun h => ?_)
  · refine r_iload_n (pc := 9) dX9_runs_9 rfl rfl ?_
    refine r_if_eq (pc := 10) (tgt := 20) h dX9_runs_10 (by decide) (fun h => ?_) (fun h => ?_)
    · exact sj_weak (l2 := [some (sj_r (some a0)), some (sj_i x1), some (sj_i x2), some (sj_i x3), none, none, none]) (⟨rfl, ⟨rfl, ⟨rfl, ⟨rfl, trivial⟩⟩⟩⟩) (t_X9_runs_20 hk2 a0 x1 x2 x3 s h)
    · refine r_aload_n (pc := 13) dX9_runs_13 rfl rfl ?_
      refine r_callV (pc := 14) (fun v => some (sj_i v)) (As := []) (rest := []) h dX9_runs_14 mw_X9_365 vw_X9_isDigitNext (fun _ _ hc => c_X9_isDigitNext hc) rfl ⟨(Nat.le_of_ble_eq_true rfl), (Nat.le_of_ble_eq_true rfl)⟩ (Nat.le_of_ble_eq_true rfl) rfl (fun v3 s2 h => ?_)
      refine r_if_eq (pc := 17) (tgt := 139) h dX9_runs_17 (by decide) (fun h => ?_) (fun h => ?_)
      · exact sj_weak (l2 := [some (sj_r (some a0)), none, none, some (sj_i x3), none, none, none]) (⟨rfl, ⟨rfl, trivial⟩⟩) (t_X9_runs_139 a0 x3 s2 h)
      · exact sj_weak (l2 := [some (sj_r (some a0)), some (sj_i x1), some (sj_i x2), some (sj_i x3), none, none, none]) (⟨rfl, ⟨rfl, ⟨rfl, ⟨rfl, trivial⟩⟩⟩⟩) (t_X9_runs_20 hk2 a0 x1 x2 x3 s2 h)
  · exact sj_weak (l2 := [some (sj_r (some a0)), none, none, some (sj_i x3), none, none, none]) (⟨rfl, ⟨rfl, trivial⟩⟩) (t_X9_runs_139 a0 x3 s h)
set_option maxHeartbeats 4000000 in
theorem t_X9_runs_2 {X : sj_X} {s0 : sj_Mem} {N : Nat} {q : Unit × sj_Mem} :
    ∀ (n : Nat) (a0 : Nat) (x1 : Int) (x2 : Int) (x3 : Int) (s : sj_Mem), f_X9_runs_2 N n a0 x1 x2 x3 s = some q → sj_T X m_X9_runs s0 (none, q.2) 2 [some (sj_r (some a0)), some (sj_i x1), some (sj_i x2), some (sj_i x3), none, none, none] [] s := by
  intro n
  induction n with
  | zero => intro a0 x1 x2 x3 s h; exact nomatch h
  | succ n ih => intro a0 x1 x2 x3 s h; exact t_X9_runs_2_b (N := N) ih a0 x1 x2 x3 s h
set_option maxHeartbeats 4000000 in
theorem t_X9_runs_0 {X : sj_X} {s0 : sj_Mem} {N : Nat} {q : Unit × sj_Mem} :
    ∀ (a0 : Nat) (x1 : Int) (x2 : Int) (s : sj_Mem), f_X9_runs N a0 x1 x2 s = some q → sj_T X m_X9_runs s0 (none, q.2) 0 [some (sj_r (some a0)), some (sj_i x1), some (sj_i x2), none, none, none, none] [] s := by
  intro a0 x1 x2 s h
  unfold f_X9_runs at h
  refine r_iconst (pc := 0) dX9_runs_0 ?_
  refine r_istore_n (ln := [some (sj_r (some a0)), some (sj_i x1), some (sj_i x2), some (sj_i 0), none, none, none]) (pc := 1) dX9_runs_1 rfl (Nat.le_of_ble_eq_true rfl) rfl ?_
  exact sj_weak (l2 := [some (sj_r (some a0)), some (sj_i x1), some (sj_i x2), some (sj_i 0), none, none, none]) (⟨rfl, ⟨rfl, ⟨rfl, ⟨rfl, trivial⟩⟩⟩⟩) (t_X9_runs_2 N a0 x1 x2 0 s h)
set_option maxHeartbeats 4000000 in
theorem c_X9_runs {X : sj_X} {N : Nat} {a0 : Nat} {x1 : Int} {x2 : Int} {s : sj_Mem} {q : Unit × sj_Mem} (h : f_X9_runs N a0 x1 x2 s = some q) : sj_C X m_X9_runs [sj_r (some a0), sj_i x1, sj_i x2] s (none, q.2) :=
  sj_C_of (by decide +kernel) (Nat.le_of_ble_eq_true rfl) (lo := [some (sj_r (some a0)), some (sj_i x1), some (sj_i x2), none, none, none, none]) rfl (sj_weak (l2 := [some (sj_r (some a0)), some (sj_i x1), some (sj_i x2), none, none, none, none]) (⟨rfl, ⟨rfl, ⟨rfl, trivial⟩⟩⟩) (t_X9_runs_0 a0 x1 x2 s h))
theorem dX9_line_0 : decode cX9_line 0 = .ok (.aload_n 0, 1) := by decide +kernel
theorem dX9_line_1 : decode cX9_line 1 = .ok (.getfield 349, 3) := by decide +kernel
theorem dX9_line_4 : decode cX9_line 4 = .ok (.istore_n 1, 1) := by decide +kernel
theorem dX9_line_5 : decode cX9_line 5 = .ok (.aload_n 0, 1) := by decide +kernel
theorem dX9_line_6 : decode cX9_line 6 = .ok (.invokevirtual 389, 3) := by decide +kernel
theorem dX9_line_9 : decode cX9_line 9 = .ok (.istore_n 2, 1) := by decide +kernel
theorem dX9_line_10 : decode cX9_line 10 = .ok (.iload_n 2, 1) := by decide +kernel
theorem dX9_line_11 : decode cX9_line 11 = .ok (.iconst (-1), 1) := by decide +kernel
theorem dX9_line_12 : decode cX9_line 12 = .ok (.if_icmp .ne 9, 3) := by decide +kernel
theorem dX9_line_15 : decode cX9_line 15 = .ok (.aload_n 0, 1) := by decide +kernel
theorem dX9_line_16 : decode cX9_line 16 = .ok (.iconst 1, 1) := by decide +kernel
theorem dX9_line_17 : decode cX9_line 17 = .ok (.iload_n 1, 1) := by decide +kernel
theorem dX9_line_18 : decode cX9_line 18 = .ok (.invokevirtual 362, 3) := by decide +kernel
theorem dX9_line_21 : decode cX9_line 21 = .ok (.iload_n 2, 1) := by decide +kernel
theorem dX9_line_22 : decode cX9_line 22 = .ok (.i2l, 1) := by decide +kernel
theorem dX9_line_23 : decode cX9_line 23 = .ok (.lconst 0, 1) := by decide +kernel
theorem dX9_line_24 : decode cX9_line 24 = .ok (.ldc2_w 64, 3) := by decide +kernel
theorem dX9_line_27 : decode cX9_line 27 = .ok (.invokestatic 57, 3) := by decide +kernel
theorem dX9_line_30 : decode cX9_line 30 = .ok (.ifCond .eq 9, 3) := by decide +kernel
theorem dX9_line_33 : decode cX9_line 33 = .ok (.aload_n 0, 1) := by decide +kernel
theorem dX9_line_34 : decode cX9_line 34 = .ok (.iload_n 2, 1) := by decide +kernel
theorem dX9_line_35 : decode cX9_line 35 = .ok (.iload_n 1, 1) := by decide +kernel
theorem dX9_line_36 : decode cX9_line 36 = .ok (.invokevirtual 386, 3) := by decide +kernel
theorem dX9_line_39 : decode cX9_line 39 = .ok (.aload_n 0, 1) := by decide +kernel
theorem dX9_line_40 : decode cX9_line 40 = .ok (.aload_n 0, 1) := by decide +kernel
theorem dX9_line_41 : decode cX9_line 41 = .ok (.invokevirtual 376, 3) := by decide +kernel
theorem dX9_line_44 : decode cX9_line 44 = .ok (.putfield 349, 3) := by decide +kernel
theorem dX9_line_47 : decode cX9_line 47 = .ok (.aload_n 0, 1) := by decide +kernel
theorem dX9_line_48 : decode cX9_line 48 = .ok (.getfield 346, 3) := by decide +kernel
theorem dX9_line_51 : decode cX9_line 51 = .ok (.ifCond .eq 4, 3) := by decide +kernel
theorem dX9_line_54 : decode cX9_line 54 = .ok (.return_, 1) := by decide +kernel
theorem dX9_line_55 : decode cX9_line 55 = .ok (.iload_n 2, 1) := by decide +kernel
theorem dX9_line_56 : decode cX9_line 56 = .ok (.tableswitch 156 0 6 #[44, 54, 65, 76, 88, 105, 149], 44) := by decide +kernel
theorem dX9_line_100 : decode cX9_line 100 = .ok (.aload_n 0, 1) := by decide +kernel
theorem dX9_line_101 : decode cX9_line 101 = .ok (.iconst 3, 1) := by decide +kernel
theorem dX9_line_102 : decode cX9_line 102 = .ok (.bipush 100, 2) := by decide +kernel
theorem dX9_line_104 : decode cX9_line 104 = .ok (.invokevirtual 392, 3) := by decide +kernel
theorem dX9_line_107 : decode cX9_line 107 = .ok (.goto 109, 3) := by decide +kernel
theorem dX9_line_110 : decode cX9_line 110 = .ok (.aload_n 0, 1) := by decide +kernel
theorem dX9_line_111 : decode cX9_line 111 = .ok (.bipush 44, 2) := by decide +kernel
theorem dX9_line_113 : decode cX9_line 113 = .ok (.bipush 100, 2) := by decide +kernel
theorem dX9_line_115 : decode cX9_line 115 = .ok (.invokevirtual 392, 3) := by decide +kernel
theorem dX9_line_118 : decode cX9_line 118 = .ok (.goto 98, 3) := by decide +kernel
theorem dX9_line_121 : decode cX9_line 121 = .ok (.aload_n 0, 1) := by decide +kernel
theorem dX9_line_122 : decode cX9_line 122 = .ok (.bipush 85, 2) := by decide +kernel
theorem dX9_line_124 : decode cX9_line 124 = .ok (.bipush 100, 2) := by decide +kernel
theorem dX9_line_126 : decode cX9_line 126 = .ok (.invokevirtual 392, 3) := by decide +kernel
theorem dX9_line_129 : decode cX9_line 129 = .ok (.goto 87, 3) := by decide +kernel
theorem dX9_line_132 : decode cX9_line 132 = .ok (.aload_n 0, 1) := by decide +kernel
theorem dX9_line_133 : decode cX9_line 133 = .ok (.bipush 126, 2) := by decide +kernel
theorem dX9_line_135 : decode cX9_line 135 = .ok (.sipush 500, 3) := by decide +kernel
theorem dX9_line_138 : decode cX9_line 138 = .ok (.invokevirtual 392, 3) := by decide +kernel
theorem dX9_line_141 : decode cX9_line 141 = .ok (.goto 75, 3) := by decide +kernel
theorem dX9_line_144 : decode cX9_line 144 = .ok (.aload_n 0, 1) := by decide +kernel
theorem dX9_line_145 : decode cX9_line 145 = .ok (.getfield 9, 3) := by decide +kernel
theorem dX9_line_148 : decode cX9_line 148 = .ok (.iconst 2, 1) := by decide +kernel
theorem dX9_line_149 : decode cX9_line 149 = .ok (.aload_n 0, 1) := by decide +kernel
theorem dX9_line_150 : decode cX9_line 150 = .ok (.iconst 0, 1) := by decide +kernel
theorem dX9_line_151 : decode cX9_line 151 = .ok (.sipush 500, 3) := by decide +kernel
theorem dX9_line_154 : decode cX9_line 154 = .ok (.invokevirtual 383, 3) := by decide +kernel
theorem dX9_line_157 : decode cX9_line 157 = .ok (.iastore, 1) := by decide +kernel
theorem dX9_line_158 : decode cX9_line 158 = .ok (.goto 58, 3) := by decide +kernel
theorem dX9_line_161 : decode cX9_line 161 = .ok (.aload_n 0, 1) := by decide +kernel
theorem dX9_line_162 : decode cX9_line 162 = .ok (.iconst 1, 1) := by decide +kernel
theorem dX9_line_163 : decode cX9_line 163 = .ok (.iconst 3, 1) := by decide +kernel
theorem dX9_line_164 : decode cX9_line 164 = .ok (.invokevirtual 383, 3) := by decide +kernel
theorem dX9_line_167 : decode cX9_line 167 = .ok (.istore_n 3, 1) := by decide +kernel
theorem dX9_line_168 : decode cX9_line 168 = .ok (.aload_n 0, 1) := by decide +kernel
theorem dX9_line_169 : decode cX9_line 169 = .ok (.iconst 4, 1) := by decide +kernel
theorem dX9_line_170 : decode cX9_line 170 = .ok (.iload_n 3, 1) := by decide +kernel
theorem dX9_line_171 : decode cX9_line 171 = .ok (.iadd, 1) := by decide +kernel
theorem dX9_line_172 : decode cX9_line 172 = .ok (.aload_n 0, 1) := by decide +kernel
theorem dX9_line_173 : decode cX9_line 173 = .ok (.getfield 368, 3) := by decide +kernel
theorem dX9_line_176 : decode cX9_line 176 = .ok (.invokevirtual 386, 3) := by decide +kernel
theorem dX9_line_179 : decode cX9_line 179 = .ok (.aload_n 0, 1) := by decide +kernel
theorem dX9_line_180 : decode cX9_line 180 = .ok (.getfield 346, 3) := by decide +kernel
theorem dX9_line_183 : decode cX9_line 183 = .ok (.ifCond .ne 33, 3) := by decide +kernel
theorem dX9_line_186 : decode cX9_line 186 = .ok (.aload_n 0, 1) := by decide +kernel
theorem dX9_line_187 : decode cX9_line 187 = .ok (.sipush 167, 3) := by decide +kernel
theorem dX9_line_190 : decode cX9_line 190 = .ok (.bipush 41, 2) := by decide +kernel
theorem dX9_line_192 : decode cX9_line 192 = .ok (.iload_n 3, 1) := by decide +kernel
theorem dX9_line_193 : decode cX9_line 193 = .ok (.iconst 1, 1) := by decide +kernel
theorem dX9_line_194 : decode cX9_line 194 = .ok (.isub, 1) := by decide +kernel
theorem dX9_line_195 : decode cX9_line 195 = .ok (.imul, 1) := by decide +kernel
theorem dX9_line_196 : decode cX9_line 196 = .ok (.iadd, 1) := by decide +kernel
theorem dX9_line_197 : decode cX9_line 197 = .ok (.bipush 100, 2) := by decide +kernel
theorem dX9_line_199 : decode cX9_line 199 = .ok (.invokevirtual 392, 3) := by decide +kernel
theorem dX9_line_202 : decode cX9_line 202 = .ok (.goto 14, 3) := by decide +kernel
theorem dX9_line_205 : decode cX9_line 205 = .ok (.aload_n 0, 1) := by decide +kernel
theorem dX9_line_206 : decode cX9_line 206 = .ok (.invokevirtual 395, 3) := by decide +kernel
theorem dX9_line_209 : decode cX9_line 209 = .ok (.goto 7, 3) := by decide +kernel
theorem dX9_line_212 : decode cX9_line 212 = .ok (.aload_n 0, 1) := by decide +kernel
theorem dX9_line_213 : decode cX9_line 213 = .ok (.invokevirtual 398, 3) := by decide +kernel
theorem dX9_line_216 : decode cX9_line 216 = .ok (.aload_n 0, 1) := by decide +kernel
theorem dX9_line_217 : decode cX9_line 217 = .ok (.bipush 59, 2) := by decide +kernel
theorem dX9_line_219 : decode cX9_line 219 = .ok (.invokevirtual 401, 3) := by decide +kernel
theorem dX9_line_222 : decode cX9_line 222 = .ok (.return_, 1) := by decide +kernel
set_option maxHeartbeats 4000000 in
theorem t_X9_line_216 {X : sj_X} {s0 : sj_Mem} {N : Nat} {q : Unit × sj_Mem} :
    ∀ (a0 : Nat) (s : sj_Mem), f_X9_line_216 N a0 s = some q → sj_T X m_X9_line s0 (none, q.2) 216 [some (sj_r (some a0)), none, none, none] [] s := by
  intro a0 s h
  unfold f_X9_line_216 at h
  refine r_aload_n (pc := 216) dX9_line_216 rfl rfl ?_
  refine r_bipush (pc := 217) dX9_line_217 ⟨by decide, by decide⟩ ?_
  refine r_callV (pc := 219) (fun _ => none) (As := [sj_i 59]) (rest := []) h dX9_line_219 mw_X9_401 vw_X9_must (fun _ _ hc => c_X9_must hc) rfl ⟨(Nat.le_of_ble_eq_true rfl), (Nat.le_of_ble_eq_true rfl)⟩ (Nat.le_of_ble_eq_true rfl) rfl (fun _u s1 h => ?_)
  exact r_vret (pc := 222) h rfl dX9_line_222
set_option maxHeartbeats 4000000 in
theorem t_X9_line_39 {X : sj_X} {s0 : sj_Mem} {N : Nat} {q : Unit × sj_Mem} :
    ∀ (a0 : Nat) (x2 : Int) (s : sj_Mem), f_X9_line_39 N a0 x2 s = some q → sj_T X m_X9_line s0 (none, q.2) 39 [some (sj_r (some a0)), none, some (sj_i x2), none] [] s := by
  intro a0 x2 s h
  unfold f_X9_line_39 at h
  refine r_aload_n (pc := 39) dX9_line_39 rfl rfl ?_
  refine r_aload_n (pc := 40) dX9_line_40 rfl rfl ?_
  refine r_callV (pc := 41) (fun v => some (sj_i v)) (As := []) (rest := [(sj_r (some a0))]) h dX9_line_41 mw_X9_376 vw_X9_wordEnd (fun _ _ hc => c_X9_wordEnd hc) rfl ⟨(Nat.le_of_ble_eq_true rfl), (Nat.le_of_ble_eq_true rfl)⟩ (Nat.le_of_ble_eq_true rfl) rfl (fun v2 s1 h => ?_)
  refine r_pI (pc := 44) h dX9_line_44 fw_X9_349 rfl rfl (fun _ hq => by cases hq; rfl) (fun s3 h => ?_)
  refine r_aload_n (pc := 47) dX9_line_47 rfl rfl ?_
  refine r_gI (pc := 48) h dX9_line_48 fw_X9_346 rfl (fun v4 h => ?_)
  refine r_if_eq (pc := 51) (tgt := 55) h dX9_line_51 (by decide) (fun h => ?_) (fun h => ?_)
  · refine r_iload_n (pc := 55) dX9_line_55 rfl rfl ?_
    obtain ⟨hr, h⟩ := e_sw_some h
    refine sj_if h (fun c0 h => ?_) (fun c0 h => ?_)
    · refine r_tcase (pc := 56) (tgt := 100) (j := 0) hr c0 dX9_line_56 (by decide) (by decide) rfl (by decide) ?_
      refine r_aload_n (pc := 100) dX9_line_100 rfl rfl ?_
      refine r_iconst (pc := 101) dX9_line_101 ?_
      refine r_bipush (pc := 102) dX9_line_102 ⟨by decide, by decide⟩ ?_
      refine r_callV (pc := 104) (fun _ => none) (As := [sj_i 3, sj_i 100]) (rest := []) h dX9_line_104 mw_X9_392 vw_X9_runs (fun _ _ hc => c_X9_runs hc) rfl ⟨(Nat.le_of_ble_eq_true rfl), (Nat.le_of_ble_eq_true rfl)⟩ (Nat.le_of_ble_eq_true rfl) rfl (fun _u s5 h => ?_)
      refine r_goto (pc := 107) (tgt := 216) dX9_line_107 (by decide) ?_
      exact sj_weak (l2 := [some (sj_r (some a0)), none, none, none]) (⟨rfl, trivial⟩) (t_X9_line_216 a0 s5 h)
    refine sj_if h (fun c1 h => ?_) (fun c1 h => ?_)
    · refine r_tcase (pc := 56) (tgt := 110) (j := 1) hr c1 dX9_line_56 (by decide) (by decide) rfl (by decide) ?_
      refine r_aload_n (pc := 110) dX9_line_110 rfl rfl ?_
      refine r_bipush (pc := 111) dX9_line_111 ⟨by decide, by decide⟩ ?_
      refine r_bipush (pc := 113) dX9_line_113 ⟨by decide, by decide⟩ ?_
      refine r_callV (pc := 115) (fun _ => none) (As := [sj_i 44, sj_i 100]) (rest := []) h dX9_line_115 mw_X9_392 vw_X9_runs (fun _ _ hc => c_X9_runs hc) rfl ⟨(Nat.le_of_ble_eq_true rfl), (Nat.le_of_ble_eq_true rfl)⟩ (Nat.le_of_ble_eq_true rfl) rfl (fun _u s6 h => ?_)
      refine r_goto (pc := 118) (tgt := 216) dX9_line_118 (by decide) ?_
      exact sj_weak (l2 := [some (sj_r (some a0)), none, none, none]) (⟨rfl, trivial⟩) (t_X9_line_216 a0 s6 h)
    refine sj_if h (fun c2 h => ?_) (fun c2 h => ?_)
    · refine r_tcase (pc := 56) (tgt := 121) (j := 2) hr c2 dX9_line_56 (by decide) (by decide) rfl (by decide) ?_
      refine r_aload_n (pc := 121) dX9_line_121 rfl rfl ?_
      refine r_bipush (pc := 122) dX9_line_122 ⟨by decide, by decide⟩ ?_
      refine r_bipush (pc := 124) dX9_line_124 ⟨by decide, by decide⟩ ?_
      refine r_callV (pc := 126) (fun _ => none) (As := [sj_i 85, sj_i 100]) (rest := []) h dX9_line_126 mw_X9_392 vw_X9_runs (fun _ _ hc => c_X9_runs hc) rfl ⟨(Nat.le_of_ble_eq_true rfl), (Nat.le_of_ble_eq_true rfl)⟩ (Nat.le_of_ble_eq_true rfl) rfl (fun _u s7 h => ?_)
      refine r_goto (pc := 129) (tgt := 216) dX9_line_129 (by decide) ?_
      exact sj_weak (l2 := [some (sj_r (some a0)), none, none, none]) (⟨rfl, trivial⟩) (t_X9_line_216 a0 s7 h)
    refine sj_if h (fun c3 h => ?_) (fun c3 h => ?_)
    · refine r_tcase (pc := 56) (tgt := 132) (j := 3) hr c3 dX9_line_56 (by decide) (by decide) rfl (by decide) ?_
      refine r_aload_n (pc := 132) dX9_line_132 rfl rfl ?_
      refine r_bipush (pc := 133) dX9_line_133 ⟨by decide, by decide⟩ ?_
      refine r_sipush (pc := 135) dX9_line_135 ⟨by decide, by decide⟩ ?_
      refine r_callV (pc := 138) (fun _ => none) (As := [sj_i 126, sj_i 500]) (rest := []) h dX9_line_138 mw_X9_392 vw_X9_runs (fun _ _ hc => c_X9_runs hc) rfl ⟨(Nat.le_of_ble_eq_true rfl), (Nat.le_of_ble_eq_true rfl)⟩ (Nat.le_of_ble_eq_true rfl) rfl (fun _u s8 h => ?_)
      refine r_goto (pc := 141) (tgt := 216) dX9_line_141 (by decide) ?_
      exact sj_weak (l2 := [some (sj_r (some a0)), none, none, none]) (⟨rfl, trivial⟩) (t_X9_line_216 a0 s8 h)
    refine sj_if h (fun c4 h => ?_) (fun c4 h => ?_)
    · refine r_tcase (pc := 56) (tgt := 144) (j := 4) hr c4 dX9_line_56 (by decide) (by decide) rfl (by decide) ?_
      refine r_aload_n (pc := 144) dX9_line_144 rfl rfl ?_
      refine r_gR (pc := 145) h dX9_line_145 fw_X9_9 rfl (fun r9 h => ?_)
      refine r_iconst (pc := 148) dX9_line_148 ?_
      refine r_aload_n (pc := 149) dX9_line_149 rfl rfl ?_
      refine r_iconst (pc := 150) dX9_line_150 ?_
      refine r_sipush (pc := 151) dX9_line_151 ⟨by decide, by decide⟩ ?_
      refine r_callV (pc := 154) (fun v => some (sj_i v)) (As := [sj_i 0, sj_i 500]) (rest := [(sj_i 2), (sj_r r9)]) h dX9_line_154 mw_X9_383 vw_X9_number (fun _ _ hc => c_X9_number hc) rfl ⟨(Nat.le_of_ble_eq_true rfl), (Nat.le_of_ble_eq_true rfl)⟩ (Nat.le_of_ble_eq_true rfl) rfl (fun v11 s10 h => ?_)
      obtain ⟨a12, ea12, g⟩ := e_nn_some h
      clear h
      subst ea12
      have h := g
      clear g
      refine r_iastore (pc := 157) h dX9_line_157 (fun s13 h => ?_)
      refine r_goto (pc := 158) (tgt := 216) dX9_line_158 (by decide) ?_
      exact sj_weak (l2 := [some (sj_r (some a0)), none, none, none]) (⟨rfl, trivial⟩) (t_X9_line_216 a0 s13 h)
    refine sj_if h (fun c5 h => ?_) (fun c5 h => ?_)
    · refine r_tcase (pc := 56) (tgt := 161) (j := 5) hr c5 dX9_line_56 (by decide) (by decide) rfl (by decide) ?_
      refine r_aload_n (pc := 161) dX9_line_161 rfl rfl ?_
      refine r_iconst (pc := 162) dX9_line_162 ?_
      refine r_iconst (pc := 163) dX9_line_163 ?_
      refine r_callV (pc := 164) (fun v => some (sj_i v)) (As := [sj_i 1, sj_i 3]) (rest := []) h dX9_line_164 mw_X9_383 vw_X9_number (fun _ _ hc => c_X9_number hc) rfl ⟨(Nat.le_of_ble_eq_true rfl), (Nat.le_of_ble_eq_true rfl)⟩ (Nat.le_of_ble_eq_true rfl) rfl (fun v15 s14 h => ?_)
      refine r_istore_n (ln := [some (sj_r (some a0)), none, some (sj_i x2), some (sj_i v15)]) (pc := 167) dX9_line_167 rfl (Nat.le_of_ble_eq_true rfl) rfl ?_
      refine r_aload_n (pc := 168) dX9_line_168 rfl rfl ?_
      refine r_iconst (pc := 169) dX9_line_169 ?_
      refine r_iload_n (pc := 170) dX9_line_170 rfl rfl ?_
      refine r_iadd (pc := 171) dX9_line_171 ?_
      refine r_aload_n (pc := 172) dX9_line_172 rfl rfl ?_
      refine r_gI (pc := 173) h dX9_line_173 fw_X9_368 rfl (fun v16 h => ?_)
      refine r_callV (pc := 176) (fun _ => none) (As := [sj_i (4 + v15), sj_i v16]) (rest := []) h dX9_line_176 mw_X9_386 vw_X9_tells (fun _ _ hc => c_X9_tells hc) rfl ⟨(Nat.le_of_ble_eq_true rfl), (Nat.le_of_ble_eq_true rfl)⟩ (Nat.le_of_ble_eq_true rfl) rfl (fun _u s17 h => ?_)
      refine r_aload_n (pc := 179) dX9_line_179 rfl rfl ?_
      refine r_gI (pc := 180) h dX9_line_180 fw_X9_346 rfl (fun v18 h => ?_)
      refine r_if_ne (pc := 183) (tgt := 216) h dX9_line_183 (by decide) (fun h => ?_) (fun h => ?_)
      · refine r_aload_n (pc := 186) dX9_line_186 rfl rfl ?_
        refine r_sipush (pc := 187) dX9_line_187 ⟨by decide, by decide⟩ ?_
        refine r_bipush (pc := 190) dX9_line_190 ⟨by decide, by decide⟩ ?_
        refine r_iload_n (pc := 192) dX9_line_192 rfl rfl ?_
        refine r_iconst (pc := 193) dX9_line_193 ?_
        refine r_isub (pc := 194) dX9_line_194 ?_
        refine r_imul (pc := 195) dX9_line_195 ?_
        refine r_iadd (pc := 196) dX9_line_196 ?_
        refine r_bipush (pc := 197) dX9_line_197 ⟨by decide, by decide⟩ ?_
        refine r_callV (pc := 199) (fun _ => none) (As := [sj_i (167 + (41 * (v15 - 1))), sj_i 100]) (rest := []) h dX9_line_199 mw_X9_392 vw_X9_runs (fun _ _ hc => c_X9_runs hc) rfl ⟨(Nat.le_of_ble_eq_true rfl), (Nat.le_of_ble_eq_true rfl)⟩ (Nat.le_of_ble_eq_true rfl) rfl (fun _u s19 h => ?_)
        refine r_goto (pc := 202) (tgt := 216) dX9_line_202 (by decide) ?_
        exact sj_weak (l2 := [some (sj_r (some a0)), none, none, none]) (⟨rfl, trivial⟩) (t_X9_line_216 a0 s19 h)
      · exact sj_weak (l2 := [some (sj_r (some a0)), none, none, none]) (⟨rfl, trivial⟩) (t_X9_line_216 a0 s17 h)
    refine sj_if h (fun c6 h => ?_) (fun c6 h => ?_)
    · refine r_tcase (pc := 56) (tgt := 205) (j := 6) hr c6 dX9_line_56 (by decide) (by decide) rfl (by decide) ?_
      refine r_aload_n (pc := 205) dX9_line_205 rfl rfl ?_
      refine r_callV (pc := 206) (fun _ => none) (As := []) (rest := []) h dX9_line_206 mw_X9_395 vw_X9_soilLine (fun _ _ hc => c_X9_soilLine hc) rfl ⟨(Nat.le_of_ble_eq_true rfl), (Nat.le_of_ble_eq_true rfl)⟩ (Nat.le_of_ble_eq_true rfl) rfl (fun _u s20 h => ?_)
      refine r_goto (pc := 209) (tgt := 216) dX9_line_209 (by decide) ?_
      exact sj_weak (l2 := [some (sj_r (some a0)), none, none, none]) (⟨rfl, trivial⟩) (t_X9_line_216 a0 s20 h)
    refine r_tdflt (pc := 56) (tgt := 212) hr dX9_line_56 (by omega) (by decide) ?_
    refine r_aload_n (pc := 212) dX9_line_212 rfl rfl ?_
    refine r_callV (pc := 213) (fun _ => none) (As := []) (rest := []) h dX9_line_213 mw_X9_398 vw_X9_anchorLine (fun _ _ hc => c_X9_anchorLine hc) rfl ⟨(Nat.le_of_ble_eq_true rfl), (Nat.le_of_ble_eq_true rfl)⟩ (Nat.le_of_ble_eq_true rfl) rfl (fun _u s21 h => ?_)
    exact sj_weak (l2 := [some (sj_r (some a0)), none, none, none]) (⟨rfl, trivial⟩) (t_X9_line_216 a0 s21 h)
  · exact r_vret (pc := 54) h rfl dX9_line_54
set_option maxHeartbeats 4000000 in
theorem t_X9_line_21 {X : sj_X} {s0 : sj_Mem} {N : Nat} {q : Unit × sj_Mem} :
    ∀ (a0 : Nat) (x1 : Int) (x2 : Int) (s : sj_Mem), f_X9_line_21 N a0 x1 x2 s = some q → sj_T X m_X9_line s0 (none, q.2) 21 [some (sj_r (some a0)), some (sj_i x1), some (sj_i x2), none] [] s := by
  intro a0 x1 x2 s h
  unfold f_X9_line_21 at h
  refine r_iload_n (pc := 21) dX9_line_21 rfl rfl ?_
  refine r_i2l (pc := 22) h dX9_line_22 (fun v1 h => ?_)
  refine r_lconst0 (pc := 23) dX9_line_23 ?_
  refine r_ldc2 (n := 4) (pc := 24) dX9_line_24 kc_X9_64 ?_
  refine r_callS (pc := 27) (fun v => some (sj_i v)) (As := [sj_j v1, sj_j 0, sj_j 4]) (rest := []) h dX9_line_27 mw_X9_57 kw_1225 (fun _ _ hc => c_X9_isIn hc) rfl ⟨(Nat.le_of_ble_eq_true rfl), (Nat.le_of_ble_eq_true rfl)⟩ (Nat.le_of_ble_eq_true rfl) rfl (fun v3 s2 h => ?_)
  refine r_if_eq (pc := 30) (tgt := 39) h dX9_line_30 (by decide) (fun h => ?_) (fun h => ?_)
  · exact sj_weak (l2 := [some (sj_r (some a0)), none, some (sj_i x2), none]) (⟨rfl, ⟨rfl, trivial⟩⟩) (t_X9_line_39 a0 x2 s2 h)
  · refine r_aload_n (pc := 33) dX9_line_33 rfl rfl ?_
    refine r_iload_n (pc := 34) dX9_line_34 rfl rfl ?_
    refine r_iload_n (pc := 35) dX9_line_35 rfl rfl ?_
    refine r_callV (pc := 36) (fun _ => none) (As := [sj_i x2, sj_i x1]) (rest := []) h dX9_line_36 mw_X9_386 vw_X9_tells (fun _ _ hc => c_X9_tells hc) rfl ⟨(Nat.le_of_ble_eq_true rfl), (Nat.le_of_ble_eq_true rfl)⟩ (Nat.le_of_ble_eq_true rfl) rfl (fun _u s4 h => ?_)
    exact sj_weak (l2 := [some (sj_r (some a0)), none, some (sj_i x2), none]) (⟨rfl, ⟨rfl, trivial⟩⟩) (t_X9_line_39 a0 x2 s4 h)
set_option maxHeartbeats 4000000 in
theorem t_X9_line_0 {X : sj_X} {s0 : sj_Mem} {N : Nat} {q : Unit × sj_Mem} :
    ∀ (a0 : Nat) (s : sj_Mem), f_X9_line N a0 s = some q → sj_T X m_X9_line s0 (none, q.2) 0 [some (sj_r (some a0)), none, none, none] [] s := by
  intro a0 s h
  unfold f_X9_line at h
  refine r_aload_n (pc := 0) dX9_line_0 rfl rfl ?_
  refine r_gI (pc := 1) h dX9_line_1 fw_X9_349 rfl (fun v1 h => ?_)
  refine r_istore_n (ln := [some (sj_r (some a0)), some (sj_i v1), none, none]) (pc := 4) dX9_line_4 rfl (Nat.le_of_ble_eq_true rfl) rfl ?_
  refine r_aload_n (pc := 5) dX9_line_5 rfl rfl ?_
  refine r_callV (pc := 6) (fun v => some (sj_i v)) (As := []) (rest := []) h dX9_line_6 mw_X9_389 vw_X9_word (fun _ _ hc => c_X9_word hc) rfl ⟨(Nat.le_of_ble_eq_true rfl), (Nat.le_of_ble_eq_true rfl)⟩ (Nat.le_of_ble_eq_true rfl) rfl (fun v3 s2 h => ?_)
  refine r_istore_n (ln := [some (sj_r (some a0)), some (sj_i v1), some (sj_i v3), none]) (pc := 9) dX9_line_9 rfl (Nat.le_of_ble_eq_true rfl) rfl ?_
  refine r_iload_n (pc := 10) dX9_line_10 rfl rfl ?_
  refine r_iconst (pc := 11) dX9_line_11 ?_
  refine r_icmp_ne (pc := 12) (tgt := 21) h dX9_line_12 (by decide) (fun h => ?_) (fun h => ?_)
  · refine r_aload_n (pc := 15) dX9_line_15 rfl rfl ?_
    refine r_iconst (pc := 16) dX9_line_16 ?_
    refine r_iload_n (pc := 17) dX9_line_17 rfl rfl ?_
    refine r_callV (pc := 18) (fun _ => none) (As := [sj_i 1, sj_i v1]) (rest := []) h dX9_line_18 mw_X9_362 vw_X9_wrong (fun _ _ hc => c_X9_wrong hc) rfl ⟨(Nat.le_of_ble_eq_true rfl), (Nat.le_of_ble_eq_true rfl)⟩ (Nat.le_of_ble_eq_true rfl) rfl (fun _u s4 h => ?_)
    exact sj_weak (l2 := [some (sj_r (some a0)), some (sj_i v1), some (sj_i v3), none]) (⟨rfl, ⟨rfl, ⟨rfl, trivial⟩⟩⟩) (t_X9_line_21 a0 v1 v3 s4 h)
  · exact sj_weak (l2 := [some (sj_r (some a0)), some (sj_i v1), some (sj_i v3), none]) (⟨rfl, ⟨rfl, ⟨rfl, trivial⟩⟩⟩) (t_X9_line_21 a0 v1 v3 s2 h)
set_option maxHeartbeats 4000000 in
theorem c_X9_line {X : sj_X} {N : Nat} {a0 : Nat} {s : sj_Mem} {q : Unit × sj_Mem} (h : f_X9_line N a0 s = some q) : sj_C X m_X9_line [sj_r (some a0)] s (none, q.2) :=
  sj_C_of (by decide +kernel) (Nat.le_of_ble_eq_true rfl) (lo := [some (sj_r (some a0)), none, none, none]) rfl (sj_weak (l2 := [some (sj_r (some a0)), none, none, none]) (⟨rfl, trivial⟩) (t_X9_line_0 a0 s h))
theorem dX9_reads_0 : decode cX9_reads 0 = .ok (.aload_n 0, 1) := by decide +kernel
theorem dX9_reads_1 : decode cX9_reads 1 = .ok (.invokevirtual 352, 3) := by decide +kernel
theorem dX9_reads_4 : decode cX9_reads 4 = .ok (.aload_n 0, 1) := by decide +kernel
theorem dX9_reads_5 : decode cX9_reads 5 = .ok (.bipush 7, 2) := by decide +kernel
theorem dX9_reads_7 : decode cX9_reads 7 = .ok (.bipush 99, 2) := by decide +kernel
theorem dX9_reads_9 : decode cX9_reads 9 = .ok (.bipush 111, 2) := by decide +kernel
theorem dX9_reads_11 : decode cX9_reads 11 = .ok (.bipush 108, 2) := by decide +kernel
theorem dX9_reads_13 : decode cX9_reads 13 = .ok (.bipush 117, 2) := by decide +kernel
theorem dX9_reads_15 : decode cX9_reads 15 = .ok (.bipush 109, 2) := by decide +kernel
theorem dX9_reads_17 : decode cX9_reads 17 = .ok (.bipush 110, 2) := by decide +kernel
theorem dX9_reads_19 : decode cX9_reads 19 = .ok (.bipush 115, 2) := by decide +kernel
theorem dX9_reads_21 : decode cX9_reads 21 = .ok (.invokevirtual 379, 3) := by decide +kernel
theorem dX9_reads_24 : decode cX9_reads 24 = .ok (.ifCond .eq 17, 3) := by decide +kernel
theorem dX9_reads_27 : decode cX9_reads 27 = .ok (.aload_n 0, 1) := by decide +kernel
theorem dX9_reads_28 : decode cX9_reads 28 = .ok (.dup, 1) := by decide +kernel
theorem dX9_reads_29 : decode cX9_reads 29 = .ok (.getfield 349, 3) := by decide +kernel
theorem dX9_reads_32 : decode cX9_reads 32 = .ok (.bipush 7, 2) := by decide +kernel
theorem dX9_reads_34 : decode cX9_reads 34 = .ok (.iadd, 1) := by decide +kernel
theorem dX9_reads_35 : decode cX9_reads 35 = .ok (.putfield 349, 3) := by decide +kernel
theorem dX9_reads_38 : decode cX9_reads 38 = .ok (.goto 12, 3) := by decide +kernel
theorem dX9_reads_41 : decode cX9_reads 41 = .ok (.aload_n 0, 1) := by decide +kernel
theorem dX9_reads_42 : decode cX9_reads 42 = .ok (.iconst 1, 1) := by decide +kernel
theorem dX9_reads_43 : decode cX9_reads 43 = .ok (.aload_n 0, 1) := by decide +kernel
theorem dX9_reads_44 : decode cX9_reads 44 = .ok (.getfield 349, 3) := by decide +kernel
theorem dX9_reads_47 : decode cX9_reads 47 = .ok (.invokevirtual 362, 3) := by decide +kernel
theorem dX9_reads_50 : decode cX9_reads 50 = .ok (.aload_n 0, 1) := by decide +kernel
theorem dX9_reads_51 : decode cX9_reads 51 = .ok (.iconst 4, 1) := by decide +kernel
theorem dX9_reads_52 : decode cX9_reads 52 = .ok (.bipush 40, 2) := by decide +kernel
theorem dX9_reads_54 : decode cX9_reads 54 = .ok (.invokevirtual 383, 3) := by decide +kernel
theorem dX9_reads_57 : decode cX9_reads 57 = .ok (.istore_n 1, 1) := by decide +kernel
theorem dX9_reads_58 : decode cX9_reads 58 = .ok (.aload_n 0, 1) := by decide +kernel
theorem dX9_reads_59 : decode cX9_reads 59 = .ok (.iconst 1, 1) := by decide +kernel
theorem dX9_reads_60 : decode cX9_reads 60 = .ok (.bipush 10, 2) := by decide +kernel
theorem dX9_reads_62 : decode cX9_reads 62 = .ok (.invokevirtual 383, 3) := by decide +kernel
theorem dX9_reads_65 : decode cX9_reads 65 = .ok (.istore_n 2, 1) := by decide +kernel
theorem dX9_reads_66 : decode cX9_reads 66 = .ok (.aload_n 0, 1) := by decide +kernel
theorem dX9_reads_67 : decode cX9_reads 67 = .ok (.bipush 59, 2) := by decide +kernel
theorem dX9_reads_69 : decode cX9_reads 69 = .ok (.invokevirtual 401, 3) := by decide +kernel
theorem dX9_reads_72 : decode cX9_reads 72 = .ok (.aload_n 0, 1) := by decide +kernel
theorem dX9_reads_73 : decode cX9_reads 73 = .ok (.getfield 346, 3) := by decide +kernel
theorem dX9_reads_76 : decode cX9_reads 76 = .ok (.ifCond .eq 5, 3) := by decide +kernel
theorem dX9_reads_79 : decode cX9_reads 79 = .ok (.iconst 0, 1) := by decide +kernel
theorem dX9_reads_80 : decode cX9_reads 80 = .ok (.ireturn, 1) := by decide +kernel
theorem dX9_reads_81 : decode cX9_reads 81 = .ok (.aload_n 0, 1) := by decide +kernel
theorem dX9_reads_82 : decode cX9_reads 82 = .ok (.iload_n 1, 1) := by decide +kernel
theorem dX9_reads_83 : decode cX9_reads 83 = .ok (.iload_n 2, 1) := by decide +kernel
theorem dX9_reads_84 : decode cX9_reads 84 = .ok (.invokevirtual 53, 3) := by decide +kernel
theorem dX9_reads_87 : decode cX9_reads 87 = .ok (.iconst 1, 1) := by decide +kernel
theorem dX9_reads_88 : decode cX9_reads 88 = .ok (.istore_n 3, 1) := by decide +kernel
theorem dX9_reads_89 : decode cX9_reads 89 = .ok (.aload_n 0, 1) := by decide +kernel
theorem dX9_reads_90 : decode cX9_reads 90 = .ok (.invokevirtual 352, 3) := by decide +kernel
theorem dX9_reads_93 : decode cX9_reads 93 = .ok (.aload_n 0, 1) := by decide +kernel
theorem dX9_reads_94 : decode cX9_reads 94 = .ok (.getfield 349, 3) := by decide +kernel
theorem dX9_reads_97 : decode cX9_reads 97 = .ok (.aload_n 0, 1) := by decide +kernel
theorem dX9_reads_98 : decode cX9_reads 98 = .ok (.getfield 337, 3) := by decide +kernel
theorem dX9_reads_101 : decode cX9_reads 101 = .ok (.if_icmp .ge 24, 3) := by decide +kernel
theorem dX9_reads_104 : decode cX9_reads 104 = .ok (.aload_n 0, 1) := by decide +kernel
theorem dX9_reads_105 : decode cX9_reads 105 = .ok (.getfield 346, 3) := by decide +kernel
theorem dX9_reads_108 : decode cX9_reads 108 = .ok (.ifCond .ne 17, 3) := by decide +kernel
theorem dX9_reads_111 : decode cX9_reads 111 = .ok (.aload_n 0, 1) := by decide +kernel
theorem dX9_reads_112 : decode cX9_reads 112 = .ok (.invokevirtual 404, 3) := by decide +kernel
theorem dX9_reads_115 : decode cX9_reads 115 = .ok (.iinc 3 1, 3) := by decide +kernel
theorem dX9_reads_118 : decode cX9_reads 118 = .ok (.aload_n 0, 1) := by decide +kernel
theorem dX9_reads_119 : decode cX9_reads 119 = .ok (.invokevirtual 352, 3) := by decide +kernel
theorem dX9_reads_122 : decode cX9_reads 122 = .ok (.goto (-29), 3) := by decide +kernel
theorem dX9_reads_125 : decode cX9_reads 125 = .ok (.iconst 0, 1) := by decide +kernel
theorem dX9_reads_126 : decode cX9_reads 126 = .ok (.istore 4, 2) := by decide +kernel
theorem dX9_reads_128 : decode cX9_reads 128 = .ok (.iload 4, 2) := by decide +kernel
theorem dX9_reads_130 : decode cX9_reads 130 = .ok (.aload_n 0, 1) := by decide +kernel
theorem dX9_reads_131 : decode cX9_reads 131 = .ok (.getfield 9, 3) := by decide +kernel
theorem dX9_reads_134 : decode cX9_reads 134 = .ok (.iconst 0, 1) := by decide +kernel
theorem dX9_reads_135 : decode cX9_reads 135 = .ok (.iaload, 1) := by decide +kernel
theorem dX9_reads_136 : decode cX9_reads 136 = .ok (.if_icmp .gt 47, 3) := by decide +kernel
theorem dX9_reads_139 : decode cX9_reads 139 = .ok (.aload_n 0, 1) := by decide +kernel
theorem dX9_reads_140 : decode cX9_reads 140 = .ok (.getfield 346, 3) := by decide +kernel
theorem dX9_reads_143 : decode cX9_reads 143 = .ok (.ifCond .ne 40, 3) := by decide +kernel
theorem dX9_reads_146 : decode cX9_reads 146 = .ok (.aload_n 0, 1) := by decide +kernel
theorem dX9_reads_147 : decode cX9_reads 147 = .ok (.getfield 9, 3) := by decide +kernel
theorem dX9_reads_150 : decode cX9_reads 150 = .ok (.bipush 44, 2) := by decide +kernel
theorem dX9_reads_152 : decode cX9_reads 152 = .ok (.iload 4, 2) := by decide +kernel
theorem dX9_reads_154 : decode cX9_reads 154 = .ok (.iadd, 1) := by decide +kernel
theorem dX9_reads_155 : decode cX9_reads 155 = .ok (.iaload, 1) := by decide +kernel
theorem dX9_reads_156 : decode cX9_reads 156 = .ok (.aload_n 0, 1) := by decide +kernel
theorem dX9_reads_157 : decode cX9_reads 157 = .ok (.getfield 9, 3) := by decide +kernel
theorem dX9_reads_160 : decode cX9_reads 160 = .ok (.iconst 3, 1) := by decide +kernel
theorem dX9_reads_161 : decode cX9_reads 161 = .ok (.iload 4, 2) := by decide +kernel
theorem dX9_reads_163 : decode cX9_reads 163 = .ok (.iadd, 1) := by decide +kernel
theorem dX9_reads_164 : decode cX9_reads 164 = .ok (.iaload, 1) := by decide +kernel
theorem dX9_reads_165 : decode cX9_reads 165 = .ok (.if_icmp .le 12, 3) := by decide +kernel
theorem dX9_reads_168 : decode cX9_reads 168 = .ok (.aload_n 0, 1) := by decide +kernel
theorem dX9_reads_169 : decode cX9_reads 169 = .ok (.iconst 4, 1) := by decide +kernel
theorem dX9_reads_170 : decode cX9_reads 170 = .ok (.aload_n 0, 1) := by decide +kernel
theorem dX9_reads_171 : decode cX9_reads 171 = .ok (.getfield 337, 3) := by decide +kernel
theorem dX9_reads_174 : decode cX9_reads 174 = .ok (.invokevirtual 362, 3) := by decide +kernel
theorem dX9_reads_177 : decode cX9_reads 177 = .ok (.iinc 4 1, 3) := by decide +kernel
theorem dX9_reads_180 : decode cX9_reads 180 = .ok (.goto (-52), 3) := by decide +kernel
theorem dX9_reads_183 : decode cX9_reads 183 = .ok (.iload_n 3, 1) := by decide +kernel
theorem dX9_reads_184 : decode cX9_reads 184 = .ok (.ireturn, 1) := by decide +kernel
set_option maxHeartbeats 4000000 in
theorem t_X9_reads_177 {X : sj_X} {s0 : sj_Mem} {N : Nat} {q : Int × sj_Mem} {k128 : Nat → Int → Int → sj_Mem → Option (Int × sj_Mem)} (hk128 : ∀ (a0 : Nat) (x3 : Int) (x4 : Int) (s : sj_Mem), k128 a0 x3 x4 s = some q → sj_T X m_X9_reads s0 (some (sj_i q.1), q.2) 128 [some (sj_r (some a0)), none, none, some (sj_i x3), some (sj_i x4)] [] s) :
    ∀ (a0 : Nat) (x3 : Int) (x4 : Int) (s : sj_Mem), f_X9_reads_177 N k128 a0 x3 x4 s = some q → sj_T X m_X9_reads s0 (some (sj_i q.1), q.2) 177 [some (sj_r (some a0)), none, none, some (sj_i x3), some (sj_i x4)] [] s := by
  intro a0 x3 x4 s h
  unfold f_X9_reads_177 at h
  refine r_iinc (ln := fun w => [some (sj_r (some a0)), none, none, some (sj_i x3), some (sj_i w)]) (pc := 177) h dX9_reads_177 rfl (Nat.le_of_ble_eq_true rfl) (fun _ => rfl) (fun v1 h => ?_)
  refine r_goto (pc := 180) (tgt := 128) dX9_reads_180 (by decide) ?_
  exact sj_weak (l2 := [some (sj_r (some a0)), none, none, some (sj_i x3), some (sj_i v1)]) (⟨rfl, ⟨rfl, ⟨rfl, trivial⟩⟩⟩) (hk128 a0 x3 v1 s h)
set_option maxHeartbeats 4000000 in
theorem t_X9_reads_128_b {X : sj_X} {s0 : sj_Mem} {N : Nat} {q : Int × sj_Mem} {k128 : Nat → Int → Int → sj_Mem → Option (Int × sj_Mem)} (hk128 : ∀ (a0 : Nat) (x3 : Int) (x4 : Int) (s : sj_Mem), k128 a0 x3 x4 s = some q → sj_T X m_X9_reads s0 (some (sj_i q.1), q.2) 128 [some (sj_r (some a0)), none, none, some (sj_i x3), some (sj_i x4)] [] s) :
    ∀ (a0 : Nat) (x3 : Int) (x4 : Int) (s : sj_Mem), f_X9_reads_128_b N k128 a0 x3 x4 s = some q → sj_T X m_X9_reads s0 (some (sj_i q.1), q.2) 128 [some (sj_r (some a0)), none, none, some (sj_i x3), some (sj_i x4)] [] s := by
  intro a0 x3 x4 s h
  unfold f_X9_reads_128_b at h
  refine r_iload (pc := 128) dX9_reads_128 rfl ?_
  refine r_aload_n (pc := 130) dX9_reads_130 rfl rfl ?_
  refine r_gR (pc := 131) h dX9_reads_131 fw_X9_9 rfl (fun r1 h => ?_)
  refine r_iconst (pc := 134) dX9_reads_134 ?_
  obtain ⟨a2, ea2, g⟩ := e_nn_some h
  clear h
  subst ea2
  have h := g
  clear g
  refine r_iaload (pc := 135) h dX9_reads_135 (fun v3 h => ?_)
  refine r_icmp_gt (pc := 136) (tgt := 183) h dX9_reads_136 (by decide) (fun h => ?_) (fun h => ?_)
  · refine r_iload_n (pc := 183) dX9_reads_183 rfl rfl ?_
    exact r_iret (pc := 184) h rfl dX9_reads_184
  · refine r_aload_n (pc := 139) dX9_reads_139 rfl rfl ?_
    refine r_gI (pc := 140) h dX9_reads_140 fw_X9_346 rfl (fun v4 h => ?_)
    refine r_if_ne (pc := 143) (tgt := 183) h dX9_reads_143 (by decide) (fun h => ?_) (fun h => ?_)
    · refine r_aload_n (pc := 146) dX9_reads_146 rfl rfl ?_
      refine r_gR (pc := 147) h dX9_reads_147 fw_X9_9 rfl (fun r5 h => ?_)
      refine r_bipush (pc := 150) dX9_reads_150 ⟨by decide, by decide⟩ ?_
      refine r_iload (pc := 152) dX9_reads_152 rfl ?_
      refine r_iadd (pc := 154) dX9_reads_154 ?_
      obtain ⟨a6, ea6, g⟩ := e_nn_some h
      clear h
      subst ea6
      have h := g
      clear g
      refine r_iaload (pc := 155) h dX9_reads_155 (fun v7 h => ?_)
      refine r_aload_n (pc := 156) dX9_reads_156 rfl rfl ?_
      refine r_gR (pc := 157) h dX9_reads_157 fw_X9_9 rfl (fun r8 h => ?_)
      refine r_iconst (pc := 160) dX9_reads_160 ?_
      refine r_iload (pc := 161) dX9_reads_161 rfl ?_
      refine r_iadd (pc := 163) dX9_reads_163 ?_
      obtain ⟨a9, ea9, g⟩ := e_nn_some h
      clear h
      subst ea9
      have h := g
      clear g
      refine r_iaload (pc := 164) h dX9_reads_164 (fun v10 h => ?_)
      refine r_icmp_le (pc := 165) (tgt := 177) h dX9_reads_165 (by decide) (fun h => ?_) (fun h => ?_)
      · exact sj_weak (l2 := [some (sj_r (some a0)), none, none, some (sj_i x3), some (sj_i x4)]) (⟨rfl, ⟨rfl, ⟨rfl, trivial⟩⟩⟩) (t_X9_reads_177 hk128 a0 x3 x4 s h)
      · refine r_aload_n (pc := 168) dX9_reads_168 rfl rfl ?_
        refine r_iconst (pc := 169) dX9_reads_169 ?_
        refine r_aload_n (pc := 170) dX9_reads_170 rfl rfl ?_
        refine r_gI (pc := 171) h dX9_reads_171 fw_X9_337 rfl (fun v11 h => ?_)
        refine r_callV (pc := 174) (fun _ => none) (As := [sj_i 4, sj_i v11]) (rest := []) h dX9_reads_174 mw_X9_362 vw_X9_wrong (fun _ _ hc => c_X9_wrong hc) rfl ⟨(Nat.le_of_ble_eq_true rfl), (Nat.le_of_ble_eq_true rfl)⟩ (Nat.le_of_ble_eq_true rfl) rfl (fun _u s12 h => ?_)
        exact sj_weak (l2 := [some (sj_r (some a0)), none, none, some (sj_i x3), some (sj_i x4)]) (⟨rfl, ⟨rfl, ⟨rfl, trivial⟩⟩⟩) (t_X9_reads_177 hk128 a0 x3 x4 s12 h)
    · refine r_iload_n (pc := 183) dX9_reads_183 rfl rfl ?_
      exact r_iret (pc := 184) h rfl dX9_reads_184
set_option maxHeartbeats 4000000 in
theorem t_X9_reads_128 {X : sj_X} {s0 : sj_Mem} {N : Nat} {q : Int × sj_Mem} :
    ∀ (n : Nat) (a0 : Nat) (x3 : Int) (x4 : Int) (s : sj_Mem), f_X9_reads_128 N n a0 x3 x4 s = some q → sj_T X m_X9_reads s0 (some (sj_i q.1), q.2) 128 [some (sj_r (some a0)), none, none, some (sj_i x3), some (sj_i x4)] [] s := by
  intro n
  induction n with
  | zero => intro a0 x3 x4 s h; exact nomatch h
  | succ n ih => intro a0 x3 x4 s h; exact t_X9_reads_128_b (N := N) ih a0 x3 x4 s h
set_option maxHeartbeats 4000000 in
theorem t_X9_reads_125 {X : sj_X} {s0 : sj_Mem} {N : Nat} {q : Int × sj_Mem} :
    ∀ (a0 : Nat) (x3 : Int) (s : sj_Mem), f_X9_reads_125 N a0 x3 s = some q → sj_T X m_X9_reads s0 (some (sj_i q.1), q.2) 125 [some (sj_r (some a0)), none, none, some (sj_i x3), none] [] s := by
  intro a0 x3 s h
  unfold f_X9_reads_125 at h
  refine r_iconst (pc := 125) dX9_reads_125 ?_
  refine r_istore (ln := [some (sj_r (some a0)), none, none, some (sj_i x3), some (sj_i 0)]) (pc := 126) dX9_reads_126 (Nat.le_of_ble_eq_true rfl) rfl ?_
  exact sj_weak (l2 := [some (sj_r (some a0)), none, none, some (sj_i x3), some (sj_i 0)]) (⟨rfl, ⟨rfl, ⟨rfl, trivial⟩⟩⟩) (t_X9_reads_128 N a0 x3 0 s h)
set_option maxHeartbeats 4000000 in
theorem t_X9_reads_93_b {X : sj_X} {s0 : sj_Mem} {N : Nat} {q : Int × sj_Mem} {k93 : Nat → Int → sj_Mem → Option (Int × sj_Mem)} (hk93 : ∀ (a0 : Nat) (x3 : Int) (s : sj_Mem), k93 a0 x3 s = some q → sj_T X m_X9_reads s0 (some (sj_i q.1), q.2) 93 [some (sj_r (some a0)), none, none, some (sj_i x3), none] [] s) :
    ∀ (a0 : Nat) (x3 : Int) (s : sj_Mem), f_X9_reads_93_b N k93 a0 x3 s = some q → sj_T X m_X9_reads s0 (some (sj_i q.1), q.2) 93 [some (sj_r (some a0)), none, none, some (sj_i x3), none] [] s := by
  intro a0 x3 s h
  unfold f_X9_reads_93_b at h
  refine r_aload_n (pc := 93) dX9_reads_93 rfl rfl ?_
  refine r_gI (pc := 94) h dX9_reads_94 fw_X9_349 rfl (fun v1 h => ?_)
  refine r_aload_n (pc := 97) dX9_reads_97 rfl rfl ?_
  refine r_gI (pc := 98) h dX9_reads_98 fw_X9_337 rfl (fun v2 h => ?_)
  refine r_icmp_ge (pc := 101) (tgt := 125) h dX9_reads_101 (by decide) (fun h => ?_) (fun h => ?_)
  · exact sj_weak (l2 := [some (sj_r (some a0)), none, none, some (sj_i x3), none]) (⟨rfl, ⟨rfl, trivial⟩⟩) (t_X9_reads_125 a0 x3 s h)
  · refine r_aload_n (pc := 104) dX9_reads_104 rfl rfl ?_
    refine r_gI (pc := 105) h dX9_reads_105 fw_X9_346 rfl (fun v3 h => ?_)
    refine r_if_ne (pc := 108) (tgt := 125) h dX9_reads_108 (by decide) (fun h => ?_) (fun h => ?_)
    · refine r_aload_n (pc := 111) dX9_reads_111 rfl rfl ?_
      refine r_callV (pc := 112) (fun _ => none) (As := []) (rest := []) h dX9_reads_112 mw_X9_404 vw_X9_line (fun _ _ hc => c_X9_line hc) rfl ⟨(Nat.le_of_ble_eq_true rfl), (Nat.le_of_ble_eq_true rfl)⟩ (Nat.le_of_ble_eq_true rfl) rfl (fun _u s4 h => ?_)
      refine r_iinc (ln := fun w => [some (sj_r (some a0)), none, none, some (sj_i w), none]) (pc := 115) h dX9_reads_115 rfl (Nat.le_of_ble_eq_true rfl) (fun _ => rfl) (fun v5 h => ?_)
      refine r_aload_n (pc := 118) dX9_reads_118 rfl rfl ?_
      refine r_callV (pc := 119) (fun _ => none) (As := []) (rest := []) h dX9_reads_119 mw_X9_352 vw_X9_blanks (fun _ _ hc => c_X9_blanks hc) rfl ⟨(Nat.le_of_ble_eq_true rfl), (Nat.le_of_ble_eq_true rfl)⟩ (Nat.le_of_ble_eq_true rfl) rfl (fun _u s6 h => ?_)
      refine r_goto (pc := 122) (tgt := 93) dX9_reads_122 (by decide) ?_
      exact sj_weak (l2 := [some (sj_r (some a0)), none, none, some (sj_i v5), none]) (⟨rfl, ⟨rfl, trivial⟩⟩) (hk93 a0 v5 s6 h)
    · exact sj_weak (l2 := [some (sj_r (some a0)), none, none, some (sj_i x3), none]) (⟨rfl, ⟨rfl, trivial⟩⟩) (t_X9_reads_125 a0 x3 s h)
set_option maxHeartbeats 4000000 in
theorem t_X9_reads_93 {X : sj_X} {s0 : sj_Mem} {N : Nat} {q : Int × sj_Mem} :
    ∀ (n : Nat) (a0 : Nat) (x3 : Int) (s : sj_Mem), f_X9_reads_93 N n a0 x3 s = some q → sj_T X m_X9_reads s0 (some (sj_i q.1), q.2) 93 [some (sj_r (some a0)), none, none, some (sj_i x3), none] [] s := by
  intro n
  induction n with
  | zero => intro a0 x3 s h; exact nomatch h
  | succ n ih => intro a0 x3 s h; exact t_X9_reads_93_b (N := N) ih a0 x3 s h
set_option maxHeartbeats 4000000 in
theorem t_X9_reads_50 {X : sj_X} {s0 : sj_Mem} {N : Nat} {q : Int × sj_Mem} :
    ∀ (a0 : Nat) (s : sj_Mem), f_X9_reads_50 N a0 s = some q → sj_T X m_X9_reads s0 (some (sj_i q.1), q.2) 50 [some (sj_r (some a0)), none, none, none, none] [] s := by
  intro a0 s h
  unfold f_X9_reads_50 at h
  refine r_aload_n (pc := 50) dX9_reads_50 rfl rfl ?_
  refine r_iconst (pc := 51) dX9_reads_51 ?_
  refine r_bipush (pc := 52) dX9_reads_52 ⟨by decide, by decide⟩ ?_
  refine r_callV (pc := 54) (fun v => some (sj_i v)) (As := [sj_i 4, sj_i 40]) (rest := []) h dX9_reads_54 mw_X9_383 vw_X9_number (fun _ _ hc => c_X9_number hc) rfl ⟨(Nat.le_of_ble_eq_true rfl), (Nat.le_of_ble_eq_true rfl)⟩ (Nat.le_of_ble_eq_true rfl) rfl (fun v2 s1 h => ?_)
  refine r_istore_n (ln := [some (sj_r (some a0)), some (sj_i v2), none, none, none]) (pc := 57) dX9_reads_57 rfl (Nat.le_of_ble_eq_true rfl) rfl ?_
  refine r_aload_n (pc := 58) dX9_reads_58 rfl rfl ?_
  refine r_iconst (pc := 59) dX9_reads_59 ?_
  refine r_bipush (pc := 60) dX9_reads_60 ⟨by decide, by decide⟩ ?_
  refine r_callV (pc := 62) (fun v => some (sj_i v)) (As := [sj_i 1, sj_i 10]) (rest := []) h dX9_reads_62 mw_X9_383 vw_X9_number (fun _ _ hc => c_X9_number hc) rfl ⟨(Nat.le_of_ble_eq_true rfl), (Nat.le_of_ble_eq_true rfl)⟩ (Nat.le_of_ble_eq_true rfl) rfl (fun v4 s3 h => ?_)
  refine r_istore_n (ln := [some (sj_r (some a0)), some (sj_i v2), some (sj_i v4), none, none]) (pc := 65) dX9_reads_65 rfl (Nat.le_of_ble_eq_true rfl) rfl ?_
  refine r_aload_n (pc := 66) dX9_reads_66 rfl rfl ?_
  refine r_bipush (pc := 67) dX9_reads_67 ⟨by decide, by decide⟩ ?_
  refine r_callV (pc := 69) (fun _ => none) (As := [sj_i 59]) (rest := []) h dX9_reads_69 mw_X9_401 vw_X9_must (fun _ _ hc => c_X9_must hc) rfl ⟨(Nat.le_of_ble_eq_true rfl), (Nat.le_of_ble_eq_true rfl)⟩ (Nat.le_of_ble_eq_true rfl) rfl (fun _u s5 h => ?_)
  refine r_aload_n (pc := 72) dX9_reads_72 rfl rfl ?_
  refine r_gI (pc := 73) h dX9_reads_73 fw_X9_346 rfl (fun v6 h => ?_)
  refine r_if_eq (pc := 76) (tgt := 81) h dX9_reads_76 (by decide) (fun h => ?_) (fun h => ?_)
  · refine r_aload_n (pc := 81) dX9_reads_81 rfl rfl ?_
    refine r_iload_n (pc := 82) dX9_reads_82 rfl rfl ?_
    refine r_iload_n (pc := 83) dX9_reads_83 rfl rfl ?_
    refine r_callV (pc := 84) (fun _ => none) (As := [sj_i v2, sj_i v4]) (rest := []) h dX9_reads_84 mw_X9_53 vw_X9_begins (fun _ _ hc => c_X9_begins hc) rfl ⟨(Nat.le_of_ble_eq_true rfl), (Nat.le_of_ble_eq_true rfl)⟩ (Nat.le_of_ble_eq_true rfl) rfl (fun _u s7 h => ?_)
    refine r_iconst (pc := 87) dX9_reads_87 ?_
    refine r_istore_n (ln := [some (sj_r (some a0)), some (sj_i v2), some (sj_i v4), some (sj_i 1), none]) (pc := 88) dX9_reads_88 rfl (Nat.le_of_ble_eq_true rfl) rfl ?_
    refine r_aload_n (pc := 89) dX9_reads_89 rfl rfl ?_
    refine r_callV (pc := 90) (fun _ => none) (As := []) (rest := []) h dX9_reads_90 mw_X9_352 vw_X9_blanks (fun _ _ hc => c_X9_blanks hc) rfl ⟨(Nat.le_of_ble_eq_true rfl), (Nat.le_of_ble_eq_true rfl)⟩ (Nat.le_of_ble_eq_true rfl) rfl (fun _u s8 h => ?_)
    exact sj_weak (l2 := [some (sj_r (some a0)), none, none, some (sj_i 1), none]) (⟨rfl, ⟨rfl, trivial⟩⟩) (t_X9_reads_93 N a0 1 s8 h)
  · refine r_iconst (pc := 79) dX9_reads_79 ?_
    exact r_iret (pc := 80) h rfl dX9_reads_80
set_option maxHeartbeats 4000000 in
theorem t_X9_reads_0 {X : sj_X} {s0 : sj_Mem} {N : Nat} {q : Int × sj_Mem} :
    ∀ (a0 : Nat) (s : sj_Mem), f_X9_reads N a0 s = some q → sj_T X m_X9_reads s0 (some (sj_i q.1), q.2) 0 [some (sj_r (some a0)), none, none, none, none] [] s := by
  intro a0 s h
  unfold f_X9_reads at h
  refine r_aload_n (pc := 0) dX9_reads_0 rfl rfl ?_
  refine r_callV (pc := 1) (fun _ => none) (As := []) (rest := []) h dX9_reads_1 mw_X9_352 vw_X9_blanks (fun _ _ hc => c_X9_blanks hc) rfl ⟨(Nat.le_of_ble_eq_true rfl), (Nat.le_of_ble_eq_true rfl)⟩ (Nat.le_of_ble_eq_true rfl) rfl (fun _u s1 h => ?_)
  refine r_aload_n (pc := 4) dX9_reads_4 rfl rfl ?_
  refine r_bipush (pc := 5) dX9_reads_5 ⟨by decide, by decide⟩ ?_
  refine r_bipush (pc := 7) dX9_reads_7 ⟨by decide, by decide⟩ ?_
  refine r_bipush (pc := 9) dX9_reads_9 ⟨by decide, by decide⟩ ?_
  refine r_bipush (pc := 11) dX9_reads_11 ⟨by decide, by decide⟩ ?_
  refine r_bipush (pc := 13) dX9_reads_13 ⟨by decide, by decide⟩ ?_
  refine r_bipush (pc := 15) dX9_reads_15 ⟨by decide, by decide⟩ ?_
  refine r_bipush (pc := 17) dX9_reads_17 ⟨by decide, by decide⟩ ?_
  refine r_bipush (pc := 19) dX9_reads_19 ⟨by decide, by decide⟩ ?_
  refine r_callV (pc := 21) (fun v => some (sj_i v)) (As := [sj_i 7, sj_i 99, sj_i 111, sj_i 108, sj_i 117, sj_i 109, sj_i 110, sj_i 115]) (rest := []) h dX9_reads_21 mw_X9_379 vw_X9_spells (fun _ _ hc => c_X9_spells hc) rfl ⟨(Nat.le_of_ble_eq_true rfl), (Nat.le_of_ble_eq_true rfl)⟩ (Nat.le_of_ble_eq_true rfl) rfl (fun v3 s2 h => ?_)
  refine r_if_eq (pc := 24) (tgt := 41) h dX9_reads_24 (by decide) (fun h => ?_) (fun h => ?_)
  · refine r_aload_n (pc := 41) dX9_reads_41 rfl rfl ?_
    refine r_iconst (pc := 42) dX9_reads_42 ?_
    refine r_aload_n (pc := 43) dX9_reads_43 rfl rfl ?_
    refine r_gI (pc := 44) h dX9_reads_44 fw_X9_349 rfl (fun v4 h => ?_)
    refine r_callV (pc := 47) (fun _ => none) (As := [sj_i 1, sj_i v4]) (rest := []) h dX9_reads_47 mw_X9_362 vw_X9_wrong (fun _ _ hc => c_X9_wrong hc) rfl ⟨(Nat.le_of_ble_eq_true rfl), (Nat.le_of_ble_eq_true rfl)⟩ (Nat.le_of_ble_eq_true rfl) rfl (fun _u s5 h => ?_)
    exact sj_weak (l2 := [some (sj_r (some a0)), none, none, none, none]) (⟨rfl, trivial⟩) (t_X9_reads_50 a0 s5 h)
  · refine r_aload_n (pc := 27) dX9_reads_27 rfl rfl ?_
    refine r_dup (pc := 28) dX9_reads_28 rfl ?_
    refine r_gI (pc := 29) h dX9_reads_29 fw_X9_349 rfl (fun v6 h => ?_)
    refine r_bipush (pc := 32) dX9_reads_32 ⟨by decide, by decide⟩ ?_
    refine r_iadd (pc := 34) dX9_reads_34 ?_
    refine r_pI (pc := 35) h dX9_reads_35 fw_X9_349 rfl rfl (fun _ hq => by cases hq; rfl) (fun s7 h => ?_)
    refine r_goto (pc := 38) (tgt := 50) dX9_reads_38 (by decide) ?_
    exact sj_weak (l2 := [some (sj_r (some a0)), none, none, none, none]) (⟨rfl, trivial⟩) (t_X9_reads_50 a0 s7 h)
set_option maxHeartbeats 4000000 in
theorem c_X9_reads {X : sj_X} {N : Nat} {a0 : Nat} {s : sj_Mem} {q : Int × sj_Mem} (h : f_X9_reads N a0 s = some q) : sj_C X m_X9_reads [sj_r (some a0)] s (some (sj_i q.1), q.2) :=
  sj_C_of (by decide +kernel) (Nat.le_of_ble_eq_true rfl) (lo := [some (sj_r (some a0)), none, none, none, none]) rfl (sj_weak (l2 := [some (sj_r (some a0)), none, none, none, none]) (⟨rfl, trivial⟩) (t_X9_reads_0 a0 s h))
theorem dX9_text_0 : decode cX9_text 0 = .ok (.aload_n 0, 1) := by decide +kernel
theorem dX9_text_1 : decode cX9_text 1 = .ok (.invokevirtual 301, 3) := by decide +kernel
theorem dX9_text_4 : decode cX9_text 4 = .ok (.iconst 0, 1) := by decide +kernel
theorem dX9_text_5 : decode cX9_text 5 = .ok (.istore_n 1, 1) := by decide +kernel
theorem dX9_text_6 : decode cX9_text 6 = .ok (.iload_n 1, 1) := by decide +kernel
theorem dX9_text_7 : decode cX9_text 7 = .ok (.bipush 20, 2) := by decide +kernel
theorem dX9_text_9 : decode cX9_text 9 = .ok (.if_icmp .ge 16, 3) := by decide +kernel
theorem dX9_text_12 : decode cX9_text 12 = .ok (.aload_n 0, 1) := by decide +kernel
theorem dX9_text_13 : decode cX9_text 13 = .ok (.getfield 49, 3) := by decide +kernel
theorem dX9_text_16 : decode cX9_text 16 = .ok (.iload_n 1, 1) := by decide +kernel
theorem dX9_text_17 : decode cX9_text 17 = .ok (.iconst 0, 1) := by decide +kernel
theorem dX9_text_18 : decode cX9_text 18 = .ok (.bastore, 1) := by decide +kernel
theorem dX9_text_19 : decode cX9_text 19 = .ok (.iinc 1 1, 3) := by decide +kernel
theorem dX9_text_22 : decode cX9_text 22 = .ok (.goto (-16), 3) := by decide +kernel
theorem dX9_text_25 : decode cX9_text 25 = .ok (.aload_n 0, 1) := by decide +kernel
theorem dX9_text_26 : decode cX9_text 26 = .ok (.iconst 0, 1) := by decide +kernel
theorem dX9_text_27 : decode cX9_text 27 = .ok (.putfield 346, 3) := by decide +kernel
theorem dX9_text_30 : decode cX9_text 30 = .ok (.aload_n 0, 1) := by decide +kernel
theorem dX9_text_31 : decode cX9_text 31 = .ok (.iconst 0, 1) := by decide +kernel
theorem dX9_text_32 : decode cX9_text 32 = .ok (.putfield 343, 3) := by decide +kernel
theorem dX9_text_35 : decode cX9_text 35 = .ok (.aload_n 0, 1) := by decide +kernel
theorem dX9_text_36 : decode cX9_text 36 = .ok (.iconst (-1), 1) := by decide +kernel
theorem dX9_text_37 : decode cX9_text 37 = .ok (.putfield 46, 3) := by decide +kernel
theorem dX9_text_40 : decode cX9_text 40 = .ok (.aload_n 0, 1) := by decide +kernel
theorem dX9_text_41 : decode cX9_text 41 = .ok (.iconst 0, 1) := by decide +kernel
theorem dX9_text_42 : decode cX9_text 42 = .ok (.putfield 349, 3) := by decide +kernel
theorem dX9_text_45 : decode cX9_text 45 = .ok (.aload_n 0, 1) := by decide +kernel
theorem dX9_text_46 : decode cX9_text 46 = .ok (.invokevirtual 407, 3) := by decide +kernel
theorem dX9_text_49 : decode cX9_text 49 = .ok (.istore_n 1, 1) := by decide +kernel
theorem dX9_text_50 : decode cX9_text 50 = .ok (.aload_n 0, 1) := by decide +kernel
theorem dX9_text_51 : decode cX9_text 51 = .ok (.iconst 0, 1) := by decide +kernel
theorem dX9_text_52 : decode cX9_text 52 = .ok (.putfield 337, 3) := by decide +kernel
theorem dX9_text_55 : decode cX9_text 55 = .ok (.aload_n 0, 1) := by decide +kernel
theorem dX9_text_56 : decode cX9_text 56 = .ok (.getfield 346, 3) := by decide +kernel
theorem dX9_text_59 : decode cX9_text 59 = .ok (.ifCond .eq 9, 3) := by decide +kernel
theorem dX9_text_62 : decode cX9_text 62 = .ok (.aload_n 0, 1) := by decide +kernel
theorem dX9_text_63 : decode cX9_text 63 = .ok (.invokevirtual 304, 3) := by decide +kernel
theorem dX9_text_66 : decode cX9_text 66 = .ok (.iconst (-1), 1) := by decide +kernel
theorem dX9_text_67 : decode cX9_text 67 = .ok (.ireturn, 1) := by decide +kernel
theorem dX9_text_68 : decode cX9_text 68 = .ok (.aload_n 0, 1) := by decide +kernel
theorem dX9_text_69 : decode cX9_text 69 = .ok (.aload_n 0, 1) := by decide +kernel
theorem dX9_text_70 : decode cX9_text 70 = .ok (.getfield 13, 3) := by decide +kernel
theorem dX9_text_73 : decode cX9_text 73 = .ok (.invokevirtual 70, 3) := by decide +kernel
theorem dX9_text_76 : decode cX9_text 76 = .ok (.iload_n 1, 1) := by decide +kernel
theorem dX9_text_77 : decode cX9_text 77 = .ok (.ireturn, 1) := by decide +kernel
set_option maxHeartbeats 4000000 in
theorem t_X9_text_6_b {X : sj_X} {s0 : sj_Mem} {N : Nat} {q : Int × sj_Mem} {k6 : Nat → Int → sj_Mem → Option (Int × sj_Mem)} (hk6 : ∀ (a0 : Nat) (x1 : Int) (s : sj_Mem), k6 a0 x1 s = some q → sj_T X m_X9_text s0 (some (sj_i q.1), q.2) 6 [some (sj_r (some a0)), some (sj_i x1)] [] s) :
    ∀ (a0 : Nat) (x1 : Int) (s : sj_Mem), f_X9_text_6_b N k6 a0 x1 s = some q → sj_T X m_X9_text s0 (some (sj_i q.1), q.2) 6 [some (sj_r (some a0)), some (sj_i x1)] [] s := by
  intro a0 x1 s h
  unfold f_X9_text_6_b at h
  refine r_iload_n (pc := 6) dX9_text_6 rfl rfl ?_
  refine r_bipush (pc := 7) dX9_text_7 ⟨by decide, by decide⟩ ?_
  refine r_icmp_ge (pc := 9) (tgt := 25) h dX9_text_9 (by decide) (fun h => ?_) (fun h => ?_)
  · refine r_aload_n (pc := 25) dX9_text_25 rfl rfl ?_
    refine r_iconst (pc := 26) dX9_text_26 ?_
    refine r_pZ (pc := 27) h dX9_text_27 fw_X9_346 rfl rfl (fun _ hq => by cases hq; rfl) (fun s1 h => ?_)
    refine r_aload_n (pc := 30) dX9_text_30 rfl rfl ?_
    refine r_iconst (pc := 31) dX9_text_31 ?_
    refine r_pI (pc := 32) h dX9_text_32 fw_X9_343 rfl rfl (fun _ hq => by cases hq; rfl) (fun s2 h => ?_)
    refine r_aload_n (pc := 35) dX9_text_35 rfl rfl ?_
    refine r_iconst (pc := 36) dX9_text_36 ?_
    refine r_pI (pc := 37) h dX9_text_37 fw_X9_46 rfl rfl (fun _ hq => by cases hq; rfl) (fun s3 h => ?_)
    refine r_aload_n (pc := 40) dX9_text_40 rfl rfl ?_
    refine r_iconst (pc := 41) dX9_text_41 ?_
    refine r_pI (pc := 42) h dX9_text_42 fw_X9_349 rfl rfl (fun _ hq => by cases hq; rfl) (fun s4 h => ?_)
    refine r_aload_n (pc := 45) dX9_text_45 rfl rfl ?_
    refine r_callV (pc := 46) (fun v => some (sj_i v)) (As := []) (rest := []) h dX9_text_46 mw_X9_407 vw_X9_reads (fun _ _ hc => c_X9_reads hc) rfl ⟨(Nat.le_of_ble_eq_true rfl), (Nat.le_of_ble_eq_true rfl)⟩ (Nat.le_of_ble_eq_true rfl) rfl (fun v6 s5 h => ?_)
    refine r_istore_n (ln := [some (sj_r (some a0)), some (sj_i v6)]) (pc := 49) dX9_text_49 rfl (Nat.le_of_ble_eq_true rfl) rfl ?_
    refine r_aload_n (pc := 50) dX9_text_50 rfl rfl ?_
    refine r_iconst (pc := 51) dX9_text_51 ?_
    refine r_pI (pc := 52) h dX9_text_52 fw_X9_337 rfl rfl (fun _ hq => by cases hq; rfl) (fun s7 h => ?_)
    refine r_aload_n (pc := 55) dX9_text_55 rfl rfl ?_
    refine r_gI (pc := 56) h dX9_text_56 fw_X9_346 rfl (fun v8 h => ?_)
    refine r_if_eq (pc := 59) (tgt := 68) h dX9_text_59 (by decide) (fun h => ?_) (fun h => ?_)
    · refine r_aload_n (pc := 68) dX9_text_68 rfl rfl ?_
      refine r_aload_n (pc := 69) dX9_text_69 rfl rfl ?_
      refine r_gR (pc := 70) h dX9_text_70 fw_X9_13 rfl (fun r9 h => ?_)
      refine r_callV (pc := 73) (fun _ => none) (As := [sj_r r9]) (rest := []) h dX9_text_73 mw_X9_70 vw_X9_remembers (fun _ _ hc => c_X9_remembers hc) rfl ⟨(Nat.le_of_ble_eq_true rfl), (Nat.le_of_ble_eq_true rfl)⟩ (Nat.le_of_ble_eq_true rfl) rfl (fun _u s10 h => ?_)
      refine r_iload_n (pc := 76) dX9_text_76 rfl rfl ?_
      exact r_iret (pc := 77) h rfl dX9_text_77
    · refine r_aload_n (pc := 62) dX9_text_62 rfl rfl ?_
      refine r_callV (pc := 63) (fun _ => none) (As := []) (rest := []) h dX9_text_63 mw_X9_304 vw_X9_comesBack (fun _ _ hc => c_X9_comesBack hc) rfl ⟨(Nat.le_of_ble_eq_true rfl), (Nat.le_of_ble_eq_true rfl)⟩ (Nat.le_of_ble_eq_true rfl) rfl (fun _u s11 h => ?_)
      refine r_iconst (pc := 66) dX9_text_66 ?_
      exact r_iret (pc := 67) h rfl dX9_text_67
  · refine r_aload_n (pc := 12) dX9_text_12 rfl rfl ?_
    refine r_gR (pc := 13) h dX9_text_13 fw_X9_49 rfl (fun r12 h => ?_)
    refine r_iload_n (pc := 16) dX9_text_16 rfl rfl ?_
    refine r_iconst (pc := 17) dX9_text_17 ?_
    obtain ⟨a13, ea13, g⟩ := e_nn_some h
    clear h
    subst ea13
    have h := g
    clear g
    refine r_zastore (pc := 18) h dX9_text_18 (fun s14 h => ?_)
    refine r_iinc (ln := fun w => [some (sj_r (some a0)), some (sj_i w)]) (pc := 19) h dX9_text_19 rfl (Nat.le_of_ble_eq_true rfl) (fun _ => rfl) (fun v15 h => ?_)
    refine r_goto (pc := 22) (tgt := 6) dX9_text_22 (by decide) ?_
    exact sj_weak (l2 := [some (sj_r (some a0)), some (sj_i v15)]) (⟨rfl, ⟨rfl, trivial⟩⟩) (hk6 a0 v15 s14 h)
set_option maxHeartbeats 4000000 in
theorem t_X9_text_6 {X : sj_X} {s0 : sj_Mem} {N : Nat} {q : Int × sj_Mem} :
    ∀ (n : Nat) (a0 : Nat) (x1 : Int) (s : sj_Mem), f_X9_text_6 N n a0 x1 s = some q → sj_T X m_X9_text s0 (some (sj_i q.1), q.2) 6 [some (sj_r (some a0)), some (sj_i x1)] [] s := by
  intro n
  induction n with
  | zero => intro a0 x1 s h; exact nomatch h
  | succ n ih => intro a0 x1 s h; exact t_X9_text_6_b (N := N) ih a0 x1 s h
set_option maxHeartbeats 4000000 in
theorem t_X9_text_0 {X : sj_X} {s0 : sj_Mem} {N : Nat} {q : Int × sj_Mem} :
    ∀ (a0 : Nat) (s : sj_Mem), f_X9_text N a0 s = some q → sj_T X m_X9_text s0 (some (sj_i q.1), q.2) 0 [some (sj_r (some a0)), none] [] s := by
  intro a0 s h
  unfold f_X9_text at h
  refine r_aload_n (pc := 0) dX9_text_0 rfl rfl ?_
  refine r_callV (pc := 1) (fun _ => none) (As := []) (rest := []) h dX9_text_1 mw_X9_301 vw_X9_laysAside (fun _ _ hc => c_X9_laysAside hc) rfl ⟨(Nat.le_of_ble_eq_true rfl), (Nat.le_of_ble_eq_true rfl)⟩ (Nat.le_of_ble_eq_true rfl) rfl (fun _u s1 h => ?_)
  refine r_iconst (pc := 4) dX9_text_4 ?_
  refine r_istore_n (ln := [some (sj_r (some a0)), some (sj_i 0)]) (pc := 5) dX9_text_5 rfl (Nat.le_of_ble_eq_true rfl) rfl ?_
  exact sj_weak (l2 := [some (sj_r (some a0)), some (sj_i 0)]) (⟨rfl, ⟨rfl, trivial⟩⟩) (t_X9_text_6 N a0 0 s1 h)
set_option maxHeartbeats 4000000 in
theorem c_X9_text {X : sj_X} {N : Nat} {a0 : Nat} {s : sj_Mem} {q : Int × sj_Mem} (h : f_X9_text N a0 s = some q) : sj_C X m_X9_text [sj_r (some a0)] s (some (sj_i q.1), q.2) :=
  sj_C_of (by decide +kernel) (Nat.le_of_ble_eq_true rfl) (lo := [some (sj_r (some a0)), none]) rfl (sj_weak (l2 := [some (sj_r (some a0)), none]) (⟨rfl, trivial⟩) (t_X9_text_0 a0 s h))
theorem dX9_end_0 : decode cX9_end 0 = .ok (.iload_n 1, 1) := by decide +kernel
theorem dX9_end_1 : decode cX9_end 1 = .ok (.i2l, 1) := by decide +kernel
theorem dX9_end_2 : decode cX9_end 2 = .ok (.lconst 0, 1) := by decide +kernel
theorem dX9_end_3 : decode cX9_end 3 = .ok (.aload_n 0, 1) := by decide +kernel
theorem dX9_end_4 : decode cX9_end 4 = .ok (.getfield 337, 3) := by decide +kernel
theorem dX9_end_7 : decode cX9_end 7 = .ok (.i2l, 1) := by decide +kernel
theorem dX9_end_8 : decode cX9_end 8 = .ok (.invokestatic 57, 3) := by decide +kernel
theorem dX9_end_11 : decode cX9_end 11 = .ok (.ifCond .ne 5, 3) := by decide +kernel
theorem dX9_end_14 : decode cX9_end 14 = .ok (.iconst 0, 1) := by decide +kernel
theorem dX9_end_15 : decode cX9_end 15 = .ok (.ireturn, 1) := by decide +kernel
theorem dX9_end_16 : decode cX9_end 16 = .ok (.aload_n 0, 1) := by decide +kernel
theorem dX9_end_17 : decode cX9_end 17 = .ok (.iload_n 1, 1) := by decide +kernel
theorem dX9_end_18 : decode cX9_end 18 = .ok (.putfield 337, 3) := by decide +kernel
theorem dX9_end_21 : decode cX9_end 21 = .ok (.iconst 1, 1) := by decide +kernel
theorem dX9_end_22 : decode cX9_end 22 = .ok (.ireturn, 1) := by decide +kernel
set_option maxHeartbeats 4000000 in
theorem t_X9_end_0 {X : sj_X} {s0 : sj_Mem} {N : Nat} {q : Int × sj_Mem} :
    ∀ (a0 : Nat) (x1 : Int) (s : sj_Mem), f_X9_end N a0 x1 s = some q → sj_T X m_X9_end s0 (some (sj_i q.1), q.2) 0 [some (sj_r (some a0)), some (sj_i x1)] [] s := by
  intro a0 x1 s h
  unfold f_X9_end at h
  refine r_iload_n (pc := 0) dX9_end_0 rfl rfl ?_
  refine r_i2l (pc := 1) h dX9_end_1 (fun v1 h => ?_)
  refine r_lconst0 (pc := 2) dX9_end_2 ?_
  refine r_aload_n (pc := 3) dX9_end_3 rfl rfl ?_
  refine r_gI (pc := 4) h dX9_end_4 fw_X9_337 rfl (fun v2 h => ?_)
  refine r_i2l (pc := 7) h dX9_end_7 (fun v3 h => ?_)
  refine r_callS (pc := 8) (fun v => some (sj_i v)) (As := [sj_j v1, sj_j 0, sj_j v3]) (rest := []) h dX9_end_8 mw_X9_57 kw_1225 (fun _ _ hc => c_X9_isIn hc) rfl ⟨(Nat.le_of_ble_eq_true rfl), (Nat.le_of_ble_eq_true rfl)⟩ (Nat.le_of_ble_eq_true rfl) rfl (fun v5 s4 h => ?_)
  refine r_if_ne (pc := 11) (tgt := 16) h dX9_end_11 (by decide) (fun h => ?_) (fun h => ?_)
  · refine r_iconst (pc := 14) dX9_end_14 ?_
    exact r_zret (pc := 15) h rfl dX9_end_15
  · refine r_aload_n (pc := 16) dX9_end_16 rfl rfl ?_
    refine r_iload_n (pc := 17) dX9_end_17 rfl rfl ?_
    refine r_pI (pc := 18) h dX9_end_18 fw_X9_337 rfl rfl (fun _ hq => by cases hq; rfl) (fun s6 h => ?_)
    refine r_iconst (pc := 21) dX9_end_21 ?_
    exact r_zret (pc := 22) h rfl dX9_end_22
set_option maxHeartbeats 4000000 in
theorem c_X9_end {X : sj_X} {N : Nat} {a0 : Nat} {x1 : Int} {s : sj_Mem} {q : Int × sj_Mem} (h : f_X9_end N a0 x1 s = some q) : sj_C X m_X9_end [sj_r (some a0), sj_i x1] s (some (sj_i q.1), q.2) :=
  sj_C_of (by decide +kernel) (Nat.le_of_ble_eq_true rfl) (lo := [some (sj_r (some a0)), some (sj_i x1)]) rfl (sj_weak (l2 := [some (sj_r (some a0)), some (sj_i x1)]) (⟨rfl, ⟨rfl, trivial⟩⟩) (t_X9_end_0 a0 x1 s h))
theorem dX9_comesWord_0 : decode cX9_comesWord 0 = .ok (.bipush 24, 2) := by decide +kernel
theorem dX9_comesWord_2 : decode cX9_comesWord 2 = .ok (.istore_n 2, 1) := by decide +kernel
theorem dX9_comesWord_3 : decode cX9_comesWord 3 = .ok (.iload_n 2, 1) := by decide +kernel
theorem dX9_comesWord_4 : decode cX9_comesWord 4 = .ok (.ifCond .lt 32, 3) := by decide +kernel
theorem dX9_comesWord_7 : decode cX9_comesWord 7 = .ok (.aload_n 0, 1) := by decide +kernel
theorem dX9_comesWord_8 : decode cX9_comesWord 8 = .ok (.getfield 42, 3) := by decide +kernel
theorem dX9_comesWord_11 : decode cX9_comesWord 11 = .ok (.aload_n 0, 1) := by decide +kernel
theorem dX9_comesWord_12 : decode cX9_comesWord 12 = .ok (.getfield 337, 3) := by decide +kernel
theorem dX9_comesWord_15 : decode cX9_comesWord 15 = .ok (.iload_n 1, 1) := by decide +kernel
theorem dX9_comesWord_16 : decode cX9_comesWord 16 = .ok (.iload_n 2, 1) := by decide +kernel
theorem dX9_comesWord_17 : decode cX9_comesWord 17 = .ok (.iushr, 1) := by decide +kernel
theorem dX9_comesWord_18 : decode cX9_comesWord 18 = .ok (.i2b, 1) := by decide +kernel
theorem dX9_comesWord_19 : decode cX9_comesWord 19 = .ok (.bastore, 1) := by decide +kernel
theorem dX9_comesWord_20 : decode cX9_comesWord 20 = .ok (.aload_n 0, 1) := by decide +kernel
theorem dX9_comesWord_21 : decode cX9_comesWord 21 = .ok (.dup, 1) := by decide +kernel
theorem dX9_comesWord_22 : decode cX9_comesWord 22 = .ok (.getfield 337, 3) := by decide +kernel
theorem dX9_comesWord_25 : decode cX9_comesWord 25 = .ok (.iconst 1, 1) := by decide +kernel
theorem dX9_comesWord_26 : decode cX9_comesWord 26 = .ok (.iadd, 1) := by decide +kernel
theorem dX9_comesWord_27 : decode cX9_comesWord 27 = .ok (.putfield 337, 3) := by decide +kernel
theorem dX9_comesWord_30 : decode cX9_comesWord 30 = .ok (.iinc 2 (-8), 3) := by decide +kernel
theorem dX9_comesWord_33 : decode cX9_comesWord 33 = .ok (.goto (-30), 3) := by decide +kernel
theorem dX9_comesWord_36 : decode cX9_comesWord 36 = .ok (.return_, 1) := by decide +kernel
set_option maxHeartbeats 4000000 in
theorem t_X9_comesWord_3_b {X : sj_X} {s0 : sj_Mem} {N : Nat} {q : Unit × sj_Mem} {k3 : Nat → Int → Int → sj_Mem → Option (Unit × sj_Mem)} (hk3 : ∀ (a0 : Nat) (x1 : Int) (x2 : Int) (s : sj_Mem), k3 a0 x1 x2 s = some q → sj_T X m_X9_comesWord s0 (none, q.2) 3 [some (sj_r (some a0)), some (sj_i x1), some (sj_i x2)] [] s) :
    ∀ (a0 : Nat) (x1 : Int) (x2 : Int) (s : sj_Mem), f_X9_comesWord_3_b N k3 a0 x1 x2 s = some q → sj_T X m_X9_comesWord s0 (none, q.2) 3 [some (sj_r (some a0)), some (sj_i x1), some (sj_i x2)] [] s := by
  intro a0 x1 x2 s h
  unfold f_X9_comesWord_3_b at h
  refine r_iload_n (pc := 3) dX9_comesWord_3 rfl rfl ?_
  refine r_if_lt (pc := 4) (tgt := 36) h dX9_comesWord_4 (by decide) (fun h => ?_) (fun h => ?_)
  · exact r_vret (pc := 36) h rfl dX9_comesWord_36
  · refine r_aload_n (pc := 7) dX9_comesWord_7 rfl rfl ?_
    refine r_gR (pc := 8) h dX9_comesWord_8 fw_X9_42 rfl (fun r1 h => ?_)
    refine r_aload_n (pc := 11) dX9_comesWord_11 rfl rfl ?_
    refine r_gI (pc := 12) h dX9_comesWord_12 fw_X9_337 rfl (fun v2 h => ?_)
    refine r_iload_n (pc := 15) dX9_comesWord_15 rfl rfl ?_
    refine r_iload_n (pc := 16) dX9_comesWord_16 rfl rfl ?_
    refine r_iushr (pc := 17) h dX9_comesWord_17 (fun v3 h => ?_)
    refine r_i2b (pc := 18) dX9_comesWord_18 ?_
    obtain ⟨a4, ea4, g⟩ := e_nn_some h
    clear h
    subst ea4
    have h := g
    clear g
    refine r_bastore (pc := 19) h dX9_comesWord_19 (fun s5 h => ?_)
    refine r_aload_n (pc := 20) dX9_comesWord_20 rfl rfl ?_
    refine r_dup (pc := 21) dX9_comesWord_21 rfl ?_
    refine r_gI (pc := 22) h dX9_comesWord_22 fw_X9_337 rfl (fun v6 h => ?_)
    refine r_iconst (pc := 25) dX9_comesWord_25 ?_
    refine r_iadd (pc := 26) dX9_comesWord_26 ?_
    refine r_pI (pc := 27) h dX9_comesWord_27 fw_X9_337 rfl rfl (fun _ hq => by cases hq; rfl) (fun s7 h => ?_)
    refine r_iinc (ln := fun w => [some (sj_r (some a0)), some (sj_i x1), some (sj_i w)]) (pc := 30) h dX9_comesWord_30 rfl (Nat.le_of_ble_eq_true rfl) (fun _ => rfl) (fun v8 h => ?_)
    refine r_goto (pc := 33) (tgt := 3) dX9_comesWord_33 (by decide) ?_
    exact sj_weak (l2 := [some (sj_r (some a0)), some (sj_i x1), some (sj_i v8)]) (⟨rfl, ⟨rfl, ⟨rfl, trivial⟩⟩⟩) (hk3 a0 x1 v8 s7 h)
set_option maxHeartbeats 4000000 in
theorem t_X9_comesWord_3 {X : sj_X} {s0 : sj_Mem} {N : Nat} {q : Unit × sj_Mem} :
    ∀ (n : Nat) (a0 : Nat) (x1 : Int) (x2 : Int) (s : sj_Mem), f_X9_comesWord_3 N n a0 x1 x2 s = some q → sj_T X m_X9_comesWord s0 (none, q.2) 3 [some (sj_r (some a0)), some (sj_i x1), some (sj_i x2)] [] s := by
  intro n
  induction n with
  | zero => intro a0 x1 x2 s h; exact nomatch h
  | succ n ih => intro a0 x1 x2 s h; exact t_X9_comesWord_3_b (N := N) ih a0 x1 x2 s h
set_option maxHeartbeats 4000000 in
theorem t_X9_comesWord_0 {X : sj_X} {s0 : sj_Mem} {N : Nat} {q : Unit × sj_Mem} :
    ∀ (a0 : Nat) (x1 : Int) (s : sj_Mem), f_X9_comesWord N a0 x1 s = some q → sj_T X m_X9_comesWord s0 (none, q.2) 0 [some (sj_r (some a0)), some (sj_i x1), none] [] s := by
  intro a0 x1 s h
  unfold f_X9_comesWord at h
  refine r_bipush (pc := 0) dX9_comesWord_0 ⟨by decide, by decide⟩ ?_
  refine r_istore_n (ln := [some (sj_r (some a0)), some (sj_i x1), some (sj_i 24)]) (pc := 2) dX9_comesWord_2 rfl (Nat.le_of_ble_eq_true rfl) rfl ?_
  exact sj_weak (l2 := [some (sj_r (some a0)), some (sj_i x1), some (sj_i 24)]) (⟨rfl, ⟨rfl, ⟨rfl, trivial⟩⟩⟩) (t_X9_comesWord_3 N a0 x1 24 s h)
set_option maxHeartbeats 4000000 in
theorem c_X9_comesWord {X : sj_X} {N : Nat} {a0 : Nat} {x1 : Int} {s : sj_Mem} {q : Unit × sj_Mem} (h : f_X9_comesWord N a0 x1 s = some q) : sj_C X m_X9_comesWord [sj_r (some a0), sj_i x1] s (none, q.2) :=
  sj_C_of (by decide +kernel) (Nat.le_of_ble_eq_true rfl) (lo := [some (sj_r (some a0)), some (sj_i x1), none]) rfl (sj_weak (l2 := [some (sj_r (some a0)), some (sj_i x1), none]) (⟨rfl, ⟨rfl, trivial⟩⟩) (t_X9_comesWord_0 a0 x1 s h))
theorem dX9_feed_0 : decode cX9_feed 0 = .ok (.aload_n 0, 1) := by decide +kernel
theorem dX9_feed_1 : decode cX9_feed 1 = .ok (.getfield 337, 3) := by decide +kernel
theorem dX9_feed_4 : decode cX9_feed 4 = .ok (.bipush 20, 2) := by decide +kernel
theorem dX9_feed_6 : decode cX9_feed 6 = .ok (.iadd, 1) := by decide +kernel
theorem dX9_feed_7 : decode cX9_feed 7 = .ok (.sipush 600, 3) := by decide +kernel
theorem dX9_feed_10 : decode cX9_feed 10 = .ok (.if_icmp .le 5, 3) := by decide +kernel
theorem dX9_feed_13 : decode cX9_feed 13 = .ok (.iconst (-1), 1) := by decide +kernel
theorem dX9_feed_14 : decode cX9_feed 14 = .ok (.ireturn, 1) := by decide +kernel
theorem dX9_feed_15 : decode cX9_feed 15 = .ok (.aload_n 0, 1) := by decide +kernel
theorem dX9_feed_16 : decode cX9_feed 16 = .ok (.iload_n 1, 1) := by decide +kernel
theorem dX9_feed_17 : decode cX9_feed 17 = .ok (.invokevirtual 340, 3) := by decide +kernel
theorem dX9_feed_20 : decode cX9_feed 20 = .ok (.aload_n 0, 1) := by decide +kernel
theorem dX9_feed_21 : decode cX9_feed 21 = .ok (.iload_n 2, 1) := by decide +kernel
theorem dX9_feed_22 : decode cX9_feed 22 = .ok (.invokevirtual 340, 3) := by decide +kernel
theorem dX9_feed_25 : decode cX9_feed 25 = .ok (.aload_n 0, 1) := by decide +kernel
theorem dX9_feed_26 : decode cX9_feed 26 = .ok (.iload_n 3, 1) := by decide +kernel
theorem dX9_feed_27 : decode cX9_feed 27 = .ok (.invokevirtual 340, 3) := by decide +kernel
theorem dX9_feed_30 : decode cX9_feed 30 = .ok (.aload_n 0, 1) := by decide +kernel
theorem dX9_feed_31 : decode cX9_feed 31 = .ok (.iload 4, 2) := by decide +kernel
theorem dX9_feed_33 : decode cX9_feed 33 = .ok (.invokevirtual 340, 3) := by decide +kernel
theorem dX9_feed_36 : decode cX9_feed 36 = .ok (.aload_n 0, 1) := by decide +kernel
theorem dX9_feed_37 : decode cX9_feed 37 = .ok (.iload 5, 2) := by decide +kernel
theorem dX9_feed_39 : decode cX9_feed 39 = .ok (.invokevirtual 340, 3) := by decide +kernel
theorem dX9_feed_42 : decode cX9_feed 42 = .ok (.aload_n 0, 1) := by decide +kernel
theorem dX9_feed_43 : decode cX9_feed 43 = .ok (.getfield 337, 3) := by decide +kernel
theorem dX9_feed_46 : decode cX9_feed 46 = .ok (.ireturn, 1) := by decide +kernel
set_option maxHeartbeats 4000000 in
theorem t_X9_feed_0 {X : sj_X} {s0 : sj_Mem} {N : Nat} {q : Int × sj_Mem} :
    ∀ (a0 : Nat) (x1 : Int) (x2 : Int) (x3 : Int) (x4 : Int) (x5 : Int) (s : sj_Mem), f_X9_feed N a0 x1 x2 x3 x4 x5 s = some q → sj_T X m_X9_feed s0 (some (sj_i q.1), q.2) 0 [some (sj_r (some a0)), some (sj_i x1), some (sj_i x2), some (sj_i x3), some (sj_i x4), some (sj_i x5)] [] s := by
  intro a0 x1 x2 x3 x4 x5 s h
  unfold f_X9_feed at h
  refine r_aload_n (pc := 0) dX9_feed_0 rfl rfl ?_
  refine r_gI (pc := 1) h dX9_feed_1 fw_X9_337 rfl (fun v1 h => ?_)
  refine r_bipush (pc := 4) dX9_feed_4 ⟨by decide, by decide⟩ ?_
  refine r_iadd (pc := 6) dX9_feed_6 ?_
  refine r_sipush (pc := 7) dX9_feed_7 ⟨by decide, by decide⟩ ?_
  refine r_icmp_le (pc := 10) (tgt := 15) h dX9_feed_10 (by decide) (fun h => ?_) (fun h => ?_)
  · refine r_aload_n (pc := 15) dX9_feed_15 rfl rfl ?_
    refine r_iload_n (pc := 16) dX9_feed_16 rfl rfl ?_
    refine r_callV (pc := 17) (fun _ => none) (As := [sj_i x1]) (rest := []) h dX9_feed_17 mw_X9_340 vw_X9_comesWord (fun _ _ hc => c_X9_comesWord hc) rfl ⟨(Nat.le_of_ble_eq_true rfl), (Nat.le_of_ble_eq_true rfl)⟩ (Nat.le_of_ble_eq_true rfl) rfl (fun _u s2 h => ?_)
    refine r_aload_n (pc := 20) dX9_feed_20 rfl rfl ?_
    refine r_iload_n (pc := 21) dX9_feed_21 rfl rfl ?_
    refine r_callV (pc := 22) (fun _ => none) (As := [sj_i x2]) (rest := []) h dX9_feed_22 mw_X9_340 vw_X9_comesWord (fun _ _ hc => c_X9_comesWord hc) rfl ⟨(Nat.le_of_ble_eq_true rfl), (Nat.le_of_ble_eq_true rfl)⟩ (Nat.le_of_ble_eq_true rfl) rfl (fun _u s3 h => ?_)
    refine r_aload_n (pc := 25) dX9_feed_25 rfl rfl ?_
    refine r_iload_n (pc := 26) dX9_feed_26 rfl rfl ?_
    refine r_callV (pc := 27) (fun _ => none) (As := [sj_i x3]) (rest := []) h dX9_feed_27 mw_X9_340 vw_X9_comesWord (fun _ _ hc => c_X9_comesWord hc) rfl ⟨(Nat.le_of_ble_eq_true rfl), (Nat.le_of_ble_eq_true rfl)⟩ (Nat.le_of_ble_eq_true rfl) rfl (fun _u s4 h => ?_)
    refine r_aload_n (pc := 30) dX9_feed_30 rfl rfl ?_
    refine r_iload (pc := 31) dX9_feed_31 rfl ?_
    refine r_callV (pc := 33) (fun _ => none) (As := [sj_i x4]) (rest := []) h dX9_feed_33 mw_X9_340 vw_X9_comesWord (fun _ _ hc => c_X9_comesWord hc) rfl ⟨(Nat.le_of_ble_eq_true rfl), (Nat.le_of_ble_eq_true rfl)⟩ (Nat.le_of_ble_eq_true rfl) rfl (fun _u s5 h => ?_)
    refine r_aload_n (pc := 36) dX9_feed_36 rfl rfl ?_
    refine r_iload (pc := 37) dX9_feed_37 rfl ?_
    refine r_callV (pc := 39) (fun _ => none) (As := [sj_i x5]) (rest := []) h dX9_feed_39 mw_X9_340 vw_X9_comesWord (fun _ _ hc => c_X9_comesWord hc) rfl ⟨(Nat.le_of_ble_eq_true rfl), (Nat.le_of_ble_eq_true rfl)⟩ (Nat.le_of_ble_eq_true rfl) rfl (fun _u s6 h => ?_)
    refine r_aload_n (pc := 42) dX9_feed_42 rfl rfl ?_
    refine r_gI (pc := 43) h dX9_feed_43 fw_X9_337 rfl (fun v7 h => ?_)
    exact r_iret (pc := 46) h rfl dX9_feed_46
  · refine r_iconst (pc := 13) dX9_feed_13 ?_
    exact r_iret (pc := 14) h rfl dX9_feed_14
set_option maxHeartbeats 4000000 in
theorem c_X9_feed {X : sj_X} {N : Nat} {a0 : Nat} {x1 : Int} {x2 : Int} {x3 : Int} {x4 : Int} {x5 : Int} {s : sj_Mem} {q : Int × sj_Mem} (h : f_X9_feed N a0 x1 x2 x3 x4 x5 s = some q) : sj_C X m_X9_feed [sj_r (some a0), sj_i x1, sj_i x2, sj_i x3, sj_i x4, sj_i x5] s (some (sj_i q.1), q.2) :=
  sj_C_of (by decide +kernel) (Nat.le_of_ble_eq_true rfl) (lo := [some (sj_r (some a0)), some (sj_i x1), some (sj_i x2), some (sj_i x3), some (sj_i x4), some (sj_i x5)]) rfl (sj_weak (l2 := [some (sj_r (some a0)), some (sj_i x1), some (sj_i x2), some (sj_i x3), some (sj_i x4), some (sj_i x5)]) (⟨rfl, ⟨rfl, ⟨rfl, ⟨rfl, ⟨rfl, ⟨rfl, trivial⟩⟩⟩⟩⟩⟩) (t_X9_feed_0 a0 x1 x2 x3 x4 x5 s h))
theorem dX9_anchor_0 : decode cX9_anchor 0 = .ok (.iload_n 1, 1) := by decide +kernel
theorem dX9_anchor_1 : decode cX9_anchor 1 = .ok (.i2l, 1) := by decide +kernel
theorem dX9_anchor_2 : decode cX9_anchor 2 = .ok (.lconst 0, 1) := by decide +kernel
theorem dX9_anchor_3 : decode cX9_anchor 3 = .ok (.ldc2_w 78, 3) := by decide +kernel
theorem dX9_anchor_6 : decode cX9_anchor 6 = .ok (.invokestatic 57, 3) := by decide +kernel
theorem dX9_anchor_9 : decode cX9_anchor 9 = .ok (.ifCond .eq 36, 3) := by decide +kernel
theorem dX9_anchor_12 : decode cX9_anchor 12 = .ok (.aload_n 0, 1) := by decide +kernel
theorem dX9_anchor_13 : decode cX9_anchor 13 = .ok (.iload_n 2, 1) := by decide +kernel
theorem dX9_anchor_14 : decode cX9_anchor 14 = .ok (.invokevirtual 74, 3) := by decide +kernel
theorem dX9_anchor_17 : decode cX9_anchor 17 = .ok (.ifCond .eq 28, 3) := by decide +kernel
theorem dX9_anchor_20 : decode cX9_anchor 20 = .ok (.iload_n 3, 1) := by decide +kernel
theorem dX9_anchor_21 : decode cX9_anchor 21 = .ok (.i2l, 1) := by decide +kernel
theorem dX9_anchor_22 : decode cX9_anchor 22 = .ok (.lconst 0, 1) := by decide +kernel
theorem dX9_anchor_23 : decode cX9_anchor 23 = .ok (.ldc2_w 82, 3) := by decide +kernel
theorem dX9_anchor_26 : decode cX9_anchor 26 = .ok (.invokestatic 57, 3) := by decide +kernel
theorem dX9_anchor_29 : decode cX9_anchor 29 = .ok (.ifCond .eq 16, 3) := by decide +kernel
theorem dX9_anchor_32 : decode cX9_anchor 32 = .ok (.iload 4, 2) := by decide +kernel
theorem dX9_anchor_34 : decode cX9_anchor 34 = .ok (.i2l, 1) := by decide +kernel
theorem dX9_anchor_35 : decode cX9_anchor 35 = .ok (.lconst 0, 1) := by decide +kernel
theorem dX9_anchor_36 : decode cX9_anchor 36 = .ok (.ldc2_w 80, 3) := by decide +kernel
theorem dX9_anchor_39 : decode cX9_anchor 39 = .ok (.invokestatic 57, 3) := by decide +kernel
theorem dX9_anchor_42 : decode cX9_anchor 42 = .ok (.ifCond .ne 5, 3) := by decide +kernel
theorem dX9_anchor_45 : decode cX9_anchor 45 = .ok (.iconst 0, 1) := by decide +kernel
theorem dX9_anchor_46 : decode cX9_anchor 46 = .ok (.ireturn, 1) := by decide +kernel
theorem dX9_anchor_47 : decode cX9_anchor 47 = .ok (.aload_n 0, 1) := by decide +kernel
theorem dX9_anchor_48 : decode cX9_anchor 48 = .ok (.getfield 9, 3) := by decide +kernel
theorem dX9_anchor_51 : decode cX9_anchor 51 = .ok (.sipush 302, 3) := by decide +kernel
theorem dX9_anchor_54 : decode cX9_anchor 54 = .ok (.iconst 3, 1) := by decide +kernel
theorem dX9_anchor_55 : decode cX9_anchor 55 = .ok (.iload_n 1, 1) := by decide +kernel
theorem dX9_anchor_56 : decode cX9_anchor 56 = .ok (.imul, 1) := by decide +kernel
theorem dX9_anchor_57 : decode cX9_anchor 57 = .ok (.iadd, 1) := by decide +kernel
theorem dX9_anchor_58 : decode cX9_anchor 58 = .ok (.iload_n 2, 1) := by decide +kernel
theorem dX9_anchor_59 : decode cX9_anchor 59 = .ok (.iastore, 1) := by decide +kernel
theorem dX9_anchor_60 : decode cX9_anchor 60 = .ok (.aload_n 0, 1) := by decide +kernel
theorem dX9_anchor_61 : decode cX9_anchor 61 = .ok (.getfield 9, 3) := by decide +kernel
theorem dX9_anchor_64 : decode cX9_anchor 64 = .ok (.sipush 302, 3) := by decide +kernel
theorem dX9_anchor_67 : decode cX9_anchor 67 = .ok (.iconst 3, 1) := by decide +kernel
theorem dX9_anchor_68 : decode cX9_anchor 68 = .ok (.iload_n 1, 1) := by decide +kernel
theorem dX9_anchor_69 : decode cX9_anchor 69 = .ok (.imul, 1) := by decide +kernel
theorem dX9_anchor_70 : decode cX9_anchor 70 = .ok (.iadd, 1) := by decide +kernel
theorem dX9_anchor_71 : decode cX9_anchor 71 = .ok (.iconst 1, 1) := by decide +kernel
theorem dX9_anchor_72 : decode cX9_anchor 72 = .ok (.iadd, 1) := by decide +kernel
theorem dX9_anchor_73 : decode cX9_anchor 73 = .ok (.iload_n 3, 1) := by decide +kernel
theorem dX9_anchor_74 : decode cX9_anchor 74 = .ok (.iastore, 1) := by decide +kernel
theorem dX9_anchor_75 : decode cX9_anchor 75 = .ok (.aload_n 0, 1) := by decide +kernel
theorem dX9_anchor_76 : decode cX9_anchor 76 = .ok (.getfield 9, 3) := by decide +kernel
theorem dX9_anchor_79 : decode cX9_anchor 79 = .ok (.sipush 302, 3) := by decide +kernel
theorem dX9_anchor_82 : decode cX9_anchor 82 = .ok (.iconst 3, 1) := by decide +kernel
theorem dX9_anchor_83 : decode cX9_anchor 83 = .ok (.iload_n 1, 1) := by decide +kernel
theorem dX9_anchor_84 : decode cX9_anchor 84 = .ok (.imul, 1) := by decide +kernel
theorem dX9_anchor_85 : decode cX9_anchor 85 = .ok (.iadd, 1) := by decide +kernel
theorem dX9_anchor_86 : decode cX9_anchor 86 = .ok (.iconst 2, 1) := by decide +kernel
theorem dX9_anchor_87 : decode cX9_anchor 87 = .ok (.iadd, 1) := by decide +kernel
theorem dX9_anchor_88 : decode cX9_anchor 88 = .ok (.iload 4, 2) := by decide +kernel
theorem dX9_anchor_90 : decode cX9_anchor 90 = .ok (.iastore, 1) := by decide +kernel
theorem dX9_anchor_91 : decode cX9_anchor 91 = .ok (.iconst 1, 1) := by decide +kernel
theorem dX9_anchor_92 : decode cX9_anchor 92 = .ok (.ireturn, 1) := by decide +kernel
set_option maxHeartbeats 4000000 in
theorem t_X9_anchor_0 {X : sj_X} {s0 : sj_Mem} {N : Nat} {q : Int × sj_Mem} :
    ∀ (a0 : Nat) (x1 : Int) (x2 : Int) (x3 : Int) (x4 : Int) (s : sj_Mem), f_X9_anchor N a0 x1 x2 x3 x4 s = some q → sj_T X m_X9_anchor s0 (some (sj_i q.1), q.2) 0 [some (sj_r (some a0)), some (sj_i x1), some (sj_i x2), some (sj_i x3), some (sj_i x4)] [] s := by
  intro a0 x1 x2 x3 x4 s h
  unfold f_X9_anchor at h
  refine r_iload_n (pc := 0) dX9_anchor_0 rfl rfl ?_
  refine r_i2l (pc := 1) h dX9_anchor_1 (fun v1 h => ?_)
  refine r_lconst0 (pc := 2) dX9_anchor_2 ?_
  refine r_ldc2 (n := 5) (pc := 3) dX9_anchor_3 kc_X9_78 ?_
  refine r_callS (pc := 6) (fun v => some (sj_i v)) (As := [sj_j v1, sj_j 0, sj_j 5]) (rest := []) h dX9_anchor_6 mw_X9_57 kw_1225 (fun _ _ hc => c_X9_isIn hc) rfl ⟨(Nat.le_of_ble_eq_true rfl), (Nat.le_of_ble_eq_true rfl)⟩ (Nat.le_of_ble_eq_true rfl) rfl (fun v3 s2 h => ?_)
  refine r_if_eq (pc := 9) (tgt := 45) h dX9_anchor_9 (by decide) (fun h => ?_) (fun h => ?_)
  · refine r_iconst (pc := 45) dX9_anchor_45 ?_
    exact r_zret (pc := 46) h rfl dX9_anchor_46
  · refine r_aload_n (pc := 12) dX9_anchor_12 rfl rfl ?_
    refine r_iload_n (pc := 13) dX9_anchor_13 rfl rfl ?_
    refine r_callV (pc := 14) (fun v => some (sj_i v)) (As := [sj_i x2]) (rest := []) h dX9_anchor_14 mw_X9_74 vw_X9_isColumn (fun _ _ hc => c_X9_isColumn hc) rfl ⟨(Nat.le_of_ble_eq_true rfl), (Nat.le_of_ble_eq_true rfl)⟩ (Nat.le_of_ble_eq_true rfl) rfl (fun v5 s4 h => ?_)
    refine r_if_eq (pc := 17) (tgt := 45) h dX9_anchor_17 (by decide) (fun h => ?_) (fun h => ?_)
    · refine r_iconst (pc := 45) dX9_anchor_45 ?_
      exact r_zret (pc := 46) h rfl dX9_anchor_46
    · refine r_iload_n (pc := 20) dX9_anchor_20 rfl rfl ?_
      refine r_i2l (pc := 21) h dX9_anchor_21 (fun v6 h => ?_)
      refine r_lconst0 (pc := 22) dX9_anchor_22 ?_
      refine r_ldc2 (n := 100) (pc := 23) dX9_anchor_23 kc_X9_82 ?_
      refine r_callS (pc := 26) (fun v => some (sj_i v)) (As := [sj_j v6, sj_j 0, sj_j 100]) (rest := []) h dX9_anchor_26 mw_X9_57 kw_1225 (fun _ _ hc => c_X9_isIn hc) rfl ⟨(Nat.le_of_ble_eq_true rfl), (Nat.le_of_ble_eq_true rfl)⟩ (Nat.le_of_ble_eq_true rfl) rfl (fun v8 s7 h => ?_)
      refine r_if_eq (pc := 29) (tgt := 45) h dX9_anchor_29 (by decide) (fun h => ?_) (fun h => ?_)
      · refine r_iconst (pc := 45) dX9_anchor_45 ?_
        exact r_zret (pc := 46) h rfl dX9_anchor_46
      · refine r_iload (pc := 32) dX9_anchor_32 rfl ?_
        refine r_i2l (pc := 34) h dX9_anchor_34 (fun v9 h => ?_)
        refine r_lconst0 (pc := 35) dX9_anchor_35 ?_
        refine r_ldc2 (n := 500) (pc := 36) dX9_anchor_36 kc_X9_80 ?_
        refine r_callS (pc := 39) (fun v => some (sj_i v)) (As := [sj_j v9, sj_j 0, sj_j 500]) (rest := []) h dX9_anchor_39 mw_X9_57 kw_1225 (fun _ _ hc => c_X9_isIn hc) rfl ⟨(Nat.le_of_ble_eq_true rfl), (Nat.le_of_ble_eq_true rfl)⟩ (Nat.le_of_ble_eq_true rfl) rfl (fun v11 s10 h => ?_)
        refine r_if_ne (pc := 42) (tgt := 47) h dX9_anchor_42 (by decide) (fun h => ?_) (fun h => ?_)
        · refine r_iconst (pc := 45) dX9_anchor_45 ?_
          exact r_zret (pc := 46) h rfl dX9_anchor_46
        · refine r_aload_n (pc := 47) dX9_anchor_47 rfl rfl ?_
          refine r_gR (pc := 48) h dX9_anchor_48 fw_X9_9 rfl (fun r12 h => ?_)
          refine r_sipush (pc := 51) dX9_anchor_51 ⟨by decide, by decide⟩ ?_
          refine r_iconst (pc := 54) dX9_anchor_54 ?_
          refine r_iload_n (pc := 55) dX9_anchor_55 rfl rfl ?_
          refine r_imul (pc := 56) dX9_anchor_56 ?_
          refine r_iadd (pc := 57) dX9_anchor_57 ?_
          refine r_iload_n (pc := 58) dX9_anchor_58 rfl rfl ?_
          obtain ⟨a13, ea13, g⟩ := e_nn_some h
          clear h
          subst ea13
          have h := g
          clear g
          refine r_iastore (pc := 59) h dX9_anchor_59 (fun s14 h => ?_)
          refine r_aload_n (pc := 60) dX9_anchor_60 rfl rfl ?_
          refine r_gR (pc := 61) h dX9_anchor_61 fw_X9_9 rfl (fun r15 h => ?_)
          refine r_sipush (pc := 64) dX9_anchor_64 ⟨by decide, by decide⟩ ?_
          refine r_iconst (pc := 67) dX9_anchor_67 ?_
          refine r_iload_n (pc := 68) dX9_anchor_68 rfl rfl ?_
          refine r_imul (pc := 69) dX9_anchor_69 ?_
          refine r_iadd (pc := 70) dX9_anchor_70 ?_
          refine r_iconst (pc := 71) dX9_anchor_71 ?_
          refine r_iadd (pc := 72) dX9_anchor_72 ?_
          refine r_iload_n (pc := 73) dX9_anchor_73 rfl rfl ?_
          obtain ⟨a16, ea16, g⟩ := e_nn_some h
          clear h
          subst ea16
          have h := g
          clear g
          refine r_iastore (pc := 74) h dX9_anchor_74 (fun s17 h => ?_)
          refine r_aload_n (pc := 75) dX9_anchor_75 rfl rfl ?_
          refine r_gR (pc := 76) h dX9_anchor_76 fw_X9_9 rfl (fun r18 h => ?_)
          refine r_sipush (pc := 79) dX9_anchor_79 ⟨by decide, by decide⟩ ?_
          refine r_iconst (pc := 82) dX9_anchor_82 ?_
          refine r_iload_n (pc := 83) dX9_anchor_83 rfl rfl ?_
          refine r_imul (pc := 84) dX9_anchor_84 ?_
          refine r_iadd (pc := 85) dX9_anchor_85 ?_
          refine r_iconst (pc := 86) dX9_anchor_86 ?_
          refine r_iadd (pc := 87) dX9_anchor_87 ?_
          refine r_iload (pc := 88) dX9_anchor_88 rfl ?_
          obtain ⟨a19, ea19, g⟩ := e_nn_some h
          clear h
          subst ea19
          have h := g
          clear g
          refine r_iastore (pc := 90) h dX9_anchor_90 (fun s20 h => ?_)
          refine r_iconst (pc := 91) dX9_anchor_91 ?_
          exact r_zret (pc := 92) h rfl dX9_anchor_92
set_option maxHeartbeats 4000000 in
theorem c_X9_anchor {X : sj_X} {N : Nat} {a0 : Nat} {x1 : Int} {x2 : Int} {x3 : Int} {x4 : Int} {s : sj_Mem} {q : Int × sj_Mem} (h : f_X9_anchor N a0 x1 x2 x3 x4 s = some q) : sj_C X m_X9_anchor [sj_r (some a0), sj_i x1, sj_i x2, sj_i x3, sj_i x4] s (some (sj_i q.1), q.2) :=
  sj_C_of (by decide +kernel) (Nat.le_of_ble_eq_true rfl) (lo := [some (sj_r (some a0)), some (sj_i x1), some (sj_i x2), some (sj_i x3), some (sj_i x4)]) rfl (sj_weak (l2 := [some (sj_r (some a0)), some (sj_i x1), some (sj_i x2), some (sj_i x3), some (sj_i x4)]) (⟨rfl, ⟨rfl, ⟨rfl, ⟨rfl, ⟨rfl, trivial⟩⟩⟩⟩⟩) (t_X9_anchor_0 a0 x1 x2 x3 x4 s h))
theorem dX9_quake_0 : decode cX9_quake 0 = .ok (.iload_n 1, 1) := by decide +kernel
theorem dX9_quake_1 : decode cX9_quake 1 = .ok (.i2l, 1) := by decide +kernel
theorem dX9_quake_2 : decode cX9_quake 2 = .ok (.lconst 0, 1) := by decide +kernel
theorem dX9_quake_3 : decode cX9_quake 3 = .ok (.ldc2_w 80, 3) := by decide +kernel
theorem dX9_quake_6 : decode cX9_quake 6 = .ok (.invokestatic 57, 3) := by decide +kernel
theorem dX9_quake_9 : decode cX9_quake 9 = .ok (.ifCond .ne 5, 3) := by decide +kernel
theorem dX9_quake_12 : decode cX9_quake 12 = .ok (.iconst 0, 1) := by decide +kernel
theorem dX9_quake_13 : decode cX9_quake 13 = .ok (.ireturn, 1) := by decide +kernel
theorem dX9_quake_14 : decode cX9_quake 14 = .ok (.aload_n 0, 1) := by decide +kernel
theorem dX9_quake_15 : decode cX9_quake 15 = .ok (.getfield 9, 3) := by decide +kernel
theorem dX9_quake_18 : decode cX9_quake 18 = .ok (.iconst 2, 1) := by decide +kernel
theorem dX9_quake_19 : decode cX9_quake 19 = .ok (.iload_n 1, 1) := by decide +kernel
theorem dX9_quake_20 : decode cX9_quake 20 = .ok (.iastore, 1) := by decide +kernel
theorem dX9_quake_21 : decode cX9_quake 21 = .ok (.iconst 1, 1) := by decide +kernel
theorem dX9_quake_22 : decode cX9_quake 22 = .ok (.ireturn, 1) := by decide +kernel
set_option maxHeartbeats 4000000 in
theorem t_X9_quake_0 {X : sj_X} {s0 : sj_Mem} {N : Nat} {q : Int × sj_Mem} :
    ∀ (a0 : Nat) (x1 : Int) (s : sj_Mem), f_X9_quake N a0 x1 s = some q → sj_T X m_X9_quake s0 (some (sj_i q.1), q.2) 0 [some (sj_r (some a0)), some (sj_i x1)] [] s := by
  intro a0 x1 s h
  unfold f_X9_quake at h
  refine r_iload_n (pc := 0) dX9_quake_0 rfl rfl ?_
  refine r_i2l (pc := 1) h dX9_quake_1 (fun v1 h => ?_)
  refine r_lconst0 (pc := 2) dX9_quake_2 ?_
  refine r_ldc2 (n := 500) (pc := 3) dX9_quake_3 kc_X9_80 ?_
  refine r_callS (pc := 6) (fun v => some (sj_i v)) (As := [sj_j v1, sj_j 0, sj_j 500]) (rest := []) h dX9_quake_6 mw_X9_57 kw_1225 (fun _ _ hc => c_X9_isIn hc) rfl ⟨(Nat.le_of_ble_eq_true rfl), (Nat.le_of_ble_eq_true rfl)⟩ (Nat.le_of_ble_eq_true rfl) rfl (fun v3 s2 h => ?_)
  refine r_if_ne (pc := 9) (tgt := 14) h dX9_quake_9 (by decide) (fun h => ?_) (fun h => ?_)
  · refine r_iconst (pc := 12) dX9_quake_12 ?_
    exact r_zret (pc := 13) h rfl dX9_quake_13
  · refine r_aload_n (pc := 14) dX9_quake_14 rfl rfl ?_
    refine r_gR (pc := 15) h dX9_quake_15 fw_X9_9 rfl (fun r4 h => ?_)
    refine r_iconst (pc := 18) dX9_quake_18 ?_
    refine r_iload_n (pc := 19) dX9_quake_19 rfl rfl ?_
    obtain ⟨a5, ea5, g⟩ := e_nn_some h
    clear h
    subst ea5
    have h := g
    clear g
    refine r_iastore (pc := 20) h dX9_quake_20 (fun s6 h => ?_)
    refine r_iconst (pc := 21) dX9_quake_21 ?_
    exact r_zret (pc := 22) h rfl dX9_quake_22
set_option maxHeartbeats 4000000 in
theorem c_X9_quake {X : sj_X} {N : Nat} {a0 : Nat} {x1 : Int} {s : sj_Mem} {q : Int × sj_Mem} (h : f_X9_quake N a0 x1 s = some q) : sj_C X m_X9_quake [sj_r (some a0), sj_i x1] s (some (sj_i q.1), q.2) :=
  sj_C_of (by decide +kernel) (Nat.le_of_ble_eq_true rfl) (lo := [some (sj_r (some a0)), some (sj_i x1)]) rfl (sj_weak (l2 := [some (sj_r (some a0)), some (sj_i x1)]) (⟨rfl, ⟨rfl, trivial⟩⟩) (t_X9_quake_0 a0 x1 s h))
theorem dX9_soil_0 : decode cX9_soil 0 = .ok (.iload_n 1, 1) := by decide +kernel
theorem dX9_soil_1 : decode cX9_soil 1 = .ok (.i2l, 1) := by decide +kernel
theorem dX9_soil_2 : decode cX9_soil 2 = .ok (.lconst 0, 1) := by decide +kernel
theorem dX9_soil_3 : decode cX9_soil 3 = .ok (.ldc2_w 96, 3) := by decide +kernel
theorem dX9_soil_6 : decode cX9_soil 6 = .ok (.invokestatic 57, 3) := by decide +kernel
theorem dX9_soil_9 : decode cX9_soil 9 = .ok (.ifCond .eq 40, 3) := by decide +kernel
theorem dX9_soil_12 : decode cX9_soil 12 = .ok (.iload_n 2, 1) := by decide +kernel
theorem dX9_soil_13 : decode cX9_soil 13 = .ok (.i2l, 1) := by decide +kernel
theorem dX9_soil_14 : decode cX9_soil 14 = .ok (.lconst 1, 1) := by decide +kernel
theorem dX9_soil_15 : decode cX9_soil 15 = .ok (.ldc2_w 98, 3) := by decide +kernel
theorem dX9_soil_18 : decode cX9_soil 18 = .ok (.invokestatic 57, 3) := by decide +kernel
theorem dX9_soil_21 : decode cX9_soil 21 = .ok (.ifCond .eq 28, 3) := by decide +kernel
theorem dX9_soil_24 : decode cX9_soil 24 = .ok (.iload_n 3, 1) := by decide +kernel
theorem dX9_soil_25 : decode cX9_soil 25 = .ok (.i2l, 1) := by decide +kernel
theorem dX9_soil_26 : decode cX9_soil 26 = .ok (.lconst 0, 1) := by decide +kernel
theorem dX9_soil_27 : decode cX9_soil 27 = .ok (.ldc2_w 100, 3) := by decide +kernel
theorem dX9_soil_30 : decode cX9_soil 30 = .ok (.invokestatic 57, 3) := by decide +kernel
theorem dX9_soil_33 : decode cX9_soil 33 = .ok (.ifCond .eq 16, 3) := by decide +kernel
theorem dX9_soil_36 : decode cX9_soil 36 = .ok (.iload 4, 2) := by decide +kernel
theorem dX9_soil_38 : decode cX9_soil 38 = .ok (.i2l, 1) := by decide +kernel
theorem dX9_soil_39 : decode cX9_soil 39 = .ok (.lconst 0, 1) := by decide +kernel
theorem dX9_soil_40 : decode cX9_soil 40 = .ok (.ldc2_w 102, 3) := by decide +kernel
theorem dX9_soil_43 : decode cX9_soil 43 = .ok (.invokestatic 57, 3) := by decide +kernel
theorem dX9_soil_46 : decode cX9_soil 46 = .ok (.ifCond .ne 5, 3) := by decide +kernel
theorem dX9_soil_49 : decode cX9_soil 49 = .ok (.iconst 0, 1) := by decide +kernel
theorem dX9_soil_50 : decode cX9_soil 50 = .ok (.ireturn, 1) := by decide +kernel
theorem dX9_soil_51 : decode cX9_soil 51 = .ok (.aload_n 0, 1) := by decide +kernel
theorem dX9_soil_52 : decode cX9_soil 52 = .ok (.getfield 9, 3) := by decide +kernel
theorem dX9_soil_55 : decode cX9_soil 55 = .ok (.sipush 290, 3) := by decide +kernel
theorem dX9_soil_58 : decode cX9_soil 58 = .ok (.iconst 3, 1) := by decide +kernel
theorem dX9_soil_59 : decode cX9_soil 59 = .ok (.iload_n 1, 1) := by decide +kernel
theorem dX9_soil_60 : decode cX9_soil 60 = .ok (.imul, 1) := by decide +kernel
theorem dX9_soil_61 : decode cX9_soil 61 = .ok (.iadd, 1) := by decide +kernel
theorem dX9_soil_62 : decode cX9_soil 62 = .ok (.iload_n 2, 1) := by decide +kernel
theorem dX9_soil_63 : decode cX9_soil 63 = .ok (.iastore, 1) := by decide +kernel
theorem dX9_soil_64 : decode cX9_soil 64 = .ok (.aload_n 0, 1) := by decide +kernel
theorem dX9_soil_65 : decode cX9_soil 65 = .ok (.getfield 9, 3) := by decide +kernel
theorem dX9_soil_68 : decode cX9_soil 68 = .ok (.sipush 290, 3) := by decide +kernel
theorem dX9_soil_71 : decode cX9_soil 71 = .ok (.iconst 3, 1) := by decide +kernel
theorem dX9_soil_72 : decode cX9_soil 72 = .ok (.iload_n 1, 1) := by decide +kernel
theorem dX9_soil_73 : decode cX9_soil 73 = .ok (.imul, 1) := by decide +kernel
theorem dX9_soil_74 : decode cX9_soil 74 = .ok (.iadd, 1) := by decide +kernel
theorem dX9_soil_75 : decode cX9_soil 75 = .ok (.iconst 1, 1) := by decide +kernel
theorem dX9_soil_76 : decode cX9_soil 76 = .ok (.iadd, 1) := by decide +kernel
theorem dX9_soil_77 : decode cX9_soil 77 = .ok (.iload_n 3, 1) := by decide +kernel
theorem dX9_soil_78 : decode cX9_soil 78 = .ok (.iastore, 1) := by decide +kernel
theorem dX9_soil_79 : decode cX9_soil 79 = .ok (.aload_n 0, 1) := by decide +kernel
theorem dX9_soil_80 : decode cX9_soil 80 = .ok (.getfield 9, 3) := by decide +kernel
theorem dX9_soil_83 : decode cX9_soil 83 = .ok (.sipush 290, 3) := by decide +kernel
theorem dX9_soil_86 : decode cX9_soil 86 = .ok (.iconst 3, 1) := by decide +kernel
theorem dX9_soil_87 : decode cX9_soil 87 = .ok (.iload_n 1, 1) := by decide +kernel
theorem dX9_soil_88 : decode cX9_soil 88 = .ok (.imul, 1) := by decide +kernel
theorem dX9_soil_89 : decode cX9_soil 89 = .ok (.iadd, 1) := by decide +kernel
theorem dX9_soil_90 : decode cX9_soil 90 = .ok (.iconst 2, 1) := by decide +kernel
theorem dX9_soil_91 : decode cX9_soil 91 = .ok (.iadd, 1) := by decide +kernel
theorem dX9_soil_92 : decode cX9_soil 92 = .ok (.iload 4, 2) := by decide +kernel
theorem dX9_soil_94 : decode cX9_soil 94 = .ok (.iastore, 1) := by decide +kernel
theorem dX9_soil_95 : decode cX9_soil 95 = .ok (.iconst 1, 1) := by decide +kernel
theorem dX9_soil_96 : decode cX9_soil 96 = .ok (.ireturn, 1) := by decide +kernel
set_option maxHeartbeats 4000000 in
theorem t_X9_soil_0 {X : sj_X} {s0 : sj_Mem} {N : Nat} {q : Int × sj_Mem} :
    ∀ (a0 : Nat) (x1 : Int) (x2 : Int) (x3 : Int) (x4 : Int) (s : sj_Mem), f_X9_soil N a0 x1 x2 x3 x4 s = some q → sj_T X m_X9_soil s0 (some (sj_i q.1), q.2) 0 [some (sj_r (some a0)), some (sj_i x1), some (sj_i x2), some (sj_i x3), some (sj_i x4)] [] s := by
  intro a0 x1 x2 x3 x4 s h
  unfold f_X9_soil at h
  refine r_iload_n (pc := 0) dX9_soil_0 rfl rfl ?_
  refine r_i2l (pc := 1) h dX9_soil_1 (fun v1 h => ?_)
  refine r_lconst0 (pc := 2) dX9_soil_2 ?_
  refine r_ldc2 (n := 3) (pc := 3) dX9_soil_3 kc_X9_96 ?_
  refine r_callS (pc := 6) (fun v => some (sj_i v)) (As := [sj_j v1, sj_j 0, sj_j 3]) (rest := []) h dX9_soil_6 mw_X9_57 kw_1225 (fun _ _ hc => c_X9_isIn hc) rfl ⟨(Nat.le_of_ble_eq_true rfl), (Nat.le_of_ble_eq_true rfl)⟩ (Nat.le_of_ble_eq_true rfl) rfl (fun v3 s2 h => ?_)
  refine r_if_eq (pc := 9) (tgt := 49) h dX9_soil_9 (by decide) (fun h => ?_) (fun h => ?_)
  · refine r_iconst (pc := 49) dX9_soil_49 ?_
    exact r_zret (pc := 50) h rfl dX9_soil_50
  · refine r_iload_n (pc := 12) dX9_soil_12 rfl rfl ?_
    refine r_i2l (pc := 13) h dX9_soil_13 (fun v4 h => ?_)
    refine r_lconst1 (pc := 14) dX9_soil_14 ?_
    refine r_ldc2 (n := 30) (pc := 15) dX9_soil_15 kc_X9_98 ?_
    refine r_callS (pc := 18) (fun v => some (sj_i v)) (As := [sj_j v4, sj_j 1, sj_j 30]) (rest := []) h dX9_soil_18 mw_X9_57 kw_1225 (fun _ _ hc => c_X9_isIn hc) rfl ⟨(Nat.le_of_ble_eq_true rfl), (Nat.le_of_ble_eq_true rfl)⟩ (Nat.le_of_ble_eq_true rfl) rfl (fun v6 s5 h => ?_)
    refine r_if_eq (pc := 21) (tgt := 49) h dX9_soil_21 (by decide) (fun h => ?_) (fun h => ?_)
    · refine r_iconst (pc := 49) dX9_soil_49 ?_
      exact r_zret (pc := 50) h rfl dX9_soil_50
    · refine r_iload_n (pc := 24) dX9_soil_24 rfl rfl ?_
      refine r_i2l (pc := 25) h dX9_soil_25 (fun v7 h => ?_)
      refine r_lconst0 (pc := 26) dX9_soil_26 ?_
      refine r_ldc2 (n := 200) (pc := 27) dX9_soil_27 kc_X9_100 ?_
      refine r_callS (pc := 30) (fun v => some (sj_i v)) (As := [sj_j v7, sj_j 0, sj_j 200]) (rest := []) h dX9_soil_30 mw_X9_57 kw_1225 (fun _ _ hc => c_X9_isIn hc) rfl ⟨(Nat.le_of_ble_eq_true rfl), (Nat.le_of_ble_eq_true rfl)⟩ (Nat.le_of_ble_eq_true rfl) rfl (fun v9 s8 h => ?_)
      refine r_if_eq (pc := 33) (tgt := 49) h dX9_soil_33 (by decide) (fun h => ?_) (fun h => ?_)
      · refine r_iconst (pc := 49) dX9_soil_49 ?_
        exact r_zret (pc := 50) h rfl dX9_soil_50
      · refine r_iload (pc := 36) dX9_soil_36 rfl ?_
        refine r_i2l (pc := 38) h dX9_soil_38 (fun v10 h => ?_)
        refine r_lconst0 (pc := 39) dX9_soil_39 ?_
        refine r_ldc2 (n := 1500) (pc := 40) dX9_soil_40 kc_X9_102 ?_
        refine r_callS (pc := 43) (fun v => some (sj_i v)) (As := [sj_j v10, sj_j 0, sj_j 1500]) (rest := []) h dX9_soil_43 mw_X9_57 kw_1225 (fun _ _ hc => c_X9_isIn hc) rfl ⟨(Nat.le_of_ble_eq_true rfl), (Nat.le_of_ble_eq_true rfl)⟩ (Nat.le_of_ble_eq_true rfl) rfl (fun v12 s11 h => ?_)
        refine r_if_ne (pc := 46) (tgt := 51) h dX9_soil_46 (by decide) (fun h => ?_) (fun h => ?_)
        · refine r_iconst (pc := 49) dX9_soil_49 ?_
          exact r_zret (pc := 50) h rfl dX9_soil_50
        · refine r_aload_n (pc := 51) dX9_soil_51 rfl rfl ?_
          refine r_gR (pc := 52) h dX9_soil_52 fw_X9_9 rfl (fun r13 h => ?_)
          refine r_sipush (pc := 55) dX9_soil_55 ⟨by decide, by decide⟩ ?_
          refine r_iconst (pc := 58) dX9_soil_58 ?_
          refine r_iload_n (pc := 59) dX9_soil_59 rfl rfl ?_
          refine r_imul (pc := 60) dX9_soil_60 ?_
          refine r_iadd (pc := 61) dX9_soil_61 ?_
          refine r_iload_n (pc := 62) dX9_soil_62 rfl rfl ?_
          obtain ⟨a14, ea14, g⟩ := e_nn_some h
          clear h
          subst ea14
          have h := g
          clear g
          refine r_iastore (pc := 63) h dX9_soil_63 (fun s15 h => ?_)
          refine r_aload_n (pc := 64) dX9_soil_64 rfl rfl ?_
          refine r_gR (pc := 65) h dX9_soil_65 fw_X9_9 rfl (fun r16 h => ?_)
          refine r_sipush (pc := 68) dX9_soil_68 ⟨by decide, by decide⟩ ?_
          refine r_iconst (pc := 71) dX9_soil_71 ?_
          refine r_iload_n (pc := 72) dX9_soil_72 rfl rfl ?_
          refine r_imul (pc := 73) dX9_soil_73 ?_
          refine r_iadd (pc := 74) dX9_soil_74 ?_
          refine r_iconst (pc := 75) dX9_soil_75 ?_
          refine r_iadd (pc := 76) dX9_soil_76 ?_
          refine r_iload_n (pc := 77) dX9_soil_77 rfl rfl ?_
          obtain ⟨a17, ea17, g⟩ := e_nn_some h
          clear h
          subst ea17
          have h := g
          clear g
          refine r_iastore (pc := 78) h dX9_soil_78 (fun s18 h => ?_)
          refine r_aload_n (pc := 79) dX9_soil_79 rfl rfl ?_
          refine r_gR (pc := 80) h dX9_soil_80 fw_X9_9 rfl (fun r19 h => ?_)
          refine r_sipush (pc := 83) dX9_soil_83 ⟨by decide, by decide⟩ ?_
          refine r_iconst (pc := 86) dX9_soil_86 ?_
          refine r_iload_n (pc := 87) dX9_soil_87 rfl rfl ?_
          refine r_imul (pc := 88) dX9_soil_88 ?_
          refine r_iadd (pc := 89) dX9_soil_89 ?_
          refine r_iconst (pc := 90) dX9_soil_90 ?_
          refine r_iadd (pc := 91) dX9_soil_91 ?_
          refine r_iload (pc := 92) dX9_soil_92 rfl ?_
          obtain ⟨a20, ea20, g⟩ := e_nn_some h
          clear h
          subst ea20
          have h := g
          clear g
          refine r_iastore (pc := 94) h dX9_soil_94 (fun s21 h => ?_)
          refine r_iconst (pc := 95) dX9_soil_95 ?_
          exact r_zret (pc := 96) h rfl dX9_soil_96
set_option maxHeartbeats 4000000 in
theorem c_X9_soil {X : sj_X} {N : Nat} {a0 : Nat} {x1 : Int} {x2 : Int} {x3 : Int} {x4 : Int} {s : sj_Mem} {q : Int × sj_Mem} (h : f_X9_soil N a0 x1 x2 x3 x4 s = some q) : sj_C X m_X9_soil [sj_r (some a0), sj_i x1, sj_i x2, sj_i x3, sj_i x4] s (some (sj_i q.1), q.2) :=
  sj_C_of (by decide +kernel) (Nat.le_of_ble_eq_true rfl) (lo := [some (sj_r (some a0)), some (sj_i x1), some (sj_i x2), some (sj_i x3), some (sj_i x4)]) rfl (sj_weak (l2 := [some (sj_r (some a0)), some (sj_i x1), some (sj_i x2), some (sj_i x3), some (sj_i x4)]) (⟨rfl, ⟨rfl, ⟨rfl, ⟨rfl, ⟨rfl, trivial⟩⟩⟩⟩⟩) (t_X9_soil_0 a0 x1 x2 x3 x4 s h))
theorem dX9_dig_0 : decode cX9_dig 0 = .ok (.aload_n 0, 1) := by decide +kernel
theorem dX9_dig_1 : decode cX9_dig 1 = .ok (.iload_n 1, 1) := by decide +kernel
theorem dX9_dig_2 : decode cX9_dig 2 = .ok (.iload_n 2, 1) := by decide +kernel
theorem dX9_dig_3 : decode cX9_dig 3 = .ok (.invokevirtual 84, 3) := by decide +kernel
theorem dX9_dig_6 : decode cX9_dig 6 = .ok (.ifCond .ne 5, 3) := by decide +kernel
theorem dX9_dig_9 : decode cX9_dig 9 = .ok (.iconst (-1), 1) := by decide +kernel
theorem dX9_dig_10 : decode cX9_dig 10 = .ok (.ireturn, 1) := by decide +kernel
theorem dX9_dig_11 : decode cX9_dig 11 = .ok (.aload_n 0, 1) := by decide +kernel
theorem dX9_dig_12 : decode cX9_dig 12 = .ok (.aload_n 0, 1) := by decide +kernel
theorem dX9_dig_13 : decode cX9_dig 13 = .ok (.getfield 9, 3) := by decide +kernel
theorem dX9_dig_16 : decode cX9_dig 16 = .ok (.invokevirtual 70, 3) := by decide +kernel
theorem dX9_dig_19 : decode cX9_dig 19 = .ok (.aload_n 0, 1) := by decide +kernel
theorem dX9_dig_20 : decode cX9_dig 20 = .ok (.getfield 9, 3) := by decide +kernel
theorem dX9_dig_23 : decode cX9_dig 23 = .ok (.iconst 3, 1) := by decide +kernel
theorem dX9_dig_24 : decode cX9_dig 24 = .ok (.iload_n 1, 1) := by decide +kernel
theorem dX9_dig_25 : decode cX9_dig 25 = .ok (.iadd, 1) := by decide +kernel
theorem dX9_dig_26 : decode cX9_dig 26 = .ok (.dup2, 1) := by decide +kernel
theorem dX9_dig_27 : decode cX9_dig 27 = .ok (.iaload, 1) := by decide +kernel
theorem dX9_dig_28 : decode cX9_dig 28 = .ok (.iload_n 2, 1) := by decide +kernel
theorem dX9_dig_29 : decode cX9_dig 29 = .ok (.isub, 1) := by decide +kernel
theorem dX9_dig_30 : decode cX9_dig 30 = .ok (.iastore, 1) := by decide +kernel
theorem dX9_dig_31 : decode cX9_dig 31 = .ok (.aload_n 0, 1) := by decide +kernel
theorem dX9_dig_32 : decode cX9_dig 32 = .ok (.getfield 9, 3) := by decide +kernel
theorem dX9_dig_35 : decode cX9_dig 35 = .ok (.sipush 320, 3) := by decide +kernel
theorem dX9_dig_38 : decode cX9_dig 38 = .ok (.iconst (-1), 1) := by decide +kernel
theorem dX9_dig_39 : decode cX9_dig 39 = .ok (.iastore, 1) := by decide +kernel
theorem dX9_dig_40 : decode cX9_dig 40 = .ok (.aload_n 0, 1) := by decide +kernel
theorem dX9_dig_41 : decode cX9_dig 41 = .ok (.getfield 9, 3) := by decide +kernel
theorem dX9_dig_44 : decode cX9_dig 44 = .ok (.iconst 3, 1) := by decide +kernel
theorem dX9_dig_45 : decode cX9_dig 45 = .ok (.iload_n 1, 1) := by decide +kernel
theorem dX9_dig_46 : decode cX9_dig 46 = .ok (.iadd, 1) := by decide +kernel
theorem dX9_dig_47 : decode cX9_dig 47 = .ok (.iaload, 1) := by decide +kernel
theorem dX9_dig_48 : decode cX9_dig 48 = .ok (.ireturn, 1) := by decide +kernel
set_option maxHeartbeats 4000000 in
theorem t_X9_dig_0 {X : sj_X} {s0 : sj_Mem} {N : Nat} {q : Int × sj_Mem} :
    ∀ (a0 : Nat) (x1 : Int) (x2 : Int) (s : sj_Mem), f_X9_dig N a0 x1 x2 s = some q → sj_T X m_X9_dig s0 (some (sj_i q.1), q.2) 0 [some (sj_r (some a0)), some (sj_i x1), some (sj_i x2)] [] s := by
  intro a0 x1 x2 s h
  unfold f_X9_dig at h
  refine r_aload_n (pc := 0) dX9_dig_0 rfl rfl ?_
  refine r_iload_n (pc := 1) dX9_dig_1 rfl rfl ?_
  refine r_iload_n (pc := 2) dX9_dig_2 rfl rfl ?_
  refine r_callV (pc := 3) (fun v => some (sj_i v)) (As := [sj_i x1, sj_i x2]) (rest := []) h dX9_dig_3 mw_X9_84 vw_X9_canDig (fun _ _ hc => c_X9_canDig hc) rfl ⟨(Nat.le_of_ble_eq_true rfl), (Nat.le_of_ble_eq_true rfl)⟩ (Nat.le_of_ble_eq_true rfl) rfl (fun v2 s1 h => ?_)
  refine r_if_ne (pc := 6) (tgt := 11) h dX9_dig_6 (by decide) (fun h => ?_) (fun h => ?_)
  · refine r_iconst (pc := 9) dX9_dig_9 ?_
    exact r_iret (pc := 10) h rfl dX9_dig_10
  · refine r_aload_n (pc := 11) dX9_dig_11 rfl rfl ?_
    refine r_aload_n (pc := 12) dX9_dig_12 rfl rfl ?_
    refine r_gR (pc := 13) h dX9_dig_13 fw_X9_9 rfl (fun r3 h => ?_)
    refine r_callV (pc := 16) (fun _ => none) (As := [sj_r r3]) (rest := []) h dX9_dig_16 mw_X9_70 vw_X9_remembers (fun _ _ hc => c_X9_remembers hc) rfl ⟨(Nat.le_of_ble_eq_true rfl), (Nat.le_of_ble_eq_true rfl)⟩ (Nat.le_of_ble_eq_true rfl) rfl (fun _u s4 h => ?_)
    refine r_aload_n (pc := 19) dX9_dig_19 rfl rfl ?_
    refine r_gR (pc := 20) h dX9_dig_20 fw_X9_9 rfl (fun r5 h => ?_)
    refine r_iconst (pc := 23) dX9_dig_23 ?_
    refine r_iload_n (pc := 24) dX9_dig_24 rfl rfl ?_
    refine r_iadd (pc := 25) dX9_dig_25 ?_
    refine r_dup2_11 (pc := 26) dX9_dig_26 rfl rfl ?_
    obtain ⟨a6, ea6, g⟩ := e_nn_some h
    clear h
    subst ea6
    have h := g
    clear g
    refine r_iaload (pc := 27) h dX9_dig_27 (fun v7 h => ?_)
    refine r_iload_n (pc := 28) dX9_dig_28 rfl rfl ?_
    refine r_isub (pc := 29) dX9_dig_29 ?_
    refine r_iastore (pc := 30) h dX9_dig_30 (fun s8 h => ?_)
    refine r_aload_n (pc := 31) dX9_dig_31 rfl rfl ?_
    refine r_gR (pc := 32) h dX9_dig_32 fw_X9_9 rfl (fun r9 h => ?_)
    refine r_sipush (pc := 35) dX9_dig_35 ⟨by decide, by decide⟩ ?_
    refine r_iconst (pc := 38) dX9_dig_38 ?_
    obtain ⟨a10, ea10, g⟩ := e_nn_some h
    clear h
    subst ea10
    have h := g
    clear g
    refine r_iastore (pc := 39) h dX9_dig_39 (fun s11 h => ?_)
    refine r_aload_n (pc := 40) dX9_dig_40 rfl rfl ?_
    refine r_gR (pc := 41) h dX9_dig_41 fw_X9_9 rfl (fun r12 h => ?_)
    refine r_iconst (pc := 44) dX9_dig_44 ?_
    refine r_iload_n (pc := 45) dX9_dig_45 rfl rfl ?_
    refine r_iadd (pc := 46) dX9_dig_46 ?_
    obtain ⟨a13, ea13, g⟩ := e_nn_some h
    clear h
    subst ea13
    have h := g
    clear g
    refine r_iaload (pc := 47) h dX9_dig_47 (fun v14 h => ?_)
    exact r_iret (pc := 48) h rfl dX9_dig_48
set_option maxHeartbeats 4000000 in
theorem c_X9_dig {X : sj_X} {N : Nat} {a0 : Nat} {x1 : Int} {x2 : Int} {s : sj_Mem} {q : Int × sj_Mem} (h : f_X9_dig N a0 x1 x2 s = some q) : sj_C X m_X9_dig [sj_r (some a0), sj_i x1, sj_i x2] s (some (sj_i q.1), q.2) :=
  sj_C_of (by decide +kernel) (Nat.le_of_ble_eq_true rfl) (lo := [some (sj_r (some a0)), some (sj_i x1), some (sj_i x2)]) rfl (sj_weak (l2 := [some (sj_r (some a0)), some (sj_i x1), some (sj_i x2)]) (⟨rfl, ⟨rfl, ⟨rfl, trivial⟩⟩⟩) (t_X9_dig_0 a0 x1 x2 s h))
theorem dX9_tell_0 : decode cX9_tell 0 = .ok (.aload_n 0, 1) := by decide +kernel
theorem dX9_tell_1 : decode cX9_tell 1 = .ok (.iload_n 1, 1) := by decide +kernel
theorem dX9_tell_2 : decode cX9_tell 2 = .ok (.invokevirtual 74, 3) := by decide +kernel
theorem dX9_tell_5 : decode cX9_tell 5 = .ok (.ifCond .eq 15, 3) := by decide +kernel
theorem dX9_tell_8 : decode cX9_tell 8 = .ok (.iload_n 2, 1) := by decide +kernel
theorem dX9_tell_9 : decode cX9_tell 9 = .ok (.i2l, 1) := by decide +kernel
theorem dX9_tell_10 : decode cX9_tell 10 = .ok (.lconst 0, 1) := by decide +kernel
theorem dX9_tell_11 : decode cX9_tell 11 = .ok (.ldc2_w 78, 3) := by decide +kernel
theorem dX9_tell_14 : decode cX9_tell 14 = .ok (.invokestatic 57, 3) := by decide +kernel
theorem dX9_tell_17 : decode cX9_tell 17 = .ok (.ifCond .ne 5, 3) := by decide +kernel
theorem dX9_tell_20 : decode cX9_tell 20 = .ok (.iconst 0, 1) := by decide +kernel
theorem dX9_tell_21 : decode cX9_tell 21 = .ok (.ireturn, 1) := by decide +kernel
theorem dX9_tell_22 : decode cX9_tell 22 = .ok (.iload_n 3, 1) := by decide +kernel
theorem dX9_tell_23 : decode cX9_tell 23 = .ok (.i2l, 1) := by decide +kernel
theorem dX9_tell_24 : decode cX9_tell 24 = .ok (.lconst 0, 1) := by decide +kernel
theorem dX9_tell_25 : decode cX9_tell 25 = .ok (.iload_n 2, 1) := by decide +kernel
theorem dX9_tell_26 : decode cX9_tell 26 = .ok (.ifCond .ne 15, 3) := by decide +kernel
theorem dX9_tell_29 : decode cX9_tell 29 = .ok (.aload_n 0, 1) := by decide +kernel
theorem dX9_tell_30 : decode cX9_tell 30 = .ok (.getfield 9, 3) := by decide +kernel
theorem dX9_tell_33 : decode cX9_tell 33 = .ok (.iconst 3, 1) := by decide +kernel
theorem dX9_tell_34 : decode cX9_tell 34 = .ok (.iload_n 1, 1) := by decide +kernel
theorem dX9_tell_35 : decode cX9_tell 35 = .ok (.iadd, 1) := by decide +kernel
theorem dX9_tell_36 : decode cX9_tell 36 = .ok (.iaload, 1) := by decide +kernel
theorem dX9_tell_37 : decode cX9_tell 37 = .ok (.i2l, 1) := by decide +kernel
theorem dX9_tell_38 : decode cX9_tell 38 = .ok (.goto 17, 3) := by decide +kernel
theorem dX9_tell_41 : decode cX9_tell 41 = .ok (.iload_n 2, 1) := by decide +kernel
theorem dX9_tell_42 : decode cX9_tell 42 = .ok (.iconst 2, 1) := by decide +kernel
theorem dX9_tell_43 : decode cX9_tell 43 = .ok (.if_icmp .ne 9, 3) := by decide +kernel
theorem dX9_tell_46 : decode cX9_tell 46 = .ok (.ldc2_w 80, 3) := by decide +kernel
theorem dX9_tell_49 : decode cX9_tell 49 = .ok (.goto 6, 3) := by decide +kernel
theorem dX9_tell_52 : decode cX9_tell 52 = .ok (.ldc2_w 82, 3) := by decide +kernel
theorem dX9_tell_55 : decode cX9_tell 55 = .ok (.invokestatic 57, 3) := by decide +kernel
theorem dX9_tell_58 : decode cX9_tell 58 = .ok (.ifCond .ne 5, 3) := by decide +kernel
theorem dX9_tell_61 : decode cX9_tell 61 = .ok (.iconst 0, 1) := by decide +kernel
theorem dX9_tell_62 : decode cX9_tell 62 = .ok (.ireturn, 1) := by decide +kernel
theorem dX9_tell_63 : decode cX9_tell 63 = .ok (.iload_n 2, 1) := by decide +kernel
theorem dX9_tell_64 : decode cX9_tell 64 = .ok (.ifCond .ne 25, 3) := by decide +kernel
theorem dX9_tell_67 : decode cX9_tell 67 = .ok (.aload_n 0, 1) := by decide +kernel
theorem dX9_tell_68 : decode cX9_tell 68 = .ok (.getfield 9, 3) := by decide +kernel
theorem dX9_tell_71 : decode cX9_tell 71 = .ok (.bipush 44, 2) := by decide +kernel
theorem dX9_tell_73 : decode cX9_tell 73 = .ok (.iload_n 1, 1) := by decide +kernel
theorem dX9_tell_74 : decode cX9_tell 74 = .ok (.iadd, 1) := by decide +kernel
theorem dX9_tell_75 : decode cX9_tell 75 = .ok (.iload_n 3, 1) := by decide +kernel
theorem dX9_tell_76 : decode cX9_tell 76 = .ok (.iastore, 1) := by decide +kernel
theorem dX9_tell_77 : decode cX9_tell 77 = .ok (.aload_n 0, 1) := by decide +kernel
theorem dX9_tell_78 : decode cX9_tell 78 = .ok (.getfield 9, 3) := by decide +kernel
theorem dX9_tell_81 : decode cX9_tell 81 = .ok (.sipush 320, 3) := by decide +kernel
theorem dX9_tell_84 : decode cX9_tell 84 = .ok (.iconst (-1), 1) := by decide +kernel
theorem dX9_tell_85 : decode cX9_tell 85 = .ok (.iastore, 1) := by decide +kernel
theorem dX9_tell_86 : decode cX9_tell 86 = .ok (.goto 49, 3) := by decide +kernel
theorem dX9_tell_89 : decode cX9_tell 89 = .ok (.iload_n 2, 1) := by decide +kernel
theorem dX9_tell_90 : decode cX9_tell 90 = .ok (.iconst 3, 1) := by decide +kernel
theorem dX9_tell_91 : decode cX9_tell 91 = .ok (.if_icmp .ge 26, 3) := by decide +kernel
theorem dX9_tell_94 : decode cX9_tell 94 = .ok (.aload_n 0, 1) := by decide +kernel
theorem dX9_tell_95 : decode cX9_tell 95 = .ok (.getfield 9, 3) := by decide +kernel
theorem dX9_tell_98 : decode cX9_tell 98 = .ok (.iload_n 2, 1) := by decide +kernel
theorem dX9_tell_99 : decode cX9_tell 99 = .ok (.iconst 1, 1) := by decide +kernel
theorem dX9_tell_100 : decode cX9_tell 100 = .ok (.if_icmp .ne 8, 3) := by decide +kernel
theorem dX9_tell_103 : decode cX9_tell 103 = .ok (.bipush 85, 2) := by decide +kernel
theorem dX9_tell_105 : decode cX9_tell 105 = .ok (.goto 5, 3) := by decide +kernel
theorem dX9_tell_108 : decode cX9_tell 108 = .ok (.bipush 126, 2) := by decide +kernel
theorem dX9_tell_110 : decode cX9_tell 110 = .ok (.iload_n 1, 1) := by decide +kernel
theorem dX9_tell_111 : decode cX9_tell 111 = .ok (.iadd, 1) := by decide +kernel
theorem dX9_tell_112 : decode cX9_tell 112 = .ok (.iload_n 3, 1) := by decide +kernel
theorem dX9_tell_113 : decode cX9_tell 113 = .ok (.iastore, 1) := by decide +kernel
theorem dX9_tell_114 : decode cX9_tell 114 = .ok (.goto 21, 3) := by decide +kernel
theorem dX9_tell_117 : decode cX9_tell 117 = .ok (.aload_n 0, 1) := by decide +kernel
theorem dX9_tell_118 : decode cX9_tell 118 = .ok (.getfield 9, 3) := by decide +kernel
theorem dX9_tell_121 : decode cX9_tell 121 = .ok (.sipush 167, 3) := by decide +kernel
theorem dX9_tell_124 : decode cX9_tell 124 = .ok (.bipush 41, 2) := by decide +kernel
theorem dX9_tell_126 : decode cX9_tell 126 = .ok (.iload_n 2, 1) := by decide +kernel
theorem dX9_tell_127 : decode cX9_tell 127 = .ok (.iconst 3, 1) := by decide +kernel
theorem dX9_tell_128 : decode cX9_tell 128 = .ok (.isub, 1) := by decide +kernel
theorem dX9_tell_129 : decode cX9_tell 129 = .ok (.imul, 1) := by decide +kernel
theorem dX9_tell_130 : decode cX9_tell 130 = .ok (.iadd, 1) := by decide +kernel
theorem dX9_tell_131 : decode cX9_tell 131 = .ok (.iload_n 1, 1) := by decide +kernel
theorem dX9_tell_132 : decode cX9_tell 132 = .ok (.iadd, 1) := by decide +kernel
theorem dX9_tell_133 : decode cX9_tell 133 = .ok (.iload_n 3, 1) := by decide +kernel
theorem dX9_tell_134 : decode cX9_tell 134 = .ok (.iastore, 1) := by decide +kernel
theorem dX9_tell_135 : decode cX9_tell 135 = .ok (.iconst 1, 1) := by decide +kernel
theorem dX9_tell_136 : decode cX9_tell 136 = .ok (.ireturn, 1) := by decide +kernel
set_option maxHeartbeats 4000000 in
theorem t_X9_tell_110 {X : sj_X} {s0 : sj_Mem} {N : Nat} {q : Int × sj_Mem} :
    ∀ (x1 : Int) (x3 : Int) (y0 : Int) (y1 : Option Nat) (s : sj_Mem), f_X9_tell_110 N x1 x3 y0 y1 s = some q → sj_T X m_X9_tell s0 (some (sj_i q.1), q.2) 110 [none, some (sj_i x1), none, some (sj_i x3)] [(sj_i y0), (sj_r y1)] s := by
  intro x1 x3 y0 y1 s h
  unfold f_X9_tell_110 at h
  refine r_iload_n (pc := 110) dX9_tell_110 rfl rfl ?_
  refine r_iadd (pc := 111) dX9_tell_111 ?_
  refine r_iload_n (pc := 112) dX9_tell_112 rfl rfl ?_
  obtain ⟨a1, ea1, g⟩ := e_nn_some h
  clear h
  subst ea1
  have h := g
  clear g
  refine r_iastore (pc := 113) h dX9_tell_113 (fun s2 h => ?_)
  refine r_goto (pc := 114) (tgt := 135) dX9_tell_114 (by decide) ?_
  refine r_iconst (pc := 135) dX9_tell_135 ?_
  exact r_zret (pc := 136) h rfl dX9_tell_136
set_option maxHeartbeats 4000000 in
theorem t_X9_tell_55 {X : sj_X} {s0 : sj_Mem} {N : Nat} {q : Int × sj_Mem} :
    ∀ (a0 : Nat) (x1 : Int) (x2 : Int) (x3 : Int) (y0 : Int) (y1 : Int) (y2 : Int) (s : sj_Mem), f_X9_tell_55 N a0 x1 x2 x3 y0 y1 y2 s = some q → sj_T X m_X9_tell s0 (some (sj_i q.1), q.2) 55 [some (sj_r (some a0)), some (sj_i x1), some (sj_i x2), some (sj_i x3)] [(sj_j y0), (sj_j y1), (sj_j y2)] s := by
  intro a0 x1 x2 x3 y0 y1 y2 s h
  unfold f_X9_tell_55 at h
  refine r_callS (pc := 55) (fun v => some (sj_i v)) (As := [sj_j y2, sj_j y1, sj_j y0]) (rest := []) h dX9_tell_55 mw_X9_57 kw_1225 (fun _ _ hc => c_X9_isIn hc) rfl ⟨(Nat.le_of_ble_eq_true rfl), (Nat.le_of_ble_eq_true rfl)⟩ (Nat.le_of_ble_eq_true rfl) rfl (fun v2 s1 h => ?_)
  refine r_if_ne (pc := 58) (tgt := 63) h dX9_tell_58 (by decide) (fun h => ?_) (fun h => ?_)
  · refine r_iconst (pc := 61) dX9_tell_61 ?_
    exact r_zret (pc := 62) h rfl dX9_tell_62
  · refine r_iload_n (pc := 63) dX9_tell_63 rfl rfl ?_
    refine r_if_ne (pc := 64) (tgt := 89) h dX9_tell_64 (by decide) (fun h => ?_) (fun h => ?_)
    · refine r_aload_n (pc := 67) dX9_tell_67 rfl rfl ?_
      refine r_gR (pc := 68) h dX9_tell_68 fw_X9_9 rfl (fun r7 h => ?_)
      refine r_bipush (pc := 71) dX9_tell_71 ⟨by decide, by decide⟩ ?_
      refine r_iload_n (pc := 73) dX9_tell_73 rfl rfl ?_
      refine r_iadd (pc := 74) dX9_tell_74 ?_
      refine r_iload_n (pc := 75) dX9_tell_75 rfl rfl ?_
      obtain ⟨a8, ea8, g⟩ := e_nn_some h
      clear h
      subst ea8
      have h := g
      clear g
      refine r_iastore (pc := 76) h dX9_tell_76 (fun s9 h => ?_)
      refine r_aload_n (pc := 77) dX9_tell_77 rfl rfl ?_
      refine r_gR (pc := 78) h dX9_tell_78 fw_X9_9 rfl (fun r10 h => ?_)
      refine r_sipush (pc := 81) dX9_tell_81 ⟨by decide, by decide⟩ ?_
      refine r_iconst (pc := 84) dX9_tell_84 ?_
      obtain ⟨a11, ea11, g⟩ := e_nn_some h
      clear h
      subst ea11
      have h := g
      clear g
      refine r_iastore (pc := 85) h dX9_tell_85 (fun s12 h => ?_)
      refine r_goto (pc := 86) (tgt := 135) dX9_tell_86 (by decide) ?_
      refine r_iconst (pc := 135) dX9_tell_135 ?_
      exact r_zret (pc := 136) h rfl dX9_tell_136
    · refine r_iload_n (pc := 89) dX9_tell_89 rfl rfl ?_
      refine r_iconst (pc := 90) dX9_tell_90 ?_
      refine r_icmp_ge (pc := 91) (tgt := 117) h dX9_tell_91 (by decide) (fun h => ?_) (fun h => ?_)
      · refine r_aload_n (pc := 117) dX9_tell_117 rfl rfl ?_
        refine r_gR (pc := 118) h dX9_tell_118 fw_X9_9 rfl (fun r3 h => ?_)
        refine r_sipush (pc := 121) dX9_tell_121 ⟨by decide, by decide⟩ ?_
        refine r_bipush (pc := 124) dX9_tell_124 ⟨by decide, by decide⟩ ?_
        refine r_iload_n (pc := 126) dX9_tell_126 rfl rfl ?_
        refine r_iconst (pc := 127) dX9_tell_127 ?_
        refine r_isub (pc := 128) dX9_tell_128 ?_
        refine r_imul (pc := 129) dX9_tell_129 ?_
        refine r_iadd (pc := 130) dX9_tell_130 ?_
        refine r_iload_n (pc := 131) dX9_tell_131 rfl rfl ?_
        refine r_iadd (pc := 132) dX9_tell_132 ?_
        refine r_iload_n (pc := 133) dX9_tell_133 rfl rfl ?_
        obtain ⟨a4, ea4, g⟩ := e_nn_some h
        clear h
        subst ea4
        have h := g
        clear g
        refine r_iastore (pc := 134) h dX9_tell_134 (fun s5 h => ?_)
        refine r_iconst (pc := 135) dX9_tell_135 ?_
        exact r_zret (pc := 136) h rfl dX9_tell_136
      · refine r_aload_n (pc := 94) dX9_tell_94 rfl rfl ?_
        refine r_gR (pc := 95) h dX9_tell_95 fw_X9_9 rfl (fun r6 h => ?_)
        refine r_iload_n (pc := 98) dX9_tell_98 rfl rfl ?_
        refine r_iconst (pc := 99) dX9_tell_99 ?_
        refine r_icmp_ne (pc := 100) (tgt := 108) h dX9_tell_100 (by decide) (fun h => ?_) (fun h => ?_)
        · refine r_bipush (pc := 103) dX9_tell_103 ⟨by decide, by decide⟩ ?_
          refine r_goto (pc := 105) (tgt := 110) dX9_tell_105 (by decide) ?_
          exact sj_weak (l2 := [none, some (sj_i x1), none, some (sj_i x3)]) (⟨rfl, ⟨rfl, trivial⟩⟩) (t_X9_tell_110 x1 x3 85 r6 s1 h)
        · refine r_bipush (pc := 108) dX9_tell_108 ⟨by decide, by decide⟩ ?_
          exact sj_weak (l2 := [none, some (sj_i x1), none, some (sj_i x3)]) (⟨rfl, ⟨rfl, trivial⟩⟩) (t_X9_tell_110 x1 x3 126 r6 s1 h)
set_option maxHeartbeats 4000000 in
theorem t_X9_tell_0 {X : sj_X} {s0 : sj_Mem} {N : Nat} {q : Int × sj_Mem} :
    ∀ (a0 : Nat) (x1 : Int) (x2 : Int) (x3 : Int) (s : sj_Mem), f_X9_tell N a0 x1 x2 x3 s = some q → sj_T X m_X9_tell s0 (some (sj_i q.1), q.2) 0 [some (sj_r (some a0)), some (sj_i x1), some (sj_i x2), some (sj_i x3)] [] s := by
  intro a0 x1 x2 x3 s h
  unfold f_X9_tell at h
  refine r_aload_n (pc := 0) dX9_tell_0 rfl rfl ?_
  refine r_iload_n (pc := 1) dX9_tell_1 rfl rfl ?_
  refine r_callV (pc := 2) (fun v => some (sj_i v)) (As := [sj_i x1]) (rest := []) h dX9_tell_2 mw_X9_74 vw_X9_isColumn (fun _ _ hc => c_X9_isColumn hc) rfl ⟨(Nat.le_of_ble_eq_true rfl), (Nat.le_of_ble_eq_true rfl)⟩ (Nat.le_of_ble_eq_true rfl) rfl (fun v2 s1 h => ?_)
  refine r_if_eq (pc := 5) (tgt := 20) h dX9_tell_5 (by decide) (fun h => ?_) (fun h => ?_)
  · refine r_iconst (pc := 20) dX9_tell_20 ?_
    exact r_zret (pc := 21) h rfl dX9_tell_21
  · refine r_iload_n (pc := 8) dX9_tell_8 rfl rfl ?_
    refine r_i2l (pc := 9) h dX9_tell_9 (fun v3 h => ?_)
    refine r_lconst0 (pc := 10) dX9_tell_10 ?_
    refine r_ldc2 (n := 5) (pc := 11) dX9_tell_11 kc_X9_78 ?_
    refine r_callS (pc := 14) (fun v => some (sj_i v)) (As := [sj_j v3, sj_j 0, sj_j 5]) (rest := []) h dX9_tell_14 mw_X9_57 kw_1225 (fun _ _ hc => c_X9_isIn hc) rfl ⟨(Nat.le_of_ble_eq_true rfl), (Nat.le_of_ble_eq_true rfl)⟩ (Nat.le_of_ble_eq_true rfl) rfl (fun v5 s4 h => ?_)
    refine r_if_ne (pc := 17) (tgt := 22) h dX9_tell_17 (by decide) (fun h => ?_) (fun h => ?_)
    · refine r_iconst (pc := 20) dX9_tell_20 ?_
      exact r_zret (pc := 21) h rfl dX9_tell_21
    · refine r_iload_n (pc := 22) dX9_tell_22 rfl rfl ?_
      refine r_i2l (pc := 23) h dX9_tell_23 (fun v6 h => ?_)
      refine r_lconst0 (pc := 24) dX9_tell_24 ?_
      refine r_iload_n (pc := 25) dX9_tell_25 rfl rfl ?_
      refine r_if_ne (pc := 26) (tgt := 41) h dX9_tell_26 (by decide) (fun h => ?_) (fun h => ?_)
      · refine r_aload_n (pc := 29) dX9_tell_29 rfl rfl ?_
        refine r_gR (pc := 30) h dX9_tell_30 fw_X9_9 rfl (fun r7 h => ?_)
        refine r_iconst (pc := 33) dX9_tell_33 ?_
        refine r_iload_n (pc := 34) dX9_tell_34 rfl rfl ?_
        refine r_iadd (pc := 35) dX9_tell_35 ?_
        obtain ⟨a8, ea8, g⟩ := e_nn_some h
        clear h
        subst ea8
        have h := g
        clear g
        refine r_iaload (pc := 36) h dX9_tell_36 (fun v9 h => ?_)
        refine r_i2l (pc := 37) h dX9_tell_37 (fun v10 h => ?_)
        refine r_goto (pc := 38) (tgt := 55) dX9_tell_38 (by decide) ?_
        exact sj_weak (l2 := [some (sj_r (some a0)), some (sj_i x1), some (sj_i x2), some (sj_i x3)]) (⟨rfl, ⟨rfl, ⟨rfl, ⟨rfl, trivial⟩⟩⟩⟩) (t_X9_tell_55 a0 x1 x2 x3 v10 0 v6 s4 h)
      · refine r_iload_n (pc := 41) dX9_tell_41 rfl rfl ?_
        refine r_iconst (pc := 42) dX9_tell_42 ?_
        refine r_icmp_ne (pc := 43) (tgt := 52) h dX9_tell_43 (by decide) (fun h => ?_) (fun h => ?_)
        · refine r_ldc2 (n := 500) (pc := 46) dX9_tell_46 kc_X9_80 ?_
          refine r_goto (pc := 49) (tgt := 55) dX9_tell_49 (by decide) ?_
          exact sj_weak (l2 := [some (sj_r (some a0)), some (sj_i x1), some (sj_i x2), some (sj_i x3)]) (⟨rfl, ⟨rfl, ⟨rfl, ⟨rfl, trivial⟩⟩⟩⟩) (t_X9_tell_55 a0 x1 x2 x3 500 0 v6 s4 h)
        · refine r_ldc2 (n := 100) (pc := 52) dX9_tell_52 kc_X9_82 ?_
          exact sj_weak (l2 := [some (sj_r (some a0)), some (sj_i x1), some (sj_i x2), some (sj_i x3)]) (⟨rfl, ⟨rfl, ⟨rfl, ⟨rfl, trivial⟩⟩⟩⟩) (t_X9_tell_55 a0 x1 x2 x3 100 0 v6 s4 h)
set_option maxHeartbeats 4000000 in
theorem c_X9_tell {X : sj_X} {N : Nat} {a0 : Nat} {x1 : Int} {x2 : Int} {x3 : Int} {s : sj_Mem} {q : Int × sj_Mem} (h : f_X9_tell N a0 x1 x2 x3 s = some q) : sj_C X m_X9_tell [sj_r (some a0), sj_i x1, sj_i x2, sj_i x3] s (some (sj_i q.1), q.2) :=
  sj_C_of (by decide +kernel) (Nat.le_of_ble_eq_true rfl) (lo := [some (sj_r (some a0)), some (sj_i x1), some (sj_i x2), some (sj_i x3)]) rfl (sj_weak (l2 := [some (sj_r (some a0)), some (sj_i x1), some (sj_i x2), some (sj_i x3)]) (⟨rfl, ⟨rfl, ⟨rfl, ⟨rfl, trivial⟩⟩⟩⟩) (t_X9_tell_0 a0 x1 x2 x3 s h))
theorem dX9_size_0 : decode cX9_size 0 = .ok (.iload_n 1, 1) := by decide +kernel
theorem dX9_size_1 : decode cX9_size 1 = .ok (.i2l, 1) := by decide +kernel
theorem dX9_size_2 : decode cX9_size 2 = .ok (.ldc2_w 64, 3) := by decide +kernel
theorem dX9_size_5 : decode cX9_size 5 = .ok (.ldc2_w 66, 3) := by decide +kernel
theorem dX9_size_8 : decode cX9_size 8 = .ok (.invokestatic 57, 3) := by decide +kernel
theorem dX9_size_11 : decode cX9_size 11 = .ok (.ifCond .eq 15, 3) := by decide +kernel
theorem dX9_size_14 : decode cX9_size 14 = .ok (.iload_n 2, 1) := by decide +kernel
theorem dX9_size_15 : decode cX9_size 15 = .ok (.i2l, 1) := by decide +kernel
theorem dX9_size_16 : decode cX9_size 16 = .ok (.lconst 1, 1) := by decide +kernel
theorem dX9_size_17 : decode cX9_size 17 = .ok (.ldc2_w 68, 3) := by decide +kernel
theorem dX9_size_20 : decode cX9_size 20 = .ok (.invokestatic 57, 3) := by decide +kernel
theorem dX9_size_23 : decode cX9_size 23 = .ok (.ifCond .ne 5, 3) := by decide +kernel
theorem dX9_size_26 : decode cX9_size 26 = .ok (.iconst 0, 1) := by decide +kernel
theorem dX9_size_27 : decode cX9_size 27 = .ok (.ireturn, 1) := by decide +kernel
theorem dX9_size_28 : decode cX9_size 28 = .ok (.aload_n 0, 1) := by decide +kernel
theorem dX9_size_29 : decode cX9_size 29 = .ok (.aload_n 0, 1) := by decide +kernel
theorem dX9_size_30 : decode cX9_size 30 = .ok (.getfield 9, 3) := by decide +kernel
theorem dX9_size_33 : decode cX9_size 33 = .ok (.invokevirtual 70, 3) := by decide +kernel
theorem dX9_size_36 : decode cX9_size 36 = .ok (.aload_n 0, 1) := by decide +kernel
theorem dX9_size_37 : decode cX9_size 37 = .ok (.iload_n 1, 1) := by decide +kernel
theorem dX9_size_38 : decode cX9_size 38 = .ok (.iload_n 2, 1) := by decide +kernel
theorem dX9_size_39 : decode cX9_size 39 = .ok (.invokevirtual 53, 3) := by decide +kernel
theorem dX9_size_42 : decode cX9_size 42 = .ok (.iconst 1, 1) := by decide +kernel
theorem dX9_size_43 : decode cX9_size 43 = .ok (.ireturn, 1) := by decide +kernel
set_option maxHeartbeats 4000000 in
theorem t_X9_size_0 {X : sj_X} {s0 : sj_Mem} {N : Nat} {q : Int × sj_Mem} :
    ∀ (a0 : Nat) (x1 : Int) (x2 : Int) (s : sj_Mem), f_X9_size N a0 x1 x2 s = some q → sj_T X m_X9_size s0 (some (sj_i q.1), q.2) 0 [some (sj_r (some a0)), some (sj_i x1), some (sj_i x2)] [] s := by
  intro a0 x1 x2 s h
  unfold f_X9_size at h
  refine r_iload_n (pc := 0) dX9_size_0 rfl rfl ?_
  refine r_i2l (pc := 1) h dX9_size_1 (fun v1 h => ?_)
  refine r_ldc2 (n := 4) (pc := 2) dX9_size_2 kc_X9_64 ?_
  refine r_ldc2 (n := 40) (pc := 5) dX9_size_5 kc_X9_66 ?_
  refine r_callS (pc := 8) (fun v => some (sj_i v)) (As := [sj_j v1, sj_j 4, sj_j 40]) (rest := []) h dX9_size_8 mw_X9_57 kw_1225 (fun _ _ hc => c_X9_isIn hc) rfl ⟨(Nat.le_of_ble_eq_true rfl), (Nat.le_of_ble_eq_true rfl)⟩ (Nat.le_of_ble_eq_true rfl) rfl (fun v3 s2 h => ?_)
  refine r_if_eq (pc := 11) (tgt := 26) h dX9_size_11 (by decide) (fun h => ?_) (fun h => ?_)
  · refine r_iconst (pc := 26) dX9_size_26 ?_
    exact r_zret (pc := 27) h rfl dX9_size_27
  · refine r_iload_n (pc := 14) dX9_size_14 rfl rfl ?_
    refine r_i2l (pc := 15) h dX9_size_15 (fun v4 h => ?_)
    refine r_lconst1 (pc := 16) dX9_size_16 ?_
    refine r_ldc2 (n := 10) (pc := 17) dX9_size_17 kc_X9_68 ?_
    refine r_callS (pc := 20) (fun v => some (sj_i v)) (As := [sj_j v4, sj_j 1, sj_j 10]) (rest := []) h dX9_size_20 mw_X9_57 kw_1225 (fun _ _ hc => c_X9_isIn hc) rfl ⟨(Nat.le_of_ble_eq_true rfl), (Nat.le_of_ble_eq_true rfl)⟩ (Nat.le_of_ble_eq_true rfl) rfl (fun v6 s5 h => ?_)
    refine r_if_ne (pc := 23) (tgt := 28) h dX9_size_23 (by decide) (fun h => ?_) (fun h => ?_)
    · refine r_iconst (pc := 26) dX9_size_26 ?_
      exact r_zret (pc := 27) h rfl dX9_size_27
    · refine r_aload_n (pc := 28) dX9_size_28 rfl rfl ?_
      refine r_aload_n (pc := 29) dX9_size_29 rfl rfl ?_
      refine r_gR (pc := 30) h dX9_size_30 fw_X9_9 rfl (fun r7 h => ?_)
      refine r_callV (pc := 33) (fun _ => none) (As := [sj_r r7]) (rest := []) h dX9_size_33 mw_X9_70 vw_X9_remembers (fun _ _ hc => c_X9_remembers hc) rfl ⟨(Nat.le_of_ble_eq_true rfl), (Nat.le_of_ble_eq_true rfl)⟩ (Nat.le_of_ble_eq_true rfl) rfl (fun _u s8 h => ?_)
      refine r_aload_n (pc := 36) dX9_size_36 rfl rfl ?_
      refine r_iload_n (pc := 37) dX9_size_37 rfl rfl ?_
      refine r_iload_n (pc := 38) dX9_size_38 rfl rfl ?_
      refine r_callV (pc := 39) (fun _ => none) (As := [sj_i x1, sj_i x2]) (rest := []) h dX9_size_39 mw_X9_53 vw_X9_begins (fun _ _ hc => c_X9_begins hc) rfl ⟨(Nat.le_of_ble_eq_true rfl), (Nat.le_of_ble_eq_true rfl)⟩ (Nat.le_of_ble_eq_true rfl) rfl (fun _u s9 h => ?_)
      refine r_iconst (pc := 42) dX9_size_42 ?_
      exact r_zret (pc := 43) h rfl dX9_size_43
set_option maxHeartbeats 4000000 in
theorem c_X9_size {X : sj_X} {N : Nat} {a0 : Nat} {x1 : Int} {x2 : Int} {s : sj_Mem} {q : Int × sj_Mem} (h : f_X9_size N a0 x1 x2 s = some q) : sj_C X m_X9_size [sj_r (some a0), sj_i x1, sj_i x2] s (some (sj_i q.1), q.2) :=
  sj_C_of (by decide +kernel) (Nat.le_of_ble_eq_true rfl) (lo := [some (sj_r (some a0)), some (sj_i x1), some (sj_i x2)]) rfl (sj_weak (l2 := [some (sj_r (some a0)), some (sj_i x1), some (sj_i x2)]) (⟨rfl, ⟨rfl, ⟨rfl, trivial⟩⟩⟩) (t_X9_size_0 a0 x1 x2 s h))
